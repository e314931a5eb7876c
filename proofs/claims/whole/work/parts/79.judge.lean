/-! judge, over, count -/
theorem q_jfill : ∀ (k i : Nat), i + k = 6 → ∀ n (x : Int32) (S : vS), k < n → ∃ S', f_X4_judge_L12 n x (nI i) S = some S' ∧ Ag [20] [] S S' ∧ (∀ j, i ≤ j → j < 6 → S' 20 j = 0) ∧ ∀ j, j < i → S' 20 j = S 20 j := by
  intro k
  induction k with
  | zero =>
    intro i hi n x S hk
    obtain ⟨n, rfl⟩ : ∃ q, n = q + 1 := ⟨n - 1, by omega⟩
    rw [f_X4_judge_L12, L6, if_pos ((nI_leI (by omega) (by omega)).mpr (by omega))]
    exact ⟨S, rfl, Ag.rf _ _ _, fun j h1 h2 => by omega, fun j h => rfl⟩
  | succ k ih =>
    intro i hi n x S hk
    obtain ⟨n, rfl⟩ : ∃ q, n = q + 1 := ⟨n - 1, by omega⟩
    rw [f_X4_judge_L12, L6, if_neg (fun q => absurd ((nI_leI (by omega) (by omega)).mp q) (by omega)), if_pos (inb_n (by omega) (by omega))]
    simp only [lt, nI_clamp (show i < 2 ^ 31 by omega), nI_1]
    have hA : Ag [20] [] S (upk S 20 (upd (S 20) i 0)) := Ag.k _ (by decide) (by decide)
    obtain ⟨S', e, a, g, o⟩ := ih (i + 1) (by omega) n x (upk S 20 (upd (S 20) i 0)) (by omega)
    refine ⟨S', e, hA.tr a, fun j h1 h2 => ?_, fun j h => ?_⟩
    · by_cases h3 : j = i
      · subst h3; rw [o j (by omega), upk_eq, upd_k, if_pos rfl]
      · exact g j (by omega) h2
    · rw [o j (by omega), upk_eq, upd_k, if_neg (by omega)]
/-- the first land that isn't as its kind says -/
def jgS (b : Bk) (r : Nat → Int32) (n : Nat) : Nat → Nat → Int32
  | 0, _ => -9
  | k + 1, l => if n ≤ l then nI l else if r l = svT b (TT b) l (ps r 6 - r l) then jgS b r n k (l + 1) else nI l
theorem t_judge {S : vS} (hI : IV S) : Alike f_X3_judge f_X4_judge S := by
  obtain ⟨⟨b, i1⟩, ⟨tn, i2⟩, ⟨rn, i3⟩, i4, i5, hk9, kb, i6⟩ := id hI
  obtain ⟨r1, r2, r3, r4⟩ := id i3
  have hn := i1.2.1
  generalize hr : (fun j => if rn ≤ j ∧ j < 6 then (0 : Int32) else S 32 j) = r
  have hT : f_J7_fill_fda19 32 (nI rn) (nI 6) 0 S = some (upk S 32 r) := by rw [p_fill2 32 (by decide) 0 rn 6 r1 (by decide) (by decide), hr]
  generalize hS3 : upk (upk S 32 r) 0 (upd (S 0) 17 0) = S3
  have a3 : Ag [32] [17] S S3 := by
    rw [← hS3]
    refine ⟨fun k h0 hk => ?_, fun j hj => ?_⟩
    · rw [upk_ne _ _ h0, upk_ne _ _ (by simpa using hk)]
    · rw [upk_eq, upd_k, if_neg (by simpa using hj)]
  have i13 := IVb_ag a3 (by decide) (by decide) i1
  obtain ⟨S5, e5, a5, s5⟩ := p_reckon i13.1 hn i13.2.2.1
  have i15 := IVb_ag a5 (by decide) (by decide) i13
  have h32 : S5 32 = r := by rw [a5.1 32 (by decide) (by decide), ← hS3, upk_ne _ _ (by decide), upk_eq]
  have hloop : ∀ (k l : Nat), l + k = 6 → ∀ n, k < n → f_X3_judge_L45 S5 n (nI rn) (ps r 6) (nI l) = if jgS b r rn k l = -9 then some (.inl ()) else some (.inr (jgS b r rn k l, S5)) := by
    intro k
    induction k with
    | zero =>
      intro l hl n hk
      obtain ⟨n, rfl⟩ : ∃ q, n = q + 1 := ⟨n - 1, by omega⟩
      rw [f_X3_judge_L45, L6, if_pos ((nI_leI (by omega) (by omega)).mpr (by omega))]
      rfl
    | succ k ih =>
      intro l hl n hk
      obtain ⟨n, rfl⟩ : ∃ q, n = q + 1 := ⟨n - 1, by omega⟩
      have hl6 : l < 6 := by omega
      have tl := fun j => tot_le i1.1 l j 900 (Nat.le_refl _)
      have hne : ¬ nI l = -9 := fun q => by have h := m9_lt l (by omega); rw [q] at h; exact absurd h (by decide)
      rw [f_X3_judge_L45, L6, if_neg (fun q => absurd ((nI_leI (by omega) (by omega)).mp q) (by omega)), jgS]
      by_cases h : rn ≤ l
      · rw [if_pos ((nI_leI (by omega) (by omega)).mpr h), if_pos h, if_neg hne]
      · rw [if_neg (fun q => h ((nI_leI (by omega) (by omega)).mp q)), if_neg h, if_pos (inb_n hl6 (by omega)), nI_clamp (by omega), h32, i15.2.2.1.2.2.2.1 l hl6, f_X1_dueBy, if_pos (inb_n hl6 (by omega)), nI_clamp (by omega), p_dueWhole i15.2.2.1 i1.1 hl6 (i1.1.2.2.1 l hl6) (s5.1 l 0 hl6 (by omega)) (s5.1 l 1 hl6 (by omega)) (s5.1 l 2 hl6 (by omega)) (s5.1 l 3 hl6 (by omega)) (by have := tl 0; omega) (by have := tl 2; omega), b1_some, p_lessOthers i15.2.2.1 hl6 (i1.1.2.2.1 l hl6), b1_some, b1_some, nI_1]
        show (if r l = svT b (TT b) l (ps r 6 - r l) then _ else _) = _
        by_cases h2 : r l = svT b (TT b) l (ps r 6 - r l)
        · rw [if_pos h2, if_pos h2]
          exact ih (l + 1) (by omega) n (by omega)
        · rw [if_neg h2, if_neg h2, if_neg hne]
  have eX : f_X3_judge S = some (jgS b r rn 6 0, S5) := by
    have e17 : (upk S 32 r) 0 = S 0 := upk_ne _ _ (by decide)
    rw [f_X3_judge, r3, L6, hT, b1_some]
    simp only [lt, e17, hS3, r3]
    rw [e5, b1_some, p_sumOf3 32 (by decide) (by decide), b1_some, h32, L0, hloop 6 0 (by omega) FU (by unfold FU; omega)]
    by_cases h : jgS b r rn 6 0 = -9
    · rw [if_pos h, h]; rfl
    · rw [if_neg h]; rfl
  -- the reference
  have aX : Ag [25, 26, 27, 28, 29, 32] [14, 15, 17] S S5 := (a3.mono (by decide) (by decide)).tr (a5.mono (by decide) (by decide))
  have e5' : S5 0 5 = nI rn := by rw [aX.2 5 (by decide)]; exact r2
  have e20 : S5 20 = S 20 := aX.1 20 (by decide) (by decide)
  have a6 : Ag [20] [5] S5 (upk S5 0 (upd (S5 0) 5 0)) := Ag.j _ (by decide)
  obtain ⟨S7, e7, a7, g7, o7⟩ := q_jfill (6 - rn) rn (by omega) FU (nI rn) (upk S5 0 (upd (S5 0) 5 0)) (by unfold FU; omega)
  have a67 := a6.tr (a7.mono (by decide) (by decide))
  have i17 := IVb_ag (a67) (by decide) (by decide) i15
  obtain ⟨S8, e8, a8, -, t8⟩ := p_findMonths i17.1 (by omega) (RE_of i17)
  rw [← i17.2.2.2.2.1] at e8
  have i18 := IVb_ag a8 (by decide) (by decide) i17
  have h20 : ∀ j, j < 6 → S8 20 j = r j := fun j hj => by
    rw [a8.1 20 (by decide) (by decide), ← hr]
    show _ = if rn ≤ j ∧ j < 6 then (0 : Int32) else S 32 j
    by_cases h : rn ≤ j
    · rw [g7 j h hj, if_pos ⟨h, hj⟩]
    · rw [o7 j (by omega), upk_ne _ _ (by decide), e20, if_neg (fun q => h q.1)]; exact r4 j (by omega)
  have qloop : ∀ (k l : Nat), l + k = rn → ∀ n, k < n → (f_X4_judge_L41 S8 n (nI rn) (nI l) = some (.inl ()) ∧ jgS b r rn (6 - l) l = if 6 ≤ rn then -9 else nI rn) ∨ f_X4_judge_L41 S8 n (nI rn) (nI l) = some (.inr (jgS b r rn (6 - l) l, S8)) := by
    intro k
    induction k with
    | zero =>
      intro l hl n hk
      obtain ⟨n, rfl⟩ : ∃ q, n = q + 1 := ⟨n - 1, by omega⟩
      have hl6 : l = rn := by omega
      subst hl6
      refine Or.inl ⟨?_, ?_⟩
      · rw [f_X4_judge_L41, if_pos ((nI_leI (by omega) (by omega)).mpr (by omega))]
      · by_cases h : 6 ≤ l
        · have : l = 6 := by omega
          subst this
          rfl
        · rw [if_neg h, show 6 - l = (5 - l) + 1 by omega, jgS, if_pos (Nat.le_refl _)]
    | succ k ih =>
      intro l hl n hk
      obtain ⟨n, rfl⟩ : ∃ q, n = q + 1 := ⟨n - 1, by omega⟩
      have hl6 : l < 6 := by omega
      have tl := fun j => tot_le i1.1 l j 900 (Nat.le_refl _)
      have hsay := fun oth => q_says (oth := oth) (RE_of i18) i1.1 hl6 (i1.1.2.2.1 l hl6) (t8 0 l (by omega) hl6) (t8 1 l (by omega) hl6) (t8 2 l (by omega) hl6) (t8 3 l (by omega) hl6) (by have := tl 0; omega) (by have := tl 2; omega)
      have hrw : f_X4_judge_L41 S8 (n + 1) (nI rn) (nI l) = if r l = svT b (TT b) l (ps r 6 - r l) then f_X4_judge_L41 S8 n (nI rn) (nI (l + 1)) else some (.inr (nI l, S8)) := by
        rw [f_X4_judge_L41, if_neg (fun q => absurd ((nI_leI (by omega) (by omega)).mp q) (by omega)), if_pos (inb_n hl6 (by omega)), p_sumOf4 20 (by decide) (by decide), b1_some, nI_clamp (by omega), i18.2.2.2.1.2.2.1 l hl6, ps_cong 6 h20, h20 l hl6, hsay, b1_some, nI_1]
        rfl
      rw [hrw, show 6 - l = (5 - l) + 1 by omega, jgS, if_neg (show ¬ rn ≤ l by omega)]
      by_cases h2 : r l = svT b (TT b) l (ps r 6 - r l)
      · simp only [if_pos h2]
        have h9 := ih (l + 1) (by omega) n (by omega)
        rw [show 6 - (l + 1) = 5 - l by omega] at h9
        exact h9
      · simp only [if_neg h2]
        exact Or.inr trivial
  have aF : Ag [25, 26, 27, 28, 29, 32, 20, 14, 15, 16, 17, 18] [14, 15, 17, 5] S S8 := ((aX.mono (by decide) (by decide)).tr (a67.mono (by decide) (by decide))).tr (a8.mono (by decide) (by decide))
  refine ⟨jgS b r rn 6 0, S5, S8, eX, ?_, ⟨b, i18⟩, ⟨tn, IVt_ag aF (by decide) (by decide) i2⟩, ⟨0, by omega, ?_, ?_, fun j hj => by omega⟩, IVn_ag aF (by decide) i4, IVm_ag aF (by decide) i5, hk9, kb, IVk_ag aF (by decide) (by decide) i6⟩
  · rw [f_X4_judge]
    simp only [lt, e5']
    rw [e7, b1_some, e8, b1_some, L0, L6]
    rcases qloop rn 0 (by omega) FU (by unfold FU; omega) with ⟨q1, q2⟩ | q1
    · rw [q1, q2]
      show (if nI 6 ≤ nI rn then _ else _) = _
      by_cases h : 6 ≤ rn
      · rw [if_pos ((nI_leI (by omega) (by omega)).mpr h), if_pos h]
      · rw [if_neg (fun q => h ((nI_leI (by omega) (by omega)).mp q)), if_neg h]
    · rw [q1]; rfl
  · rw [a8.2 5 (by decide), a7.2 5 (by decide), upk_eq, upd_k, if_pos rfl]; rfl
  · rw [a8.2 17 (by decide), a67.2 17 (by decide), a5.2 17 (by decide), ← hS3, upk_eq, upd_k, if_pos rfl]; rfl
theorem t_over {S : vS} (hI : IV S) (a : Int32) : Alike (f_X3_over a) (f_X4_over a) S := by
  rcases pk_ix a (n := 2) (by decide) with h | h | ⟨w, hw, rfl⟩
  · exact ref_end hI (w := -2) (k := 2) (by decide) (by decide) (by rw [f_X3_over, if_pos h]) (fun S1 _ _ => by rw [f_X4_over, L1, q_isIn_no (by decide) (Or.inl h), b1_some, if_pos rfl])
  · exact ref_end hI (w := -2) (k := 2) (by decide) (by decide) (by rw [f_X3_over, if_neg (ge_nneg (by decide) h), L1, if_neg (fun q => absurd (Int32.lt_of_lt_of_le (ge_gt (n := 2) (m := 1) (by decide) (by decide) h) q) (Int32.lt_irrefl))]) (fun S1 _ _ => by rw [f_X4_over, L1, q_isIn_no (by decide) (Or.inr h), b1_some, if_pos rfl])
  · obtain ⟨⟨b, i1⟩, -⟩ := id hI
    have hn := i1.2.1
    obtain ⟨S1, e1, a1, s1⟩ := p_reckon i1.1 hn i1.2.2.1
    have i2 := IVb_ag a1 (by decide) (by decide) i1
    have hI1 := IV_ag a1 (by decide) (by decide) hI
    have inner : ∀ (m : Nat), m < 900 → ∀ (k i : Nat), i + k = bN b → ∀ n x1 x2 x3, k < n → f_X4_over_L37 S1 n x1 x2 x3 (nI m) (nI (hdN b m i)) (nI i) = some (nI (hdN b m (bN b))) := by
      intro m hm k
      induction k with
      | zero =>
        intro i hi n x1 x2 x3 hk
        obtain ⟨n, rfl⟩ : ∃ q, n = q + 1 := ⟨n - 1, by omega⟩
        have : i = bN b := by omega
        subst this
        rw [f_X4_over_L37, i2.2.2.2.2.1, if_pos ((nI_leI (by omega) (by omega)).mpr (Nat.le_refl _))]
      | succ k ih =>
        intro i hi n x1 x2 x3 hk
        obtain ⟨n, rfl⟩ : ∃ q, n = q + 1 := ⟨n - 1, by omega⟩
        obtain ⟨q0, q1, q2, q3, q4, q5, q6⟩ := i1.1.1 i (by omega)
        have r2 : S1 5 i = nI (bC b 2 i) := i2.2.2.2.1.1 i 2 (by omega) (by omega)
        have r3 : S1 6 i = nI (bC b 3 i) := i2.2.2.2.1.1 i 3 (by omega) (by omega)
        have r6 : S1 9 i = nI (bC b 6 i) := i2.2.2.2.1.1 i 6 (by omega) (by omega)
        have hrec := ih (i + 1) (by omega) n x1 x2 x3 (by omega)
        rw [hdN] at hrec
        unfold held at hrec
        rw [f_X4_over_L37, i2.2.2.2.2.1, if_neg (fun q => absurd ((nI_leI (by omega) (by omega)).mp q) (by omega)), if_pos (inb_n (by omega) (by omega)), nI_clamp (by omega), r2, r3, r6, nI_1, L0, L1, nI_add, nI_add]
        by_cases h6 : bC b 6 i = 1
        · rw [if_pos (by rw [h6])]
          by_cases h2 : m < bC b 2 i
          · rw [if_pos ((nI_ltI (by omega) (by omega)).mpr h2)]
            rw [if_neg (by simp only [decide_eq_true_eq]; omega)] at hrec
            exact hrec
          · rw [if_neg (fun q => h2 ((nI_ltI (by omega) (by omega)).mp q))]
            by_cases h3 : bC b 3 i ≤ m
            · rw [if_pos ((nI_leI (by omega) (by omega)).mpr h3)]
              rw [if_neg (by simp only [decide_eq_true_eq]; omega)] at hrec
              exact hrec
            · rw [if_neg (fun q => h3 ((nI_leI (by omega) (by omega)).mp q))]
              rw [if_pos (by simp only [decide_eq_true_eq]; omega)] at hrec
              exact hrec
        · rw [if_neg (fun q => h6 ((bit01 q6).mp q))]
          rw [if_neg (by simp only [decide_eq_true_eq]; omega)] at hrec
          exact hrec
    -- from the last month down
    have hsplit : ∀ M, M ≤ 900 → ∀ n x1, M < n → ∀ (u : Nat) (v : Int32), (u = sm (ov b) 900 - sm (ov b) M) → sm (ov b) M ≤ sm (ov b) 900 → (∀ f, f = foN b M → (if f = 0 then v else pC f) = pC (foN b 900)) → f_X4_over_L26 S1 n x1 (nI u) v (nI M - 1) = some (nI (sm (ov b) 900), pC (foN b 900)) := by
      intro M
      induction M with
      | zero =>
        intro hM n x1 hk u v hu hle hv
        obtain ⟨n, rfl⟩ : ∃ q, n = q + 1 := ⟨n - 1, by omega⟩
        rw [f_X4_over_L26, if_pos (by decide)]
        have h := hv _ rfl
        rw [if_pos (show foN b 0 = 0 from rfl)] at h
        rw [hu, h]
        rfl
      | succ M ih =>
        intro hM n x1 hk u v hu hle hv
        obtain ⟨n, rfl⟩ : ∃ q, n = q + 1 := ⟨n - 1, by omega⟩
        have hin := inner M (by omega) (bN b) 0 (by omega) FU x1 (nI u) v (by unfold FU; omega)
        rw [hdN, ← L0] at hin
        have es : sm (ov b) (M + 1) = sm (ov b) M + ov b M := rfl
        rw [es] at hu hle
        have hhd : hdN b M (bN b) < 2 ^ 31 := by
          have : ∀ i, hdN b M i ≤ i := by
            intro i
            induction i with
            | zero => simp [hdN]
            | succ i ih => rw [hdN]; split <;> omega
          have := this (bN b)
          omega
        rw [nI_pred, f_X4_over_L26, if_neg (nI_pos (by omega)), hin, b1_some, L2]
        have em : nI M + -1 = nI M - 1 := by grind
        rw [em]
        by_cases h2 : 2 ≤ hdN b M (bN b)
        · have hov : ov b M = 1 := by unfold ov; rw [if_pos h2]
          rw [hov] at hu hle
          rw [if_pos ((nI_leI (by omega) hhd).mpr h2), L1, nI_add]
          refine ih (by omega) n x1 (by omega) (u + 1) (nI M) (by omega) (by omega) (fun f hf => ?_)
          have h := hv _ rfl
          rw [foN] at h
          by_cases hz : foN b M = 0
          · rw [if_pos hz, if_pos h2, if_neg (by omega)] at h
            rw [hf, if_pos hz]
            rw [pC_pos (by omega)] at h
            exact h
          · rw [if_neg hz, if_neg hz] at h
            rw [hf, if_neg hz]
            exact h
        · have hov : ov b M = 0 := by unfold ov; rw [if_neg h2]
          rw [hov] at hu hle
          rw [if_neg (fun q => h2 ((nI_leI (by omega) hhd).mp q))]
          refine ih (by omega) n x1 (by omega) u v (by omega) (by omega) (fun f hf => ?_)
          have h := hv _ rfl
          rw [foN] at h
          by_cases hz : foN b M = 0
          · rw [if_pos hz, if_neg h2, if_pos rfl] at h
            rw [hf, if_pos hz]; exact h
          · rw [if_neg hz, if_neg hz] at h
            rw [hf, if_neg hz]; exact h
    have hall := hsplit 900 (Nat.le_refl _) FU (nI w) (by unfold FU; omega) 0 (-9) (by omega) (Nat.le_refl _) (fun f hf => by
      rw [hf]
      by_cases h : foN b 900 = 0
      · rw [if_pos h, h]; rfl
      · rw [if_neg h])
    have e899 : nI 900 - 1 = (899 : Int32) := by decide
    rw [e899, ← L0] at hall
    refine ⟨if nI w = 0 then nI (sm (ov b) 900) else pC (foN b 900), S1, S1, ?_, ?_, hI1⟩
    · rw [f_X3_over, if_neg (nI_pos (by omega)), L1, if_pos ((nI_leI (by omega) (by omega)).mpr (by omega)), e1, b1_some, s1.2.1, s1.2.2]
      split <;> rfl
    · rw [f_X4_over, L1, q_isIn_yes (by decide) (by omega), b1_some, if_neg (by decide), hall, b2_some]
      split <;> rfl
