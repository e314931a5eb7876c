/-! judge, over, count -/
theorem q_jfill : ∀ (k i : Nat), i + k = 6 → ∀ n (x : Int32) (S : vS), k < n → ∃ S', f_X4_judge_L12 n x (nI i) S = some S' ∧ Ag [20] [] S S' ∧ (∀ j, i ≤ j → j < 6 → S' 20 j = 0) ∧ ∀ j, j < i → S' 20 j = S 20 j := by
  intro k
  induction k with
  | zero =>
    intro i hi n x S hk
    obtain ⟨n, rfl⟩ : ∃ q, n = q + 1 := ⟨n - 1, by omega⟩
    rw [f_X4_judge_L12, L6, if_pos ((nI_leI (by omega) (by omega)).mpr (by omega))]
    exact ⟨S, rfl, Ag.rf _ _ _, fun j h1 h2 => by omega, fun j h => rfl⟩
  | succ k ih =>
    intro i hi n x S hk
    obtain ⟨n, rfl⟩ : ∃ q, n = q + 1 := ⟨n - 1, by omega⟩
    rw [f_X4_judge_L12, L6, if_neg (fun q => absurd ((nI_leI (by omega) (by omega)).mp q) (by omega)), if_pos (inb_n (by omega) (by omega))]
    simp only [lt, nI_clamp (show i < 2 ^ 31 by omega), nI_1]
    have hA : Ag [20] [] S (upk S 20 (upd (S 20) i 0)) := Ag.k _ (by decide) (by decide)
    obtain ⟨S', e, a, g, o⟩ := ih (i + 1) (by omega) n x (upk S 20 (upd (S 20) i 0)) (by omega)
    refine ⟨S', e, hA.tr a, fun j h1 h2 => ?_, fun j h => ?_⟩
    · by_cases h3 : j = i
      · subst h3; rw [o j (by omega), upk_eq, upd_k, if_pos rfl]
      · exact g j (by omega) h2
    · rw [o j (by omega), upk_eq, upd_k, if_neg (by omega)]
/-- the first land that isn't as its kind says -/
def jgS (b : Bk) (r : Nat → Int32) (n : Nat) : Nat → Nat → Int32
  | 0, _ => -9
  | k + 1, l => if n ≤ l then nI l else if r l = svT b (TT b) l (ps r 6 - r l) then jgS b r n k (l + 1) else nI l
theorem t_judge {S : vS} (hI : IV S) : Alike f_X3_judge f_X4_judge S := by
  obtain ⟨⟨b, i1⟩, ⟨tn, i2⟩, ⟨rn, i3⟩, i4, i5, hk9, kb, i6⟩ := id hI
  obtain ⟨r1, r2, r3, r4⟩ := id i3
  have hn := i1.2.1
  generalize hr : (fun j => if rn ≤ j ∧ j < 6 then (0 : Int32) else S 32 j) = r
  have hT : f_J7_fill_fda19 32 (nI rn) (nI 6) 0 S = some (upk S 32 r) := by rw [p_fill2 32 (by decide) 0 rn 6 r1 (by decide) (by decide), hr]
  generalize hS3 : upk (upk S 32 r) 0 (upd (S 0) 17 0) = S3
  have a3 : Ag [32] [17] S S3 := by
    rw [← hS3]
    refine ⟨fun k h0 hk => ?_, fun j hj => ?_⟩
    · rw [upk_ne _ _ h0, upk_ne _ _ (by simpa using hk)]
    · rw [upk_eq, upd_k, if_neg (by simpa using hj)]
  have i13 := IVb_ag a3 (by decide) (by decide) i1
  obtain ⟨S5, e5, a5, s5⟩ := p_reckon i13.1 hn i13.2.2.1
  have i15 := IVb_ag a5 (by decide) (by decide) i13
  have h32 : S5 32 = r := by rw [a5.1 32 (by decide) (by decide), ← hS3, upk_ne _ _ (by decide), upk_eq]
  have hloop : ∀ (k l : Nat), l + k = 6 → ∀ n, k < n → f_X3_judge_L45 S5 n (nI rn) (ps r 6) (nI l) = if jgS b r rn k l = -9 then some (.inl ()) else some (.inr (jgS b r rn k l, S5)) := by
    intro k
    induction k with
    | zero =>
      intro l hl n hk
      obtain ⟨n, rfl⟩ : ∃ q, n = q + 1 := ⟨n - 1, by omega⟩
      rw [f_X3_judge_L45, L6, if_pos ((nI_leI (by omega) (by omega)).mpr (by omega))]
      rfl
    | succ k ih =>
      intro l hl n hk
      obtain ⟨n, rfl⟩ : ∃ q, n = q + 1 := ⟨n - 1, by omega⟩
      have hl6 : l < 6 := by omega
      have tl := fun j => tot_le i1.1 l j 900 (Nat.le_refl _)
      have hne : ¬ nI l = -9 := fun q => by have h := m9_lt l (by omega); rw [q] at h; exact absurd h (by decide)
      rw [f_X3_judge_L45, L6, if_neg (fun q => absurd ((nI_leI (by omega) (by omega)).mp q) (by omega)), jgS]
      by_cases h : rn ≤ l
      · rw [if_pos ((nI_leI (by omega) (by omega)).mpr h), if_pos h, if_neg hne]
      · rw [if_neg (fun q => h ((nI_leI (by omega) (by omega)).mp q)), if_neg h, if_pos (inb_n hl6 (by omega)), nI_clamp (by omega), h32, i15.2.2.1.2.2.2.1 l hl6, f_X1_dueBy, if_pos (inb_n hl6 (by omega)), nI_clamp (by omega), p_dueWhole i15.2.2.1 i1.1 hl6 (i1.1.2.2.1 l hl6) (s5.1 l 0 hl6 (by omega)) (s5.1 l 1 hl6 (by omega)) (s5.1 l 2 hl6 (by omega)) (s5.1 l 3 hl6 (by omega)) (by have := tl 0; omega) (by have := tl 2; omega), b1_some, p_lessOthers i15.2.2.1 hl6 (i1.1.2.2.1 l hl6), b1_some, b1_some, nI_1]
        show (if r l = svT b (TT b) l (ps r 6 - r l) then _ else _) = _
        by_cases h2 : r l = svT b (TT b) l (ps r 6 - r l)
        · rw [if_pos h2, if_pos h2]
          exact ih (l + 1) (by omega) n (by omega)
        · rw [if_neg h2, if_neg h2, if_neg hne]
  have eX : f_X3_judge S = some (jgS b r rn 6 0, S5) := by
    have e17 : (upk S 32 r) 0 = S 0 := upk_ne _ _ (by decide)
    rw [f_X3_judge, r3, L6, hT, b1_some]
    simp only [lt, e17, hS3, r3]
    rw [e5, b1_some, p_sumOf3 32 (by decide) (by decide), b1_some, h32, L0, hloop 6 0 (by omega) FU (by unfold FU; omega)]
    by_cases h : jgS b r rn 6 0 = -9
    · rw [if_pos h, h]; rfl
    · rw [if_neg h]; rfl
  -- the reference
  have aX : Ag [25, 26, 27, 28, 29, 32] [14, 15, 17] S S5 := (a3.mono (by decide) (by decide)).tr (a5.mono (by decide) (by decide))
  have e5' : S5 0 5 = nI rn := by rw [aX.2 5 (by decide)]; exact r2
  have e20 : S5 20 = S 20 := aX.1 20 (by decide) (by decide)
  have a6 : Ag [20] [5] S5 (upk S5 0 (upd (S5 0) 5 0)) := Ag.j _ (by decide)
  obtain ⟨S7, e7, a7, g7, o7⟩ := q_jfill (6 - rn) rn (by omega) FU (nI rn) (upk S5 0 (upd (S5 0) 5 0)) (by unfold FU; omega)
  have a67 := a6.tr (a7.mono (by decide) (by decide))
  have i17 := IVb_ag (a67) (by decide) (by decide) i15
  obtain ⟨S8, e8, a8, -, t8⟩ := p_findMonths i17.1 (by omega) (RE_of i17)
  rw [← i17.2.2.2.2.1] at e8
  have i18 := IVb_ag a8 (by decide) (by decide) i17
  have h20 : ∀ j, j < 6 → S8 20 j = r j := fun j hj => by
    rw [a8.1 20 (by decide) (by decide), ← hr]
    by_cases h : rn ≤ j
    · rw [g7 j h hj, if_pos ⟨h, hj⟩]
    · rw [o7 j (by omega), upk_ne _ _ (by decide), e20, if_neg (fun q => h q.1)]; exact r4 j (by omega)
  have qloop : ∀ (k l : Nat), l + k = 6 → ∀ n, k < n → ∃ q, f_X4_judge_L41 S8 n (nI rn) (nI l) = some q ∧ ((q = .inl () ∧ jgS b r rn k l = if 6 ≤ rn then -9 else nI (max l rn)) ∨ q = .inr (jgS b r rn k l, S8)) := by
    intro k
    induction k with
    | zero =>
      intro l hl n hk
      obtain ⟨n, rfl⟩ : ∃ q, n = q + 1 := ⟨n - 1, by omega⟩
      have hl6 : l = 6 := by omega
      subst hl6
      rw [f_X4_judge_L41, if_pos ((nI_leI (by omega) (by omega)).mpr (by omega))]
      by_cases h : 6 ≤ rn
      · exact ⟨_, rfl, Or.inl ⟨rfl, by rw [if_pos h]; rfl⟩⟩
      · sorry
    | succ k ih =>
      intro l hl n hk
      obtain ⟨n, rfl⟩ : ∃ q, n = q + 1 := ⟨n - 1, by omega⟩
      sorry
  sorry
