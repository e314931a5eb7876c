/-! the reference's turns; what all owe, on both sides -/
def TT (b : Bk) : Nat → Nat → Nat := fun l j => tot b l j 900
theorem TT_lt {b : Bk} (hb : bOk b) : ∀ l j, l < 6 → j < 4 → TT b l j < 3000000 := fun l j _ _ => by
  have := tot_le hb l j 900 (Nat.le_refl _)
  unfold TT
  omega
def ow (b : Bk) : (Nat → Int32) × Bool := owT b (TT b)
theorem q_turn_loop {b : Bk} (hb : bOk b) (t : Nat → Nat → Nat) (ht : ∀ l j, l < 6 → j < 4 → t l j < 3000000) (o : Nat → Int32) : ∀ (k l : Nat), l + k = 6 → ∀ n (x : Int32) (S : vS), k < n → RE S b → (∀ o j, j < 4 → o < 6 → S (15 + j) o = nI (t o j)) → (∀ j, j < 6 → S 19 j = tr (svT b t) l o j) → S 0 4 = rI (!(ch (svT b t) l o)) → ∃ S', f_X4_finds_L53 n x (nI l) S = some S' ∧ Ag [19] [4] S S' ∧ (∀ j, j < 6 → S' 19 j = tr (svT b t) 6 o j) ∧ S' 0 4 = rI (!(ch (svT b t) 6 o)) := by
  intro k
  induction k with
  | zero =>
    intro l hl n x S hk hR hS h19 h4
    obtain ⟨n, rfl⟩ : ∃ q, n = q + 1 := ⟨n - 1, by omega⟩
    have : l = 6 := by omega
    subst this
    rw [f_X4_finds_L53, L6, if_pos ((nI_leI (by omega) (by omega)).mpr (by omega))]
    exact ⟨S, rfl, Ag.rf _ _ _, h19, h4⟩
  | succ k ih =>
    intro l hl n x S hk hR hS h19 h4
    obtain ⟨n, rfl⟩ : ∃ q, n = q + 1 := ⟨n - 1, by omega⟩
    have hl6 : l < 6 := by omega
    have hsay := fun oth => q_says (oth := oth) hR hb hl6 (hb.2.2.1 l hl6) (hS l 0 (by omega) hl6) (hS l 1 (by omega) hl6) (hS l 2 (by omega) hl6) (hS l 3 (by omega) hl6) (ht l 0 hl6 (by omega)) (ht l 2 hl6 (by omega))
    rw [f_X4_finds_L53, L6, if_neg (fun q => absurd ((nI_leI (by omega) (by omega)).mp q) (by omega)), p_sumOf4 19 (by decide) (by decide), ps_cong 6 h19]
    simp only [lt, inb_n hl6 (show l < 2 ^ 31 by omega), if_true, nI_clamp (show l < 2 ^ 31 by omega), h19 l hl6, hR.2.2.2.1 l hl6, hsay, b1, nI_1]
    generalize hv : svI b l (bK b l) (ps (tr (svT b t) l o) 6 - tr (svT b t) l o l) (whI b l (bK b l) (t l 0) (t l 1) (t l 2) (t l 3)) = v
    have hv2 : svT b t l (ps (tr (svT b t) l o) 6 - tr (svT b t) l o l) = v := hv
    have key : ∀ T : vS, Ag [19] [4] S T → (∀ j, T 19 j = if j = l then v else S 19 j) → T 0 4 = rI (!(ch (svT b t) (l + 1) o)) → ∃ S', f_X4_finds_L53 n x (nI (l + 1)) T = some S' ∧ Ag [19] [4] S S' ∧ (∀ j, j < 6 → S' 19 j = tr (svT b t) 6 o j) ∧ S' 0 4 = rI (!(ch (svT b t) 6 o)) := by
      intro T hA hT hT4
      obtain ⟨S', e, a, g, h⟩ := ih (l + 1) (by omega) n x T (by omega) (RE_ag hA (by decide) (by decide) hR) (fun o j hj ho => by rw [hA.1 (15 + j) (by omega) (by simp; omega)]; exact hS o j hj ho) (fun j hj => by
        rw [hT, tr, ol, hv2]
        by_cases e : j = l
        · rw [if_pos e, if_pos e]
        · rw [if_neg e, if_neg e]; exact h19 j hj) hT4
      exact ⟨S', e, hA.tr a, g, h⟩
    by_cases hq : v = tr (svT b t) l o l
    · rw [if_pos hq]
      exact key _ (Ag.k _ (by decide) (by decide)) (fun j => by rw [upk_eq, upd_k]) (by
        rw [upk_ne _ _ (by decide), h4, ch, hv2]
        simp [hq])
    · rw [if_neg hq]
      exact key _ ((Ag.j _ (by decide)).tr (Ag.k _ (by decide) (by decide))) (fun j => by rw [upk_eq, upd_k, upk_ne _ _ (by decide)]) (by
        rw [upk_ne _ _ (by decide), upk_eq, upd_k, if_pos rfl, ch, hv2]
        simp [hq, rI])
theorem q_finds_loop {b : Bk} (hb : bOk b) (t : Nat → Nat → Nat) (ht : ∀ l j, l < 6 → j < 4 → t l j < 3000000) : ∀ (k i : Nat), i + k = 20 → ∀ n (S : vS) (o : Nat → Int32) (r : Bool), k < n → RE S b → (∀ o j, j < 4 → o < 6 → S (15 + j) o = nI (t o j)) → (∀ j, j < 6 → S 19 j = o j) → S 0 4 = rI r → ∃ S', f_X4_finds_L33 n (nI i) S = some S' ∧ Ag [19] [4] S S' ∧ (∀ j, j < 6 → S' 19 j = (itr (svT b t) k o r).1 j) ∧ S' 0 4 = rI (itr (svT b t) k o r).2 := by
  intro k
  induction k with
  | zero =>
    intro i hi n S o r hk hR hS h19 h4
    obtain ⟨n, rfl⟩ : ∃ q, n = q + 1 := ⟨n - 1, by omega⟩
    rw [f_X4_finds_L33, L20, if_pos ((nI_leI (by omega) (by omega)).mpr (by omega))]
    exact ⟨S, rfl, Ag.rf _ _ _, h19, h4⟩
  | succ k ih =>
    intro i hi n S o r hk hR hS h19 h4
    obtain ⟨n, rfl⟩ : ∃ q, n = q + 1 := ⟨n - 1, by omega⟩
    rw [f_X4_finds_L33, L20, if_neg (fun q => absurd ((nI_leI (by omega) (by omega)).mp q) (by omega)), h4]
    cases r with
    | true =>
      rw [if_neg (by decide)]
      exact ⟨S, rfl, Ag.rf _ _ _, h19, h4⟩
    | false =>
      rw [if_pos (by decide)]
      simp only [lt, nI_1]
      have hA : Ag [19] [4] S (upk S 0 (upd (S 0) 4 1)) := Ag.j _ (by decide)
      obtain ⟨S1, e1, a1, g1, h1⟩ := q_turn_loop hb t ht o 6 0 (by omega) FU (nI i) (upk S 0 (upd (S 0) 4 1)) (by unfold FU; omega) (RE_ag hA (by decide) (by decide) hR) (fun o j hj ho => by rw [hA.1 (15 + j) (by omega) (by simp; omega)]; exact hS o j hj ho) (fun j hj => by rw [upk_ne _ _ (by decide)]; exact h19 j hj) (by rw [upk_eq, upd_k, if_pos rfl]; rfl)
      rw [← L0] at e1
      rw [e1]
      simp only [b1]
      have hAA := hA.tr a1
      obtain ⟨S', e, a, g, h⟩ := ih (i + 1) (by omega) n S1 (tr (svT b t) 6 o) (!(ch (svT b t) 6 o)) (by omega) (RE_ag hAA (by decide) (by decide) hR) (fun o j hj ho => by rw [hAA.1 (15 + j) (by omega) (by simp; omega)]; exact hS o j hj ho) g1 h1
      exact ⟨S', e, hAA.tr a, g, h⟩
theorem q_zero_loop : ∀ (k i : Nat), i + k = 6 → ∀ n (S : vS), k < n → ∃ S', f_X4_finds_L7 n (nI i) S = some S' ∧ Ag [19] [4] S S' ∧ (∀ j, i ≤ j → j < 6 → S' 19 j = 0) ∧ ∀ j, j < i → S' 19 j = S 19 j := by
  intro k
  induction k with
  | zero =>
    intro i hi n S hk
    obtain ⟨n, rfl⟩ : ∃ q, n = q + 1 := ⟨n - 1, by omega⟩
    rw [f_X4_finds_L7, L6, if_pos ((nI_leI (by omega) (by omega)).mpr (by omega))]
    exact ⟨S, rfl, Ag.rf _ _ _, fun j h1 h2 => by omega, fun j h => rfl⟩
  | succ k ih =>
    intro i hi n S hk
    obtain ⟨n, rfl⟩ : ∃ q, n = q + 1 := ⟨n - 1, by omega⟩
    rw [f_X4_finds_L7, L6, if_neg (fun q => absurd ((nI_leI (by omega) (by omega)).mp q) (by omega)), if_pos (inb_n (by omega) (by omega))]
    simp only [lt, nI_clamp (show i < 2 ^ 31 by omega), nI_1]
    have hA : Ag [19] [4] S (upk S 19 (upd (S 19) i 0)) := Ag.k _ (by decide) (by decide)
    obtain ⟨S', e, a, g, o⟩ := ih (i + 1) (by omega) n (upk S 19 (upd (S 19) i 0)) (by omega)
    refine ⟨S', e, hA.tr a, fun j h1 h2 => ?_, fun j h => ?_⟩
    · by_cases h3 : j = i
      · subst h3; rw [o j (by omega), upk_eq, upd_k, if_pos rfl]
      · exact g j (by omega) h2
    · rw [o j (by omega), upk_eq, upd_k, if_neg (by omega)]
theorem q_finds {b : Bk} (hb : bOk b) (hn : bN b ≤ 21) {S : vS} (hR : RE S b) : ∃ S', f_X4_finds (nI (bN b)) S = some S' ∧ Ag [14, 15, 16, 17, 18, 19] [4] S S' ∧ (∀ j, j < 6 → S' 19 j = (ow b).1 j) ∧ S' 0 4 = rI (ow b).2 := by
  obtain ⟨S1, e1, a1, -, g1⟩ := p_findMonths hb hn hR
  have hR1 := RE_ag a1 (by decide) (by decide) hR
  obtain ⟨S2, e2, a2, g2, -⟩ := q_zero_loop 6 0 (by omega) FU S1 (by unfold FU; omega)
  have hR2 := RE_ag a2 (by decide) (by decide) hR1
  have hA3 : Ag [19] [4] S2 (upk S2 0 (upd (S2 0) 4 0)) := Ag.j _ (by decide)
  have hA23 := a2.tr hA3
  obtain ⟨S4, e4, a4, g4, h4⟩ := q_finds_loop hb (TT b) (TT_lt hb) 20 0 (by omega) FU (upk S2 0 (upd (S2 0) 4 0)) (fun _ => 0) false (by unfold FU; omega) (RE_ag hA3 (by decide) (by decide) hR2) (fun o j hj ho => by rw [hA23.1 (15 + j) (by omega) (by simp; omega)]; exact g1 j o hj ho) (fun j hj => by rw [upk_ne _ _ (by decide)]; exact g2 j (by omega) hj) (by rw [upk_eq, upd_k, if_pos rfl]; rfl)
  rw [← L0] at e2 e4
  rw [f_X4_finds, e1]
  simp only [b1]
  rw [e2]
  simp only [lt]
  rw [e4]
  exact ⟨S4, rfl, ((a1.mono (by decide) (by decide)).tr (hA23.mono (by decide) (by decide))).tr (a4.mono (by decide) (by decide)), g4, h4⟩
/-- the class's arrays that are found anew -/
abbrev scX : List Nat := [25, 26, 27, 28, 29, 30, 31]
abbrev scJ : List Nat := [14, 15, 16]
theorem p_owedByAll {b : Bk} (hb : bOk b) (hn : bN b ≤ 20) {S : vS} (hX : RXb S b) : ∃ S', f_X3_owedByAll S = some (ps (ow b).1 6, S') ∧ Ag scX scJ S S' ∧ (∀ j, j < 6 → S' 31 j = (ow b).1 j) ∧ S' 0 16 = rI (ow b).2 ∧ ∀ o j, o < 6 → j < 4 → S' (26 + j) o = nI (TT b o j) := by
  obtain ⟨S1, e1, a1, s1⟩ := p_reckon hb hn hX
  have hX1 := RX_ag a1 (by decide) (by decide) (by decide) hX
  obtain ⟨S2, e2, a2, g2, h2⟩ := p_settle hb (TT b) (TT_lt hb) hX1 s1.1
  rw [f_X3_owedByAll, e1]
  simp only [b1]
  rw [e2]
  exact ⟨S2, rfl, (a1.mono (by decide) (by decide)).tr (a2.mono (by decide) (by decide)), g2, h2, fun o j ho hj => by rw [a2.1 (26 + j) (by omega) (by simp; omega)]; exact s1.1 o j ho hj⟩
