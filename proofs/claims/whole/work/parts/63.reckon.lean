/-- the sums of the first M months stand in S -/
def SX (b : Bk) (M : Nat) (S : vS) : Prop := (∀ o j, o < 6 → j < 4 → S (26 + j) o = nI (tot b o j M)) ∧ S 0 14 = nI (sm (ov b) M) ∧ S 0 15 = pC (foN b M)
theorem foN_le (b : Bk) : ∀ M, foN b M ≤ M := by
  intro M
  induction M with
  | zero => simp [foN]
  | succ M ih =>
    rw [foN]
    split
    · split <;> omega
    · omega
theorem p_addStretch {b : Bk} (hb : bOk b) (hn : bN b ≤ 20) {m t : Nat} (ht : 0 < t) (hm : m + t ≤ nxN b m (bN b)) {S : vS} (hX : RXb S b) (hS : SX b m S) : ∃ S', f_X1_addStretch (nI m) (nI t) S = some S' ∧ Ag [25, 26, 27, 28, 29] [14, 15] S S' ∧ SX b (m + t) S' := by
  have hnx := nxN_le b m (bN b)
  obtain ⟨S1, e1, a1, g1, -⟩ := p_stretch1 hb hn (m := m) (len := t) (by omega) 6 0 (by omega) FU S (by unfold FU; omega) hX
  have hX1 := RX_ag a1 (by decide) (by decide) (by decide) hX
  obtain ⟨S2, e2, a2, g2, -⟩ := p_stretch2 hb (m := m) (len := t) 6 0 (by omega) FU S1 (by unfold FU; omega) hX1 (fun o ho => g1 o (by omega) ho)
  have hX2 := RX_ag a2 (by decide) (by decide) (by decide) hX1
  have hA : Ag [25, 26, 27, 28, 29] [14, 15] S S2 := (a1.mono (by decide) (by decide)).tr (a2.mono (by decide) (by decide))
  have hrow : ∀ o j, o < 6 → j < 4 → S2 (26 + j) o = nI (tot b o j (m + t)) := by
    intro o j ho hj
    rw [g2 o j (by omega) ho hj, a1.1 (26 + j) (by omega) (by simp; omega), hS.1 o j ho hj, nI_add]
    unfold tot
    rw [sm_const t (fun i hi => inc_like (m := m) (m' := m + i) (by omega) (by omega) o j)]
  have h14 : S2 0 14 = nI (sm (ov b) m) := by rw [a2.2 14 (by decide), a1.2 14 (by decide)]; exact hS.2.1
  have h15 : S2 0 15 = pC (foN b m) := by rw [a2.2 15 (by decide), a1.2 15 (by decide)]; exact hS.2.2
  have hov : sm (ov b) (m + t) = sm (ov b) m + t * ov b m := sm_const t (fun i hi => by unfold ov; rw [hd_like (m := m) (m' := m + i) (by omega) (by omega) _ (Nat.le_refl _)])
  have hfo := fo_like (b := b) (m := m) t hm ht
  rw [f_X1_addStretch, L0, e1]
  simp only [b1]
  rw [e2]
  simp only [b1]
  rw [p_holders hX2 hb hn (by omega)]
  have hhd : hdN b m (bN b) < 2 ^ 31 := by
    have : ∀ i, hdN b m i ≤ i := by
      intro i
      induction i with
      | zero => simp [hdN]
      | succ i ih => rw [hdN]; split <;> omega
    have := this (bN b)
    omega
  simp only [b1, L2, nI_ltI hhd (show 2 < 2 ^ 31 by omega)]
  by_cases h2 : hdN b m (bN b) < 2
  · rw [if_pos h2]
    refine ⟨S2, rfl, hA, hrow, ?_, ?_⟩
    · rw [h14, hov]; simp [ov, show ¬ 2 ≤ hdN b m (bN b) by omega]
    · rw [h15, hfo, if_neg (show ¬ 2 ≤ hdN b m (bN b) by omega)]
      by_cases h3 : foN b m = 0
      · rw [if_pos h3, h3]
      · rw [if_neg h3]
  · rw [if_neg h2]
    have hfl := foN_le b m
    simp only [lt, upk_eq, upd_k, if_neg (show ¬ (15 : Nat) = 14 by decide), h15]
    have hAj : ∀ (T : vS) (j : Nat) (x : Int32), j = 14 ∨ j = 15 → Ag [25, 26, 27, 28, 29] [14, 15] T (upk T 0 (upd (T 0) j x)) := fun T j x hj => Ag.j x (by rcases hj with rfl | rfl <;> decide)
    by_cases h3 : foN b m = 0
    · rw [if_pos ((pC_n9 (by omega)).mpr h3)]
      refine ⟨_, rfl, (hA.tr (hAj _ 14 _ (Or.inl rfl))).tr (hAj _ 15 _ (Or.inr rfl)), ?_, ?_, ?_⟩
      · intro o j ho hj
        rw [upk_ne _ _ (by omega), upk_ne _ _ (by omega)]
        exact hrow o j ho hj
      · rw [upk_eq, upd_k, if_neg (by decide), upd_k, if_pos rfl, h14, nI_add, hov]
        simp [ov, show 2 ≤ hdN b m (bN b) by omega]
      · rw [upk_eq, upd_k, if_pos rfl, hfo, if_pos h3, if_pos (show 2 ≤ hdN b m (bN b) by omega), pC_pos (by omega)]
        rfl
    · rw [if_neg (fun q => h3 ((pC_n9 (by omega)).mp q))]
      refine ⟨_, rfl, (hA.tr (hAj _ 14 _ (Or.inl rfl))).tr (hAj _ 15 _ (Or.inr rfl)), ?_, ?_, ?_⟩
      · intro o j ho hj
        rw [upk_ne _ _ (by omega), upk_ne _ _ (by omega)]
        exact hrow o j ho hj
      · rw [upk_eq, upd_k, if_neg (by decide), upd_k, if_pos rfl, h14, nI_add, hov]
        simp [ov, show 2 ≤ hdN b m (bN b) by omega]
      · rw [upk_eq, upd_k, if_pos rfl, hfo, if_neg h3]
/-- how many changes are still to come: so many stretches at most -/
def chN (b : Bk) (m : Nat) : Nat → Nat
  | 0 => 0
  | i + 1 => chN b m i + (if m < bC b 2 i then 1 else 0) + (if m < bC b 3 i then 1 else 0)
theorem chN_le (b : Bk) (m : Nat) : ∀ i, chN b m i ≤ 2 * i := by
  intro i
  induction i with
  | zero => simp [chN]
  | succ i ih => rw [chN]; split <;> split <;> omega
theorem chN_mono (b : Bk) {m m' : Nat} (h : m ≤ m') : ∀ i, chN b m' i ≤ chN b m i := by
  intro i
  induction i with
  | zero => simp [chN]
  | succ i ih => rw [chN, chN]; split <;> split <;> split <;> split <;> omega
theorem nx_900 (b : Bk) (m : Nat) (hm : 900 ≤ m) : ∀ i, nxN b m i = 900 := by
  intro i
  induction i with
  | zero => rfl
  | succ i ih =>
    rw [nxN, ih]
    dsimp only
    split <;> split <;> omega
theorem chN_lt (b : Bk) (m : Nat) : ∀ i, nxN b m i < 900 → chN b (nxN b m i) i < chN b m i := by
  intro i
  induction i with
  | zero => intro h; simp [nxN] at h
  | succ i ih =>
    intro h
    have hm0 : m < 900 := by
      rcases Nat.lt_or_ge m 900 with q | q
      · exact q
      · have := nx_900 b m q (i + 1); omega
    rw [chN, chN]
    have hle : nxN b m (i + 1) ≤ nxN b m i := by
      rw [nxN]; dsimp only; split <;> split <;> omega
    have hsp := nx_sp b m (i + 1) i (by omega)
    by_cases e : nxN b m (i + 1) = nxN b m i
    · have := ih (by omega)
      rw [e] at hsp ⊢
      have hgt : ∀ x, nxN b m i < x → m < x := by
        intro x hx
        have := nx_gt b m hm0 i
        omega
      have g2 := hgt (bC b 2 i)
      have g3 := hgt (bC b 3 i)
      split <;> split <;> split <;> split <;> omega
    · -- a change of spell i is the next
      have hgt := nx_gt b m hm0 (i + 1)
      have hmono := chN_mono b (show m ≤ nxN b m (i + 1) by omega) i
      have hx : (m < bC b 2 i ∧ nxN b m (i + 1) = bC b 2 i) ∨ (m < bC b 3 i ∧ nxN b m (i + 1) = bC b 3 i) := by
        rw [nxN] at e ⊢
        dsimp only at e ⊢
        by_cases c2 : m < bC b 2 i
        · by_cases c3 : m < bC b 3 i
          · simp only [if_pos c2, if_pos c3] at e ⊢; omega
          · simp only [if_pos c2, if_neg c3] at e ⊢; omega
        · by_cases c3 : m < bC b 3 i
          · simp only [if_neg c2, if_pos c3] at e ⊢; omega
          · simp only [if_neg c2, if_neg c3] at e; exact absurd trivial e
      split <;> split <;> split <;> split <;> omega
theorem p_reckon_loop {b : Bk} (hb : bOk b) (hn : bN b ≤ 20) : ∀ (k m t : Nat), m ≤ 900 → t + chN b m (bN b) ≤ 40 ∨ m = 900 → 41 ≤ t + k → t ≤ 41 → ∀ n (S : vS), k < n → RXb S b → SX b m S → ∃ S', f_X1_reckon_L8 n (nI m) (nI t) S = some S' ∧ Ag [25, 26, 27, 28, 29] [14, 15] S S' ∧ SX b 900 S' := by
  intro k
  induction k with
  | zero =>
    intro m t hm ht hk ht2 n S hn2 hX hS
    obtain ⟨n, rfl⟩ : ∃ q, n = q + 1 := ⟨n - 1, by omega⟩
    have e : m = 900 := by omega
    subst e
    rw [f_X1_reckon_L8]
    refine ⟨S, ?_, Ag.rf _ _ _, hS⟩
    rw [L900, if_pos ((nI_leI (by omega) (by omega)).mpr (Nat.le_refl 900))]
    split <;> rfl
  | succ k ih =>
    intro m t hm ht hk ht2 n S hn2 hX hS
    obtain ⟨n, rfl⟩ : ∃ q, n = q + 1 := ⟨n - 1, by omega⟩
    rw [f_X1_reckon_L8]
    by_cases h9 : m = 900
    · subst h9
      refine ⟨S, ?_, Ag.rf _ _ _, hS⟩
      rw [L900, if_pos ((nI_leI (by omega) (by omega)).mpr (Nat.le_refl 900))]
      split <;> rfl
    · have ht3 : t + chN b m (bN b) ≤ 40 := by omega
      have hlt : m < 900 := by omega
      have hgt := nx_gt b m hlt (bN b)
      have hle := nxN_le b m (bN b)
      have e40 : (40 : Int32) = nI 40 := rfl
      rw [e40, if_neg (fun q => absurd ((nI_ltI (by omega) (by omega)).mp q) (by omega)), L900, if_neg (fun q => absurd ((nI_leI (by omega) (by omega)).mp q) (by omega)), p_next hX hb hn (by omega)]
      simp only [b1, pk_sub (Nat.le_of_lt hgt), L1, nI_add]
      obtain ⟨S1, e1, a1, s1⟩ := p_addStretch hb hn (m := m) (t := nxN b m (bN b) - m) (by omega) (by omega) hX hS
      rw [e1]
      dsimp only
      rw [show m + (nxN b m (bN b) - m) = nxN b m (bN b) by omega] at s1
      have hX1 := RX_ag a1 (by decide) (by decide) (by decide) hX
      have hch : t + 1 + chN b (nxN b m (bN b)) (bN b) ≤ 40 ∨ nxN b m (bN b) = 900 := by
        rcases Nat.lt_or_ge (nxN b m (bN b)) 900 with q | q
        · have := chN_lt b m (bN b) q; omega
        · omega
      obtain ⟨S2, e2, a2, s2⟩ := ih (nxN b m (bN b)) (t + 1) hle hch (by omega) (by omega) n S1 (by omega) hX1 s1
      exact ⟨S2, e2, a1.tr a2, s2⟩
theorem p_clear (S : vS) : ∃ S', f_X1_clear S = some S' ∧ Ag [25, 26, 27, 28, 29] [14, 15] S S' ∧ (∀ o j, o < 6 → j < 4 → S' (26 + j) o = nI 0) ∧ S' 0 14 = nI 0 ∧ S' 0 15 = -9 := by
  rw [f_X1_clear]
  simp only [p_fill 26 (by decide) _ (by decide), p_fill 27 (by decide) _ (by decide), p_fill 28 (by decide) _ (by decide), p_fill 29 (by decide) _ (by decide), b1, lt]
  refine ⟨_, rfl, ?_, ?_, ?_, ?_⟩
  · refine Ag.tr (Ag.tr (Ag.tr (Ag.tr (Ag.tr (Ag.k _ ?_ ?_) (Ag.k _ ?_ ?_)) (Ag.k _ ?_ ?_)) (Ag.k _ ?_ ?_)) (Ag.j _ ?_)) (Ag.j _ ?_) <;> decide
  · intro o j ho hj
    rcases (show j = 0 ∨ j = 1 ∨ j = 2 ∨ j = 3 by omega) with rfl | rfl | rfl | rfl <;> simp [upk_k, alen, ho, L0]
  · simp [upk_k, upd_k, L0]
  · simp [upk_k, upd_k]
theorem p_reckon {b : Bk} (hb : bOk b) (hn : bN b ≤ 20) {S : vS} (hX : RXb S b) : ∃ S', f_X1_reckon S = some S' ∧ Ag [25, 26, 27, 28, 29] [14, 15] S S' ∧ SX b 900 S' := by
  obtain ⟨S1, e1, a1, g1, g2, g3⟩ := p_clear S
  have hX1 := RX_ag a1 (by decide) (by decide) (by decide) hX
  have hch := chN_le b 0 (bN b)
  obtain ⟨S2, e2, a2, s2⟩ := p_reckon_loop hb hn 41 0 0 (by omega) (Or.inl (by omega)) (by omega) (by omega) FU S1 (by unfold FU; omega) hX1 ⟨g1, g2, g3⟩
  rw [f_X1_reckon, e1]
  simp only [b1]
  rw [L0, e2]
  exact ⟨S2, rfl, a1.tr a2, s2⟩
