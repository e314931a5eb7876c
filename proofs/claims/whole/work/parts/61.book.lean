/-! the class's book -/
theorem bit01 {z : Nat} (h : z ≤ 1) : nI z = nI 1 ↔ z = 1 := by
  rw [nI_eq (by omega) (by omega)]
theorem p_isHeld {S : vS} {b : Bk} (hX : RXb S b) (hb : bOk b) {s m : Nat} (hs : s < bN b) (hn : bN b ≤ 20) (hm : m < 2000) : f_X0_isHeld (nI s) (nI m) S = some (if held b m s = true then 1 else 0) := by
  obtain ⟨q0, q1, q2, q3, q4, q5, q6⟩ := hb.1 s hs
  rw [f_X0_isHeld, if_pos (inb_n (by omega) (by omega))]
  simp only [nI_clamp (show s < 2 ^ 31 by omega), hX.2.1 s 6 hs (by omega), hX.2.1 s 2 hs (by omega), hX.2.1 s 3 hs (by omega), L1, bit01 q6, nI_ltI (show m < 2 ^ 31 by omega) (show bC b 2 s < 2 ^ 31 by omega), nI_leI (show bC b 3 s < 2 ^ 31 by omega) (show m < 2 ^ 31 by omega)]
  unfold held
  by_cases h6 : bC b 6 s = 1
  · rw [if_pos h6]
    by_cases h2 : m < bC b 2 s
    · rw [if_pos h2, if_neg (by simp; omega)]
    · rw [if_neg h2]
      by_cases h3 : bC b 3 s ≤ m
      · rw [if_pos h3, if_neg (by simp; omega)]
      · rw [if_neg h3, if_pos (by simp; omega)]
  · rw [if_neg h6, if_neg (by simp [h6])]
theorem p_works {S : vS} {b : Bk} (hX : RXb S b) (hb : bOk b) {l w : Nat} (hl : l < 6) (hw : w < 4) : f_X0_workCounts (nI l) (nI w) S = some (if wk b l w = 1 then 1 else 0) := by
  have hv : bL b l 8 < 16 := by have := hb.2.1 l 8 hl (by omega); simp [mostN] at this; omega
  rw [f_X0_workCounts, if_pos (inb_n (by omega) (by omega))]
  simp only [nI_clamp (show l < 2 ^ 31 by omega), hX.2.2.1 l 8 hl (by omega)]
  rw [wk_i _ hv _ hw]
  have h2 : bL b l 8 / 2 ^ w % 2 ≤ 1 := by omega
  simp only [L1, bit01 h2]
  unfold wk
  split <;> rfl
theorem p_payAt_loop {S : vS} {b : Bk} (hX : RXb S b) (hb : bOk b) (hn : bN b ≤ 20) {l m : Nat} (hl : l < 6) (hm : m < 2000) : ∀ (k i : Nat), i + k = bN b → ∀ n, k < n → f_X0_payAt_L6 S n (nI l) (nI m) (pC (pvN b l m i)) (nI i) = some (pC (pv b l m)) := by
  intro k
  induction k with
  | zero =>
    intro i hi n hk
    obtain ⟨n, rfl⟩ : ∃ q, n = q + 1 := ⟨n - 1, by omega⟩
    have : i = bN b := by omega
    subst this
    rw [f_X0_payAt_L6, hX.1, if_pos ((nI_leI (by omega) (by omega)).mpr (Nat.le_refl _))]
    rfl
  | succ k ih =>
    intro i hi n hk
    obtain ⟨n, rfl⟩ : ∃ q, n = q + 1 := ⟨n - 1, by omega⟩
    have his : i < bN b := by omega
    obtain ⟨q0, q1, q2, q3, q4, q5, q6⟩ := hb.1 i his
    have hrec := ih (i + 1) (by omega) n (by omega)
    rw [f_X0_payAt_L6, hX.1, if_neg (fun q => absurd ((nI_leI (by omega) (by omega)).mp q) (by omega)), if_pos (inb_n (by omega) (by omega))]
    simp only [f_X0_payAt_J56, f_X0_payAt_J57, nI_clamp (show i < 2 ^ 31 by omega), hX.2.1 i 0 his (by omega), hX.2.1 i 1 his (by omega), hX.2.1 i 4 his (by omega), hX.2.1 i 5 his (by omega), p_works hX hb hl q1, p_isHeld hX hb his hn hm, alen_34 (show i < 20 by omega), b1, L1, bit01 q5, nI_eq (show bC b 0 i < 2 ^ 31 by omega) (show l < 2 ^ 31 by omega), nI_1, nI_lt1]
    rw [pvN] at hrec
    unfold cnd at hrec
    by_cases h0 : bC b 0 i = l
    · by_cases h5 : bC b 5 i = 1
      · by_cases hw : wk b l (bC b 1 i) = 1
        · by_cases hh : held b m i = true
          · rw [if_pos (by simp [h0, h5, hw, hh])] at hrec
            have hp := pvN_le b hb l m i (by omega)
            rw [← pC_max _ _ (by omega) (by omega)] at hrec
            simp only [if_pos h0, if_pos h5, if_pos hw, if_pos hh]
            rw [if_neg (by decide), if_neg (by decide), if_neg (by decide), if_pos (by omega), if_pos (by decide)]
            exact hrec
          · rw [if_neg (by simp [hh])] at hrec
            simp only [if_pos h0, if_pos h5, if_pos hw, if_neg hh]
            rw [if_neg (by decide), if_neg (by decide), if_pos (by decide)]
            exact hrec
        · rw [if_neg (by simp [hw])] at hrec
          simp only [if_pos h0, if_pos h5, if_neg hw]
          rw [if_pos (by decide)]
          exact hrec
      · rw [if_neg (by simp [h5])] at hrec
        simp only [if_pos h0, if_neg h5]
        exact hrec
    · rw [if_neg (by simp [h0])] at hrec
      simp only [if_neg h0]
      exact hrec
theorem p_payAt {S : vS} {b : Bk} (hX : RXb S b) (hb : bOk b) (hn : bN b ≤ 20) {l m : Nat} (hl : l < 6) (hm : m < 2000) : f_X0_payAt (nI l) (nI m) S = some (pC (pv b l m)) := by
  have h := p_payAt_loop hX hb hn hl hm (bN b) 0 (by omega) FU (by unfold FU; omega)
  rw [f_X0_payAt]
  have e : pC (pvN b l m 0) = -9 := rfl
  rw [e] at h
  rw [L0, h]
  rfl
theorem p_holders_loop {S : vS} {b : Bk} (hX : RXb S b) (hb : bOk b) (hn : bN b ≤ 20) {m : Nat} (hm : m < 2000) : ∀ (k i : Nat), i + k = bN b → ∀ n, k < n → f_X0_holders_L4 S n (nI m) (nI (hdN b m i)) (nI i) = some (nI (hdN b m (bN b))) := by
  intro k
  induction k with
  | zero =>
    intro i hi n hk
    obtain ⟨n, rfl⟩ : ∃ q, n = q + 1 := ⟨n - 1, by omega⟩
    have : i = bN b := by omega
    subst this
    rw [f_X0_holders_L4, hX.1, if_pos ((nI_leI (by omega) (by omega)).mpr (Nat.le_refl _))]
  | succ k ih =>
    intro i hi n hk
    obtain ⟨n, rfl⟩ : ∃ q, n = q + 1 := ⟨n - 1, by omega⟩
    have his : i < bN b := by omega
    have hrec := ih (i + 1) (by omega) n (by omega)
    rw [f_X0_holders_L4, hX.1, if_neg (fun q => absurd ((nI_leI (by omega) (by omega)).mp q) (by omega))]
    simp only [p_isHeld hX hb his hn hm, b1, L1, nI_1, nI_lt1]
    rw [hdN] at hrec
    by_cases hh : held b m i = true
    · simp only [if_pos hh] at hrec ⊢
      rw [if_neg (by decide)]
      exact hrec
    · simp only [if_neg hh] at hrec ⊢
      rw [if_pos (by decide)]
      exact hrec
theorem p_holders {S : vS} {b : Bk} (hX : RXb S b) (hb : bOk b) (hn : bN b ≤ 20) {m : Nat} (hm : m < 2000) : f_X0_holders (nI m) S = some (nI (hdN b m (bN b))) := by
  have h := p_holders_loop hX hb hn hm (bN b) 0 (by omega) FU (by unfold FU; omega)
  rw [f_X0_holders]
  rw [hdN] at h
  rw [L0, h]
  rfl
theorem p_next_loop {S : vS} {b : Bk} (hX : RXb S b) (hb : bOk b) (hn : bN b ≤ 20) {m : Nat} (hm : m < 2000) : ∀ (k i : Nat), i + k = bN b → ∀ n, k < n → f_X0_nextChange_L6 S n (nI m) (nI (nxN b m i)) (nI i) = some (nI (nxN b m (bN b))) := by
  intro k
  induction k with
  | zero =>
    intro i hi n hk
    obtain ⟨n, rfl⟩ : ∃ q, n = q + 1 := ⟨n - 1, by omega⟩
    have : i = bN b := by omega
    subst this
    rw [f_X0_nextChange_L6, hX.1, if_pos ((nI_leI (by omega) (by omega)).mpr (Nat.le_refl _))]
  | succ k ih =>
    intro i hi n hk
    obtain ⟨n, rfl⟩ : ∃ q, n = q + 1 := ⟨n - 1, by omega⟩
    have his : i < bN b := by omega
    obtain ⟨q0, q1, q2, q3, q4, q5, q6⟩ := hb.1 i his
    have hnx := nxN_le b m i
    have hrec := ih (i + 1) (by omega) n (by omega)
    rw [f_X0_nextChange_L6, hX.1, if_neg (fun q => absurd ((nI_leI (by omega) (by omega)).mp q) (by omega)), if_pos (inb_n (by omega) (by omega))]
    simp only [lt, f_X0_nextChange_J39, nI_clamp (show i < 2 ^ 31 by omega), hX.2.1 i 2 his (by omega), hX.2.1 i 3 his (by omega), alen_34 (show i < 20 by omega), nI_min _ _ (show nxN b m i < 2 ^ 31 by omega) (show bC b 2 i < 2 ^ 31 by omega), nI_min _ _ (show nxN b m i < 2 ^ 31 by omega) (show bC b 3 i < 2 ^ 31 by omega), nI_min _ _ (show min (nxN b m i) (bC b 2 i) < 2 ^ 31 by omega) (show bC b 3 i < 2 ^ 31 by omega), nI_leI (show bC b 2 i < 2 ^ 31 by omega) (show m < 2 ^ 31 by omega), nI_leI (show bC b 3 i < 2 ^ 31 by omega) (show m < 2 ^ 31 by omega), L1, nI_lt1]
    rw [nxN] at hrec
    dsimp only at hrec
    by_cases h2 : bC b 2 i ≤ m
    · rw [if_pos h2, if_pos (by omega), if_pos (by decide)]
      rw [if_neg (show ¬ m < bC b 2 i by omega)] at hrec
      by_cases h3 : bC b 3 i ≤ m
      · rw [if_pos h3]; rw [if_neg (show ¬ m < bC b 3 i by omega)] at hrec; exact hrec
      · rw [if_neg h3]; rw [if_pos (show m < bC b 3 i by omega)] at hrec; exact hrec
    · rw [if_neg h2, if_pos (by omega), if_pos (by decide)]
      rw [if_pos (show m < bC b 2 i by omega)] at hrec
      by_cases h3 : bC b 3 i ≤ m
      · rw [if_pos h3]; rw [if_neg (show ¬ m < bC b 3 i by omega)] at hrec; exact hrec
      · rw [if_neg h3]; rw [if_pos (show m < bC b 3 i by omega)] at hrec; exact hrec
theorem p_next {S : vS} {b : Bk} (hX : RXb S b) (hb : bOk b) (hn : bN b ≤ 20) {m : Nat} (hm : m < 2000) : f_X0_nextChange (nI m) S = some (nI (nxN b m (bN b))) := by
  have h := p_next_loop hX hb hn hm (bN b) 0 (by omega) FU (by unfold FU; omega)
  rw [f_X0_nextChange]
  rw [nxN] at h
  rw [L900, L0, h]
  rfl
theorem p_behind_loop {S : vS} {b : Bk} (hX : RXb S b) (hb : bOk b) (hn : bN b ≤ 20) : ∀ (k i : Nat), i + k = bN b → ∀ n, k < n → f_X0_behind_L4 S n (nI (bhN b i)) (nI i) = some (nI (bhN b (bN b))) := by
  intro k
  induction k with
  | zero =>
    intro i hi n hk
    obtain ⟨n, rfl⟩ : ∃ q, n = q + 1 := ⟨n - 1, by omega⟩
    have : i = bN b := by omega
    subst this
    rw [f_X0_behind_L4, hX.1, if_pos ((nI_leI (by omega) (by omega)).mpr (Nat.le_refl _))]
  | succ k ih =>
    intro i hi n hk
    obtain ⟨n, rfl⟩ : ∃ q, n = q + 1 := ⟨n - 1, by omega⟩
    have his : i < bN b := by omega
    obtain ⟨q0, q1, q2, q3, q4, q5, q6⟩ := hb.1 i his
    have hq := bhN_le b hb i (by omega)
    have hrec := ih (i + 1) (by omega) n (by omega)
    rw [f_X0_behind_L4, hX.1, if_neg (fun q => absurd ((nI_leI (by omega) (by omega)).mp q) (by omega)), if_pos (inb_n (by omega) (by omega))]
    simp only [lt, nI_clamp (show i < 2 ^ 31 by omega), hX.2.1 i 3 his (by omega), nI_max _ _ (show bhN b i < 2 ^ 31 by omega) (show bC b 3 i < 2 ^ 31 by omega), L1, nI_lt1]
    exact hrec
theorem p_behind {S : vS} {b : Bk} (hX : RXb S b) (hb : bOk b) (hn : bN b ≤ 20) : f_X0_behind S = some (nI (bhN b (bN b))) := by
  have h := p_behind_loop hX hb hn (bN b) 0 (by omega) FU (by unfold FU; omega)
  rw [f_X0_behind]
  rw [bhN] at h
  rw [L0, h]
  rfl
theorem p_shown_loop {S : vS} {b : Bk} (hX : RXb S b) (hn : bN b ≤ 20) : ∀ (k i : Nat), i + k = bN b → ∀ n, k < n → f_X0_shownSpells_L4 S n (nI (shN b i)) (nI i) = some (nI (shN b (bN b))) := by
  intro k
  induction k with
  | zero =>
    intro i hi n hk
    obtain ⟨n, rfl⟩ : ∃ q, n = q + 1 := ⟨n - 1, by omega⟩
    have : i = bN b := by omega
    subst this
    rw [f_X0_shownSpells_L4, hX.1, if_pos ((nI_leI (by omega) (by omega)).mpr (Nat.le_refl _))]
  | succ k ih =>
    intro i hi n hk
    obtain ⟨n, rfl⟩ : ∃ q, n = q + 1 := ⟨n - 1, by omega⟩
    have his : i < bN b := by omega
    have hrec := ih (i + 1) (by omega) n (by omega)
    rw [f_X0_shownSpells_L4, hX.1, if_neg (fun q => absurd ((nI_leI (by omega) (by omega)).mp q) (by omega)), if_pos (inb_n (by omega) (by omega))]
    simp only [lt, nI_clamp (show i < 2 ^ 31 by omega), hX.2.1 i 6 his (by omega), L1, nI_add]
    exact hrec
theorem p_shown {S : vS} {b : Bk} (hX : RXb S b) (hn : bN b ≤ 20) : f_X0_shownSpells S = some (nI (shN b (bN b))) := by
  have h := p_shown_loop hX hn (bN b) 0 (by omega) FU (by unfold FU; omega)
  rw [f_X0_shownSpells]
  rw [shN] at h
  rw [L0, h]
  rfl
