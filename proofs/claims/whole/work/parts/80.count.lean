/-! count -/
theorem c_made12 {S : vS} {b : Bk} (hX : RXb S b) (x : Nat) (hx : x < 6) : ∀ (k y : Nat), y + k = x → ∀ n (a : Nat), k < n → f_X0_madePacts_L12 S n (nI (a + sm (fun y => bP b x y) y)) (nI x) (nI y) = some (nI (a + sm (fun y => bP b x y) x)) := by
  intro k
  induction k with
  | zero =>
    intro y hy n a hk
    obtain ⟨n, rfl⟩ : ∃ q, n = q + 1 := ⟨n - 1, by omega⟩
    have : y = x := by omega
    subst this
    rw [f_X0_madePacts_L12, if_pos ((nI_leI (by omega) (by omega)).mpr (Nat.le_refl _))]
  | succ k ih =>
    intro y hy n a hk
    obtain ⟨n, rfl⟩ : ∃ q, n = q + 1 := ⟨n - 1, by omega⟩
    have hr := ih (y + 1) (by omega) n a (by omega)
    have es : a + sm (fun y => bP b x y) (y + 1) = a + sm (fun y => bP b x y) y + bP b x y := (Nat.add_assoc _ _ _).symm
    rw [es] at hr
    rw [f_X0_madePacts_L12, if_neg (fun q => absurd ((nI_leI (by omega) (by omega)).mp q) (by omega)), if_pos (inb_n (by omega) (by omega)), if_pos (inb_n (by omega) (by omega)), nI_clamp (by omega), nI_clamp (by omega), hX.2.2.2.2 x y hx (by omega), nI_1, nI_add]
    exact hr
theorem c_made4 {S : vS} {b : Bk} (hX : RXb S b) : ∀ (k x : Nat), x + k = 6 → ∀ n, k < n → f_X0_madePacts_L4 S n (nI (sm (fun x => sm (fun y => bP b x y) x) x)) (nI x) = some (nI (sm (fun x => sm (fun y => bP b x y) x) 6)) := by
  intro k
  induction k with
  | zero =>
    intro x hx n hk
    obtain ⟨n, rfl⟩ : ∃ q, n = q + 1 := ⟨n - 1, by omega⟩
    have : x = 6 := by omega
    subst this
    rw [f_X0_madePacts_L4, L6, if_pos ((nI_leI (by omega) (by omega)).mpr (Nat.le_refl _))]
  | succ k ih =>
    intro x hx n hk
    obtain ⟨n, rfl⟩ : ∃ q, n = q + 1 := ⟨n - 1, by omega⟩
    have hr := ih (x + 1) (by omega) n (by omega)
    have h12 := c_made12 hX x (by omega) x 0 (by omega) FU (sm (fun x => sm (fun y => bP b x y) x) x) (by unfold FU; omega)
    have es : sm (fun x => sm (fun y => bP b x y) x) (x + 1) = sm (fun x => sm (fun y => bP b x y) x) x + sm (fun y => bP b x y) x := rfl
    rw [es] at hr
    have e0 : sm (fun x => sm (fun y => bP b x y) x) x + sm (fun y => bP b x y) 0 = sm (fun x => sm (fun y => bP b x y) x) x := rfl
    rw [e0] at h12
    rw [f_X0_madePacts_L4, L6, if_neg (fun q => absurd ((nI_leI (by omega) (by omega)).mp q) (by omega)), L0, h12, b1_some, nI_1]
    exact hr
theorem c_made {S : vS} {b : Bk} (hX : RXb S b) : f_X0_madePacts S = some (nI (sm (fun x => sm (fun y => bP b x y) x) 6)) := by
  have h := c_made4 hX 6 0 (by omega) FU (by unfold FU; omega)
  have e0 : sm (fun x => sm (fun y => bP b x y) x) 0 = 0 := rfl
  rw [e0] at h
  rw [f_X0_madePacts, L0, h, b1_some]
theorem c_sum36 {S : vS} {b : Bk} (hM : RM S b) : ∀ (k j : Nat), j + k = 36 → ∀ n, k < n → f_X4_count_L98 S n (nI (sm (fun j => bP b (j / 6) (j % 6)) j)) (nI j) = some (nI (sm (fun j => bP b (j / 6) (j % 6)) 36)) := by
  intro k
  induction k with
  | zero =>
    intro j hj n hk
    obtain ⟨n, rfl⟩ : ∃ q, n = q + 1 := ⟨n - 1, by omega⟩
    have : j = 36 := by omega
    subst this
    rw [f_X4_count_L98, L36, if_pos ((nI_leI (by omega) (by omega)).mpr (Nat.le_refl _))]
  | succ k ih =>
    intro j hj n hk
    obtain ⟨n, rfl⟩ : ∃ q, n = q + 1 := ⟨n - 1, by omega⟩
    have hr := ih (j + 1) (by omega) n (by omega)
    have es : sm (fun j => bP b (j / 6) (j % 6)) (j + 1) = sm (fun j => bP b (j / 6) (j % 6)) j + bP b (j / 6) (j % 6) := rfl
    rw [es] at hr
    have h12 := hM.2.2.2 (j / 6) (j % 6) (by omega) (by omega)
    rw [show 6 * (j / 6) + j % 6 = j by omega] at h12
    rw [f_X4_count_L98, L36, if_neg (fun q => absurd ((nI_leI (by omega) (by omega)).mp q) (by omega)), if_pos (inb_n (by omega) (by omega)), nI_clamp (by omega), h12, nI_1, nI_add]
    exact hr
theorem c_half : ∀ v, v < 16 → nI (2 * v) / (2 : Int32) = nI v := by decide +kernel
theorem c_pairs {b : Bk} (hb : bOk b) : sm (fun j => bP b (j / 6) (j % 6)) 36 = 2 * sm (fun x => sm (fun y => bP b x y) x) 6 ∧ sm (fun x => sm (fun y => bP b x y) x) 6 < 16 := by
  have h := hb.2.2.2
  have z0 := h 0 0 (by decide) (by decide)
  have z1 := h 1 0 (by decide) (by decide)
  have z2 := h 2 0 (by decide) (by decide)
  have z3 := h 3 0 (by decide) (by decide)
  have z4 := h 4 0 (by decide) (by decide)
  have z5 := h 5 0 (by decide) (by decide)
  have y2 := h 2 1 (by decide) (by decide)
  have y3 := h 3 1 (by decide) (by decide)
  have y4 := h 4 1 (by decide) (by decide)
  have y5 := h 5 1 (by decide) (by decide)
  have x3 := h 3 2 (by decide) (by decide)
  have x4 := h 4 2 (by decide) (by decide)
  have x5 := h 5 2 (by decide) (by decide)
  have w4 := h 4 3 (by decide) (by decide)
  have w5 := h 5 3 (by decide) (by decide)
  have v5 := h 5 4 (by decide) (by decide)
  simp only [sm, Nat.reduceDiv, Nat.reduceMod]
  omega
theorem c_shown4 {S : vS} {b : Bk} (hM : RM S b) (hn : bN b ≤ 20) (h2 : S 0 2 = nI (bN b)) : ∀ (k i : Nat), i + k = bN b → ∀ n, k < n → f_X4_count_L71 S n (nI (shN b i)) (nI i) = some (nI (shN b (bN b))) := by
  intro k
  induction k with
  | zero =>
    intro i hi n hk
    obtain ⟨n, rfl⟩ : ∃ q, n = q + 1 := ⟨n - 1, by omega⟩
    have : i = bN b := by omega
    subst this
    rw [f_X4_count_L71, h2, if_pos ((nI_leI (by omega) (by omega)).mpr (Nat.le_refl _))]
  | succ k ih =>
    intro i hi n hk
    obtain ⟨n, rfl⟩ : ∃ q, n = q + 1 := ⟨n - 1, by omega⟩
    have hr := ih (i + 1) (by omega) n (by omega)
    have es : shN b (i + 1) = shN b i + bC b 6 i := rfl
    rw [es] at hr
    have r6 : S 9 i = nI (bC b 6 i) := hM.1 i 6 (by omega) (by omega)
    rw [f_X4_count_L71, h2, if_neg (fun q => absurd ((nI_leI (by omega) (by omega)).mp q) (by omega)), if_pos (inb_n (by omega) (by omega)), nI_clamp (by omega), r6, nI_1, nI_add]
    exact hr
theorem t_count {S : vS} (hI : IV S) (a : Int32) : ∃ r, f_X3_count a S = some r ∧ f_X4_count a S = some r := by
  obtain ⟨⟨b, i1⟩, ⟨tn, i2⟩, ⟨rn, i3⟩, i4, i5, hk9, kb, i6⟩ := id hI
  have hn := i1.2.1
  have L17 : (17 : Int32) = nI 17 := rfl
  have L11 : (11 : Int32) = nI 11 := rfl
  have lo : ∀ {j : Nat}, j < 2 ^ 31 → a < 0 → ¬ a = nI j := fun hj h e => nI_pos hj (e ▸ h)
  have hi : ∀ {j n : Nat}, j < n → n < 2 ^ 31 → nI n ≤ a → ¬ a = nI j := fun hj hn h e => absurd ((nI_leI hn (by omega)).mp (e ▸ h)) (by omega)
  rcases pk_ix a (n := 17) (by decide) with h | h | ⟨w, hw, rfl⟩
  · refine ⟨-9, ?_, ?_⟩
    · rw [f_X3_count, L0, if_neg (lo (by decide) h), L1, if_neg (lo (by decide) h), L2, if_neg (lo (by decide) h), L3, if_neg (lo (by decide) h), L4, if_neg (lo (by decide) h), L5, if_neg (lo (by decide) h), L10, if_pos (Int32.le_of_lt (neg_lt (by decide) h))]
    · rw [f_X4_count, f_X4_isIn, L11, if_pos (neg_lt (by decide) h), b1_some, if_pos rfl, L0, if_neg (lo (by decide) h), L1, if_neg (lo (by decide) h), L2, if_neg (lo (by decide) h), L3, if_neg (lo (by decide) h), L4, if_neg (lo (by decide) h), L5, if_neg (lo (by decide) h)]
  · have h16 : nI 16 < a := ge_gt (n := 17) (m := 16) (by decide) (by decide) h
    have h10 : ¬ a ≤ nI 10 := fun q => absurd (Int32.lt_of_lt_of_le (ge_gt (n := 17) (m := 10) (by decide) (by decide) h) q) (Int32.lt_irrefl)
    have h11 : ¬ a < nI 11 := fun q => absurd (Int32.lt_of_lt_of_le q (Int32.le_trans ((nI_leI (a := 11) (b := 17) (by decide) (by decide)).mpr (by decide)) h)) (Int32.lt_irrefl)
    refine ⟨-9, ?_, ?_⟩
    · rw [f_X3_count, L0, if_neg (hi (n := 17) (by decide) (by decide) h), L1, if_neg (hi (n := 17) (by decide) (by decide) h), L2, if_neg (hi (n := 17) (by decide) (by decide) h), L3, if_neg (hi (n := 17) (by decide) (by decide) h), L4, if_neg (hi (n := 17) (by decide) (by decide) h), L5, if_neg (hi (n := 17) (by decide) (by decide) h), L10, if_neg h10, L16, if_pos h16]
    · rw [f_X4_count, f_X4_isIn, L11, if_neg h11, L16, if_pos h16, b1_some, if_pos rfl, L0, if_neg (hi (n := 17) (by decide) (by decide) h), L1, if_neg (hi (n := 17) (by decide) (by decide) h), L2, if_neg (hi (n := 17) (by decide) (by decide) h), L3, if_neg (hi (n := 17) (by decide) (by decide) h), L4, if_neg (hi (n := 17) (by decide) (by decide) h), L5, if_neg (hi (n := 17) (by decide) (by decide) h)]
  · have nn : ∀ {x y : Nat}, x < 20 → y < 20 → x ≠ y → ¬ nI x = nI y := fun hx hy hxy q => hxy ((nI_eq (by omega) (by omega)).mp q)
    by_cases h11 : 11 ≤ w
    · have e10 : nI w - 10 = nI (w - 10) := by
        have : nI w = nI (w - 10) + nI 10 := by rw [nI_add, Nat.sub_add_cancel (by omega)]
        rw [this, L10]
        grind
      refine ⟨S 33 (w - 10), ?_, ?_⟩
      · rw [f_X3_count, L0, if_neg (nn (by omega) (by omega) (by omega)), L1, if_neg (nn (by omega) (by omega) (by omega)), L2, if_neg (nn (by omega) (by omega) (by omega)), L3, if_neg (nn (by omega) (by omega) (by omega)), L4, if_neg (nn (by omega) (by omega) (by omega)), L5, if_neg (nn (by omega) (by omega) (by omega)), e10, L10, if_neg (fun q => absurd ((nI_leI (by omega) (by omega)).mp q) (by omega)), L16, if_neg (fun q => absurd ((nI_ltI (by omega) (by omega)).mp q) (by omega)), if_pos (inb_n (by omega) (by omega)), nI_clamp (by omega)]
      · rw [f_X4_count, f_X4_isIn, L11, if_neg (fun q => absurd ((nI_ltI (by omega) (by omega)).mp q) (by omega)), L16, if_neg (fun q => absurd ((nI_ltI (by omega) (by omega)).mp q) (by omega)), b1_some, if_neg (by decide), e10, if_pos (inb_n (by omega) (by omega)), nI_clamp (by omega), i4]
    · have hin : f_X4_isIn (nI w) (11 : Int32) (16 : Int32) S = some 0 := by rw [f_X4_isIn, L11, if_pos ((nI_ltI (by omega) (by omega)).mpr (by omega))]
      by_cases h6 : 6 ≤ w
      · refine ⟨-9, ?_, ?_⟩
        · rw [f_X3_count, L0, if_neg (nn (by omega) (by omega) (by omega)), L1, if_neg (nn (by omega) (by omega) (by omega)), L2, if_neg (nn (by omega) (by omega) (by omega)), L3, if_neg (nn (by omega) (by omega) (by omega)), L4, if_neg (nn (by omega) (by omega) (by omega)), L5, if_neg (nn (by omega) (by omega) (by omega)), L10, if_pos ((nI_leI (by omega) (by omega)).mpr (by omega))]
        · rw [f_X4_count, hin, b1_some, if_pos rfl, L0, if_neg (nn (by omega) (by omega) (by omega)), L1, if_neg (nn (by omega) (by omega) (by omega)), L2, if_neg (nn (by omega) (by omega) (by omega)), L3, if_neg (nn (by omega) (by omega) (by omega)), L4, if_neg (nn (by omega) (by omega) (by omega)), L5, if_neg (nn (by omega) (by omega) (by omega))]
      · rcases (show w = 0 ∨ w = 1 ∨ w = 2 ∨ w = 3 ∨ w = 4 ∨ w = 5 by omega) with rfl | rfl | rfl | rfl | rfl | rfl
        · refine ⟨nI (bN b), ?_, ?_⟩
          · rw [f_X3_count, L0, if_pos rfl, i1.2.2.1.1]
          · rw [f_X4_count, hin, b1_some, if_pos rfl, L0, if_pos rfl, i1.2.2.2.2.1]
        · refine ⟨nI (shN b (bN b)), ?_, ?_⟩
          · rw [f_X3_count, if_neg (by decide), L1, if_pos rfl, p_shown i1.2.2.1 hn, b1_some]
          · have h := c_shown4 i1.2.2.2.1 hn i1.2.2.2.2.1 (bN b) 0 (by omega) FU (by unfold FU; omega)
            have e0 : shN b 0 = 0 := rfl
            rw [e0, ← L0] at h
            rw [f_X4_count, hin, b1_some, if_pos rfl, if_neg (by decide), L1, if_pos rfl, h, b1_some]
        · obtain ⟨q1, q2⟩ := c_pairs i1.1
          refine ⟨nI (sm (fun x => sm (fun y => bP b x y) x) 6), ?_, ?_⟩
          · rw [f_X3_count, if_neg (by decide), if_neg (by decide), if_pos (by decide), c_made i1.2.2.1, b1_some]
          · have h := c_sum36 i1.2.2.2.1 36 0 (by omega) FU (by unfold FU; omega)
            have e0 : sm (fun j => bP b (j / 6) (j % 6)) 0 = 0 := rfl
            rw [e0, ← L0, q1] at h
            rw [f_X4_count, hin, b1_some, if_pos rfl, if_neg (by decide), if_neg (by decide), if_pos (by decide), h, b1_some, c_half _ q2]
        · refine ⟨nI tn, ?_, ?_⟩
          · rw [f_X3_count, if_neg (by decide), if_neg (by decide), if_neg (by decide), if_pos (by decide), i2.2.2.1]
          · rw [f_X4_count, hin, b1_some, if_pos rfl, if_neg (by decide), if_neg (by decide), if_neg (by decide), if_pos (by decide), i2.2.1]
        · refine ⟨nI rn, ?_, ?_⟩
          · rw [f_X3_count, if_neg (by decide), if_neg (by decide), if_neg (by decide), if_neg (by decide), if_pos (by decide), i3.2.2.1]
          · rw [f_X4_count, hin, b1_some, if_pos rfl, if_neg (by decide), if_neg (by decide), if_neg (by decide), if_neg (by decide), if_pos (by decide), i3.2.1]
        · refine ⟨nI (bhN b (bN b)), ?_, ?_⟩
          · rw [f_X3_count, if_neg (by decide), if_neg (by decide), if_neg (by decide), if_neg (by decide), if_neg (by decide), if_pos (by decide), p_behind i1.2.2.1 i1.1 hn, b1_some]
          · rw [f_X4_count, hin, b1_some, if_pos rfl, if_neg (by decide), if_neg (by decide), if_neg (by decide), if_neg (by decide), if_neg (by decide), if_pos (by decide), q_behind i1.1 hn i1.2.2.2.1 i1.2.2.2.2.1, b1_some]
