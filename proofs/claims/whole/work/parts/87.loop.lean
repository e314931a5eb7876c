/-! the law's loop, pure -/
theorem cl {xs : Nat → Int32} {L : Nat} {f g : vS → Option (Int32 × vS)} {S : vS} (h : Alike f g S) {rc : Int32 → vS → Option (vS ⊕ (Int32 × vS))} {x3 : Int32} (hP : ∀ S', IV S' → ∃ S9, rc (x3 + 4) S' = some (.inl S9)) : ∃ S9, (b2 (f S) fun r S1 => b2 (g S1) fun r2 S2 => if r = r2 then f_L_law_J972 xs L rc x3 S2 else some (.inr ((0 : Int32), S2))) = some (.inl S9) := by
  obtain ⟨r, S1, S2, e1, e2, hI⟩ := h
  rw [e1, b2_some, e2, b2_some, if_pos rfl, f_L_law_J972]
  exact hP S2 hI
theorem l_end {L i : Nat} (hL : L ≤ 256) (hi : i ≤ 256) : (nI L - 4 < nI i) ↔ L < i + 4 := by
  by_cases h : 4 ≤ L
  · have e : nI L - 4 = nI (L - 4) := by
      have : nI L = nI (L - 4) + nI 4 := by rw [nI_add, Nat.sub_add_cancel h]
      rw [this, L4]; grind
    rw [e, nI_ltI (by omega) (by omega)]
    omega
  · have hn : nI L - 4 < 0 := by
      rcases (show L = 0 ∨ L = 1 ∨ L = 2 ∨ L = 3 by omega) with rfl | rfl | rfl | rfl <;> decide
    exact ⟨fun _ => by omega, fun _ => neg_lt (by omega) hn⟩
set_option maxHeartbeats 4000000 in
set_option maxRecDepth 20000 in
theorem l_loop {xs : Nat → Int32} {L : Nat} (hL : L ≤ 256) : ∀ (k i n : Nat) (S : vS), L ≤ i + k → i ≤ L → k < n → IV S → ∃ S9, f_L_law_L18 xs L n (nI i) S = some (.inl S9) := by
  intro k
  induction k using Nat.strongRecOn with
  | _ k ih =>
    intro i n S hk hi hn hI
    obtain ⟨n, rfl⟩ : ∃ q, n = q + 1 := ⟨n - 1, by omega⟩
    rw [f_L_law_L18]
    by_cases hc : L < i + 4
    · rw [if_pos ((l_end hL (by omega)).mpr hc)]
      exact ⟨S, rfl⟩
    · rw [if_neg (fun q => hc ((l_end hL (by omega)).mp q))]
      have i0 : inb (nI i) L = true := inb_n (by omega) (by omega)
      have i1 : inb (nI i + 1) L = true := by rw [nI_1]; exact inb_n (by omega) (by omega)
      have i2 : inb (nI i + 2) L = true := by rw [L2, nI_add]; exact inb_n (by omega) (by omega)
      have i3 : inb (nI i + 3) L = true := by rw [L3, nI_add]; exact inb_n (by omega) (by omega)
      have hP : ∀ S', IV S' → ∃ S9, f_L_law_L18 xs L n (nI i + 4) S' = some (.inl S9) := fun S' h' => by
        rw [L4, nI_add]
        exact ih (k - 4) (by omega) (i + 4) n S' (by omega) (by omega) (by omega) h'
      rw [if_pos i0]
      by_cases c0 : xs (nI i).toNatClampNeg &&& 31 = (0 : Int32)
      · rw [if_pos c0, if_pos i1, if_pos i2, if_pos i3]
        exact cl (t_feed hI _ _) hP
      rw [if_neg c0]
      by_cases c1 : xs (nI i).toNatClampNeg &&& 31 = (1 : Int32)
      · rw [if_pos c1]
        exact cl (t_spell hI) hP
      rw [if_neg c1]
      by_cases c2 : xs (nI i).toNatClampNeg &&& 31 = (2 : Int32)
      · rw [if_pos c2, if_pos i1, if_pos i2]
        exact cl (t_spellOf hI _ _) hP
      rw [if_neg c2]
      by_cases c3 : xs (nI i).toNatClampNeg &&& 31 = (3 : Int32)
      · rw [if_pos c3, if_pos i1, if_pos i2]
        by_cases z : xs (nI i + 2).toNatClampNeg = 0
        · rw [if_pos z, f_L_law_J288]
          obtain ⟨r, S1, S2, e1, e2, hI2⟩ := t_show hI (xs (nI i + 1).toNatClampNeg) 0 (Or.inl rfl)
          rw [e1, b2_some, if_pos i1, if_pos i2, if_pos z, e2, b2_some, if_pos rfl, f_L_law_J972]
          exact hP S2 hI2
        · rw [if_neg z, f_L_law_J288]
          obtain ⟨r, S1, S2, e1, e2, hI2⟩ := t_show hI (xs (nI i + 1).toNatClampNeg) 1 (Or.inr rfl)
          rw [e1, b2_some, if_pos i1, if_pos i2, if_neg z, e2, b2_some, if_pos rfl, f_L_law_J972]
          exact hP S2 hI2
      rw [if_neg c3]
      by_cases c4 : xs (nI i).toNatClampNeg &&& 31 = (4 : Int32)
      · rw [if_pos c4, if_pos i1, if_pos i2, if_pos i3]
        exact cl (t_law hI _ _ _) hP
      rw [if_neg c4]
      by_cases c5 : xs (nI i).toNatClampNeg &&& 31 = (5 : Int32)
      · rw [if_pos c5, if_pos i1, if_pos i2]
        exact cl (t_kind hI _ _) hP
      rw [if_neg c5]
      by_cases c6 : xs (nI i).toNatClampNeg &&& 31 = (6 : Int32)
      · rw [if_pos c6, if_pos i1, if_pos i2, if_pos i3]
        by_cases z : xs (nI i + 3).toNatClampNeg = 0
        · rw [if_pos z, f_L_law_J418]
          obtain ⟨r, S1, S2, e1, e2, hI2⟩ := t_pact hI (xs (nI i + 1).toNatClampNeg) (xs (nI i + 2).toNatClampNeg) 0 (Or.inl rfl)
          rw [e1, b2_some, if_pos i1, if_pos i2, if_pos i3, if_pos z, e2, b2_some, if_pos rfl, f_L_law_J972]
          exact hP S2 hI2
        · rw [if_neg z, f_L_law_J418]
          obtain ⟨r, S1, S2, e1, e2, hI2⟩ := t_pact hI (xs (nI i + 1).toNatClampNeg) (xs (nI i + 2).toNatClampNeg) 1 (Or.inr rfl)
          rw [e1, b2_some, if_pos i1, if_pos i2, if_pos i3, if_neg z, e2, b2_some, if_pos rfl, f_L_law_J972]
          exact hP S2 hI2
      rw [if_neg c6]
      by_cases c7 : xs (nI i).toNatClampNeg &&& 31 = (7 : Int32)
      · rw [if_pos c7, if_pos i1, if_pos i2]
        exact cl (t_counts hI _ _) hP
      rw [if_neg c7]
      by_cases c8 : xs (nI i).toNatClampNeg &&& 31 = (8 : Int32)
      · rw [if_pos c8, if_pos i1, if_pos i2]
        exact cl (t_month hI _ _) hP
      rw [if_neg c8]
      by_cases c9 : xs (nI i).toNatClampNeg &&& 31 = (9 : Int32)
      · rw [if_pos c9, if_pos i1]
        exact cl (t_over hI _) hP
      rw [if_neg c9]
      by_cases c10 : xs (nI i).toNatClampNeg &&& 31 = (10 : Int32)
      · rw [if_pos c10, if_pos i1, if_pos i2]
        exact cl (t_alone hI _ _) hP
      rw [if_neg c10]
      by_cases c11 : xs (nI i).toNatClampNeg &&& 31 = (11 : Int32)
      · rw [if_pos c11, if_pos i1, if_pos i2]
        by_cases z : xs (nI i + 2).toNatClampNeg = 0
        · rw [if_pos z, f_L_law_J594]
          obtain ⟨r, S1, S2, e1, e2, hI2⟩ := t_lacks hI (xs (nI i + 1).toNatClampNeg) 0
          rw [e1, b2_some, if_pos i1, if_pos i2, if_pos z, e2, b2_some, if_pos rfl, f_L_law_J972]
          exact hP S2 hI2
        · rw [if_neg z, f_L_law_J594]
          obtain ⟨r, S1, S2, e1, e2, hI2⟩ := t_lacks hI (xs (nI i + 1).toNatClampNeg) 1
          rw [e1, b2_some, if_pos i1, if_pos i2, if_neg z, e2, b2_some, if_pos rfl, f_L_law_J972]
          exact hP S2 hI2
      rw [if_neg c11]
      by_cases c12 : xs (nI i).toNatClampNeg &&& 31 = (12 : Int32)
      · rw [if_pos c12, if_pos i1]
        exact cl (t_owed hI _) hP
      rw [if_neg c12]
      by_cases c13 : xs (nI i).toNatClampNeg &&& 31 = (13 : Int32)
      · rw [if_pos c13]
        exact cl (t_rests hI) hP
      rw [if_neg c13]
      by_cases c14 : xs (nI i).toNatClampNeg &&& 31 = (14 : Int32)
      · rw [if_pos c14]
        exact cl (t_all hI) hP
      rw [if_neg c14]
      by_cases c15 : xs (nI i).toNatClampNeg &&& 31 = (15 : Int32)
      · rw [if_pos c15, if_pos i1, if_pos i2, if_pos i3]
        exact cl (t_asks hI _ _ _) hP
      rw [if_neg c15]
      by_cases c16 : xs (nI i).toNatClampNeg &&& 31 = (16 : Int32)
      · rw [if_pos c16, if_pos i1, if_pos i2]
        exact cl (t_when hI _ _) hP
      rw [if_neg c16]
      by_cases c17 : xs (nI i).toNatClampNeg &&& 31 = (17 : Int32)
      · rw [if_pos c17, if_pos i1]
        exact cl (t_lives hI _) hP
      rw [if_neg c17]
      by_cases c18 : xs (nI i).toNatClampNeg &&& 31 = (18 : Int32)
      · rw [if_pos c18]
        exact cl (t_where hI) hP
      rw [if_neg c18]
      by_cases c19 : xs (nI i).toNatClampNeg &&& 31 = (19 : Int32)
      · rw [if_pos c19, if_pos i1, if_pos i2]
        exact cl (t_edge hI _ _) hP
      rw [if_neg c19]
      by_cases c20 : xs (nI i).toNatClampNeg &&& 31 = (20 : Int32)
      · rw [if_pos c20]
        exact cl (t_hangs hI) hP
      rw [if_neg c20]
      by_cases c21 : xs (nI i).toNatClampNeg &&& 31 = (21 : Int32)
      · rw [if_pos c21, if_pos i1, if_pos i2]
        exact cl (t_year hI _ _) hP
      rw [if_neg c21]
      by_cases c22 : xs (nI i).toNatClampNeg &&& 31 = (22 : Int32)
      · rw [if_pos c22, if_pos i1]
        exact cl (t_proof hI _) hP
      rw [if_neg c22]
      by_cases c23 : xs (nI i).toNatClampNeg &&& 31 = (23 : Int32)
      · rw [if_pos c23, if_pos i1]
        exact cl (t_put hI _) hP
      rw [if_neg c23]
      by_cases c24 : xs (nI i).toNatClampNeg &&& 31 = (24 : Int32)
      · rw [if_pos c24]
        exact cl (t_judge hI) hP
      rw [if_neg c24]
      by_cases c25 : xs (nI i).toNatClampNeg &&& 31 = (25 : Int32)
      · rw [if_pos c25]
        exact cl (t_image hI) hP
      rw [if_neg c25]
      by_cases c26 : xs (nI i).toNatClampNeg &&& 31 = (26 : Int32)
      · rw [if_pos c26]
        exact cl (t_on hI) hP
      rw [if_neg c26]
      by_cases c27 : xs (nI i).toNatClampNeg &&& 31 = (27 : Int32)
      · rw [if_pos c27, if_pos i1]
        obtain ⟨r, e1, e2⟩ := t_count hI (xs (nI i + 1).toNatClampNeg)
        rw [e1, b1_some, e2, b1_some, if_pos rfl, f_L_law_J972]
        exact hP S hI
      rw [if_neg c27]
      rw [f_L_law_J972]
      exact hP S hI
theorem l_law {xs : Nat → Int32} {L : Nat} (hL : L ≤ 256) {S : vS} (hI : IV S) : ∃ S9, f_L_law xs L S = some (1, S9) := by
  obtain ⟨S9, e⟩ := l_loop (xs := xs) hL L 0 FU S (by omega) (by omega) (by unfold FU; omega) hI
  refine ⟨S9, ?_⟩
  rw [f_L_law, L0, e]
  rfl
