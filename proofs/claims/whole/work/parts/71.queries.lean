/-! calls that only ask -/
theorem both_ow {S : vS} (hI : IV S) : ∃ b S1 S2, IVb S b ∧ f_X3_owedByAll S = some (ps (ow b).1 6, S1) ∧ IVb S1 b ∧ (∀ j, j < 6 → S1 31 j = (ow b).1 j) ∧ S1 0 16 = rI (ow b).2 ∧ f_X4_finds (S1 0 2) S1 = some S2 ∧ IVb S2 b ∧ (∀ j, j < 6 → S2 19 j = (ow b).1 j) ∧ S2 0 4 = rI (ow b).2 ∧ IV S2 := by
  obtain ⟨⟨b, i1⟩, -⟩ := id hI
  obtain ⟨S1, e1, a1, g1, h1, -⟩ := p_owedByAll i1.1 i1.2.1 i1.2.2.1
  have i2 := IVb_ag a1 (by decide) (by decide) i1
  obtain ⟨S2, e2, a2, g2, h2⟩ := q_finds i2.1 (by have := i2.2.1; omega) (RE_of i2)
  rw [← i2.2.2.2.2.1] at e2
  exact ⟨b, S1, S2, i1, e1, i2, g1, h1, e2, IVb_ag a2 (by decide) (by decide) i2, g2, h2, IV_ag a2 (by decide) (by decide) (IV_ag a1 (by decide) (by decide) hI)⟩
theorem both_cn {S : vS} (hI : IV S) : ∃ b S1 S2, IVb S b ∧ f_X1_reckon S = some S1 ∧ IVb S1 b ∧ SX b 900 S1 ∧ f_X4_findMonths (S1 0 2) S1 = some S2 ∧ IVb S2 b ∧ (∀ o i, o < 6 → i < 900 → S2 14 (900 * o + i) = mC (pv b o i)) ∧ (∀ j o, j < 4 → o < 6 → S2 (15 + j) o = nI (tot b o j 900)) ∧ IV S2 := by
  obtain ⟨⟨b, i1⟩, -⟩ := id hI
  obtain ⟨S1, e1, a1, s1⟩ := p_reckon i1.1 i1.2.1 i1.2.2.1
  have i2 := IVb_ag a1 (by decide) (by decide) i1
  obtain ⟨S2, e2, a2, g2, h2⟩ := p_findMonths i2.1 (by have := i2.2.1; omega) (RE_of i2)
  rw [← i2.2.2.2.2.1] at e2
  exact ⟨b, S1, S2, i1, e1, i2, s1, e2, IVb_ag a2 (by decide) (by decide) i2, g2, h2, IV_ag a2 (by decide) (by decide) (IV_ag a1 (by decide) (by decide) hI)⟩
theorem t_all {S : vS} (hI : IV S) : Alike f_X3_all f_X4_all S := by
  obtain ⟨b, S1, S2, i1, e1, i2, g1, h1, e2, i3, g2, h2, hI2⟩ := both_ow hI
  refine ⟨_, S1, S2, by rw [f_X3_all, b2_id, e1], ?_, hI2⟩
  rw [f_X4_all, e2]
  simp only [b1, p_sumOf4 19 (by decide) (by decide), ps_cong 6 g2]
theorem t_rests {S : vS} (hI : IV S) : Alike f_X3_rests f_X4_rests S := by
  obtain ⟨b, S1, S2, i1, e1, i2, g1, h1, e2, i3, g2, h2, hI2⟩ := both_ow hI
  refine ⟨if rI (ow b).2 = 0 then 0 else 1, S1, S2, ?_, ?_, hI2⟩
  · rw [f_X3_rests, e1]
    simp only [b2, h1]
    split <;> rfl
  · rw [f_X4_rests, e2]
    simp only [b1, h2]
    split <;> rfl
theorem t_owed {S : vS} (hI : IV S) (a : Int32) : Alike (f_X3_owed a) (f_X4_owed a) S := by
  rcases land_cases a with ⟨h3, h4⟩ | ⟨l, hl, rfl, h3, h4⟩
  · exact ref_end hI (w := -1) (k := 1) (by decide) (by decide) (by rw [f_X3_owed, h3]; rfl) (fun S1 _ _ => by rw [f_X4_owed, h4]; rfl)
  · obtain ⟨b, S1, S2, i1, e1, i2, g1, h1, e2, i3, g2, h2, hI2⟩ := both_ow hI
    refine ⟨(ow b).1 l, S1, S2, ?_, ?_, hI2⟩
    · rw [f_X3_owed, h3, e1]
      simp only [b1, b2, inb_n hl (show l < 2 ^ 31 by omega), if_true, nI_clamp (show l < 2 ^ 31 by omega), g1 l hl]
      rw [if_neg (by decide)]
    · rw [f_X4_owed, h4, e2]
      simp only [b1, inb_n hl (show l < 2 ^ 31 by omega), if_true, nI_clamp (show l < 2 ^ 31 by omega), g2 l hl]
      rw [if_neg (by decide)]
theorem t_counts {S : vS} (hI : IV S) (a c : Int32) : Alike (f_X3_counts a c) (f_X4_counts a c) S := by
  rcases land_cases a with ⟨h3, h4⟩ | ⟨l, hl, rfl, h3, h4⟩
  · exact ref_end hI (w := -1) (k := 1) (by decide) (by decide) (by rw [f_X3_counts, h3]; rfl) (fun S1 _ _ => by rw [f_X4_counts, h4]; rfl)
  · rcases pk_ix c (n := 4) (by decide) with h | h | ⟨w, hw, rfl⟩
    · refine ref_end hI (w := -2) (k := 2) (by decide) (by decide) ?_ (fun S1 _ _ => ?_)
      · rw [f_X3_counts, h3]; simp only [b1]; rw [if_neg (by decide), if_pos h]
      · rw [f_X4_counts, h4, L3, q_isIn_no (by decide) (Or.inl h)]; simp only [b1]; rw [if_neg (by decide), if_pos trivial]
    · refine ref_end hI (w := -2) (k := 2) (by decide) (by decide) ?_ (fun S1 _ _ => ?_)
      · rw [f_X3_counts, h3]; simp only [b1]; rw [if_neg (by decide), if_neg (ge_nneg (by decide) h), L3, if_neg (fun q => absurd (Int32.lt_of_lt_of_le (ge_gt (n := 4) (m := 3) (by decide) (by decide) h) q) (Int32.lt_irrefl))]
      · rw [f_X4_counts, h4, L3, q_isIn_no (by decide) (Or.inr h)]; simp only [b1]; rw [if_neg (by decide), if_pos trivial]
    · obtain ⟨b, S1, S2, i1, e1, i2, s1, e2, i3, g2, h2, hI2⟩ := both_cn hI
      refine ⟨nI (tot b l w 900), S1, S2, ?_, ?_, hI2⟩
      · rw [f_X3_counts, h3, e1]
        simp only [b1]
        rw [if_neg (by decide), if_neg (nI_pos (by omega)), L3, if_pos ((nI_leI (by omega) (by omega)).mpr (by omega))]
        have t0 := s1.1 l 0 hl (by omega)
        have t1 := s1.1 l 1 hl (by omega)
        have t2 := s1.1 l 2 hl (by omega)
        have t3 := s1.1 l 3 hl (by omega)
        rcases (show w = 0 ∨ w = 1 ∨ w = 2 ∨ w = 3 by omega) with rfl | rfl | rfl | rfl
        · rw [if_pos (by decide), if_pos (inb_n hl (by omega)), nI_clamp (by omega)]; rw [← t0]
        · rw [if_neg (by decide), if_pos (by decide), if_pos (inb_n hl (by omega)), nI_clamp (by omega)]; rw [← t1]
        · rw [if_neg (by decide), if_neg (by decide), if_pos (by decide), if_pos (inb_n hl (by omega)), nI_clamp (by omega)]; rw [← t2]
        · rw [if_neg (by decide), if_neg (by decide), if_neg (by decide), if_pos (inb_n hl (by omega)), nI_clamp (by omega)]; rw [← t3]
      · rw [f_X4_counts, h4, L3, q_isIn_yes (by decide) (by omega), e2]
        simp only [b1]
        rw [if_neg (by decide), if_neg (by decide)]
        have t0 := h2 0 l (by omega) hl
        have t1 := h2 1 l (by omega) hl
        have t2 := h2 2 l (by omega) hl
        have t3 := h2 3 l (by omega) hl
        rcases (show w = 0 ∨ w = 1 ∨ w = 2 ∨ w = 3 by omega) with rfl | rfl | rfl | rfl
        · rw [if_pos (by decide), if_pos (inb_n hl (by omega)), nI_clamp (by omega)]; rw [← t0]
        · rw [if_neg (by decide), if_pos (by decide), if_pos (inb_n hl (by omega)), nI_clamp (by omega)]; rw [← t1]
        · rw [if_neg (by decide), if_neg (by decide), if_pos (by decide), if_pos (inb_n hl (by omega)), nI_clamp (by omega)]; rw [← t2]
        · rw [if_neg (by decide), if_neg (by decide), if_neg (by decide), if_pos (inb_n hl (by omega)), nI_clamp (by omega)]; rw [← t3]
theorem t_month {S : vS} (hI : IV S) (a c : Int32) : Alike (f_X3_month a c) (f_X4_month a c) S := by
  rcases land_cases a with ⟨h3, h4⟩ | ⟨l, hl, rfl, h3, h4⟩
  · exact ref_end hI (w := -1) (k := 1) (by decide) (by decide) (by rw [f_X3_month, h3]; rfl) (fun S1 _ _ => by rw [f_X4_month, h4]; rfl)
  · rcases pk_ix c (n := 900) (by decide) with h | h | ⟨w, hw, rfl⟩
    · refine ref_end hI (w := -4) (k := 4) (by decide) (by decide) ?_ (fun S1 _ _ => ?_)
      · rw [f_X3_month, h3]; simp only [b1]; rw [if_neg (by decide), if_neg (fun q => absurd (Int32.lt_of_le_of_lt q h) (Int32.lt_irrefl))]
      · rw [f_X4_month, h4, q_out_lo _ h]; simp only [b1]; rw [if_neg (by decide), if_neg (by decide)]
    · refine ref_end hI (w := -6) (k := 6) (by decide) (by decide) ?_ (fun S1 _ _ => ?_)
      · rw [f_X3_month, h3]; simp only [b1]; rw [if_neg (by decide), if_pos (Int32.not_lt.mp (ge_nneg (by decide) h)), L900, if_neg (fun q => absurd (Int32.lt_of_lt_of_le q h) (Int32.lt_irrefl))]
      · rw [f_X4_month, h4, L899, q_out_hi (ge_nneg (by decide) h) (ge_gt (by decide) (by decide) h)]; simp only [b1]; rw [if_neg (by decide), if_neg (by decide)]
    · obtain ⟨⟨b, i1⟩, -⟩ := id hI
      obtain ⟨S2, e2, a2, g2, h2⟩ := p_findMonths i1.1 (by have := i1.2.1; omega) (RE_of i1)
      rw [← i1.2.2.2.2.1] at e2
      have hv := pv_le i1.1 l w
      refine ⟨pC (pv b l w), S, S2, ?_, ?_, IV_ag a2 (by decide) (by decide) hI⟩
      · rw [f_X3_month, h3]
        simp only [b1]
        rw [if_neg (by decide), if_pos (nI_pos' (by omega)), L900, if_pos ((nI_ltI (by omega) (by omega)).mpr hw), p_payAt i1.2.2.1 i1.1 i1.2.1 hl (by omega)]
      · rw [f_X4_month, h4, L899, q_out_in (nI_pos (by omega)) ((nI_leI (by omega) (by omega)).mpr (by omega)), e2]
        simp only [b1, lt]
        rw [if_neg (by decide), if_pos trivial, L900, m_idx hl hw, if_pos (inb_n (by omega) (by omega)), nI_clamp (by omega), g2 l w hl hw]
        simp only [mC_nn (show pv b l w ≤ 2000 by omega)]
        by_cases h : pv b l w = 0
        · rw [if_neg (fun q => q h), h]; rfl
        · rw [if_pos h, mC_pos h, pC_pos h]
theorem mx_comm (a b : Int32) : mx a b = mx b a := by
  rw [← gr_mx a b]
  unfold mx
  by_cases h : b < a
  · rw [if_pos h, if_neg (fun q => absurd (Int32.lt_of_le_of_lt q h) (Int32.lt_irrefl))]
  · rw [if_neg h, if_pos (Int32.not_lt.mp h)]
theorem t_alone {S : vS} (hI : IV S) (a c : Int32) : Alike (f_X3_alone a c) (f_X4_alone a c) S := by
  rcases land_cases a with ⟨h3, h4⟩ | ⟨l, hl, rfl, h3, h4⟩
  · exact ref_end hI (w := -1) (k := 1) (by decide) (by decide) (by rw [f_X3_alone, h3]; rfl) (fun S1 _ _ => by rw [f_X4_alone, h4]; rfl)
  · rcases kind_cases c with ⟨k3, k4⟩ | ⟨k, hk, rfl, k3, k4⟩
    · refine ref_end hI (w := -2) (k := 2) (by decide) (by decide) ?_ (fun S1 _ _ => ?_)
      · rw [f_X3_alone, h3, k3]; simp only [b1]; rw [if_neg (by decide), if_pos trivial]
      · rw [f_X4_alone, h4, k4]; simp only [b1]; rw [if_neg (by decide), if_pos trivial]
    · obtain ⟨b, S1, S2, i1, e1, i2, s1, e2, i3, g2, h2, hI2⟩ := both_cn hI
      have tl := fun j => tot_le i1.1 l j 900 (Nat.le_refl _)
      refine ⟨svI b l k 0 (whI b l k (tot b l 0 900) (tot b l 1 900) (tot b l 2 900) (tot b l 3 900)), S1, S2, ?_, ?_, hI2⟩
      · rw [f_X3_alone, h3, k3, e1]
        simp only [b1]
        rw [if_neg (by decide), if_neg (by decide), f_X1_dueBy, if_pos (inb_n hl (by omega)), nI_clamp (by omega), p_dueWhole i2.2.2.1 i2.1 hl hk (s1.1 l 0 hl (by omega)) (s1.1 l 1 hl (by omega)) (s1.1 l 2 hl (by omega)) (s1.1 l 3 hl (by omega)) (by have := tl 0; omega) (by have := tl 2; omega)]
        simp only [b1, p_lessOthers i2.2.2.1 hl hk]
      · rw [f_X4_alone, h4, k4, e2]
        simp only [b1]
        rw [if_neg (by decide), if_neg (by decide), q_says (RE_of i3) i3.1 hl hk (h2 0 l (by omega) hl) (h2 1 l (by omega) hl) (h2 2 l (by omega) hl) (h2 3 l (by omega) hl) (by have := tl 0; omega) (by have := tl 2; omega)]
theorem t_lacks {S : vS} (hI : IV S) (a c : Int32) : Alike (f_X3_lacks a c) (f_X4_lacks a c) S := by
  rcases land_cases a with ⟨h3, h4⟩ | ⟨l, hl, rfl, h3, h4⟩
  · exact ref_end hI (w := -1) (k := 1) (by decide) (by decide) (by rw [f_X3_lacks, h3]; rfl) (fun S1 _ _ => by rw [f_X4_lacks, h4]; rfl)
  · obtain ⟨b, S1, S2, i1, e1, i2, s1, e2, i3, g2, h2, hI2⟩ := both_cn hI
    refine ⟨mx 0 (mx (nI (bL b l 0)) 1 - nI (tot b l (if c = 0 then 0 else 2) 900)), S1, S2, ?_, ?_, hI2⟩
    · rw [f_X3_lacks, h3, e1]
      simp only [b1, f_X3_lacks_J49, inb_n hl (show l < 2 ^ 31 by omega), if_true, nI_clamp (show l < 2 ^ 31 by omega), i2.2.2.1.2.2.1 l 0 hl (by omega)]
      rw [if_neg (by decide), mx_comm 1]
      have t0 := s1.1 l 0 hl (by omega)
      have t2 := s1.1 l 2 hl (by omega)
      simp only [Nat.add_zero, Nat.reduceAdd] at t0 t2
      rw [t0, t2]
      split <;> rfl
    · rw [f_X4_lacks, h4, e2]
      simp only [b1]
      rw [if_neg (by decide), show (0 : Int32) = nI 0 from rfl, q_law (RE_of i3) hl (show 0 < 9 by omega), ← L0]
      have t0 := h2 0 l (by omega) hl
      have t2 := h2 2 l (by omega) hl
      simp only [Nat.add_zero, Nat.reduceAdd] at t0 t2
      simp only [q_gr, b1, inb_n hl (show l < 2 ^ 31 by omega), if_true, nI_clamp (show l < 2 ^ 31 by omega), t0, t2]
      simp only [mx_comm _ 0]
      split <;> rfl
