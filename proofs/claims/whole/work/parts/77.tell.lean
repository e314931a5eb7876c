/-! telling: spells shown, laws, kinds, pacts, sums -/
theorem IV_bk {ks js : List Nat} {S S' : vS} {b' : Bk} (h : Ag ks js S S') (hk : ∀ k, k ∈ ks → (3 ≤ k ∧ k ≤ 12) ∨ k = 23 ∨ (34 ≤ k ∧ k < 66)) (hj : ∀ j, j ∈ js → j = 2 ∨ j = 12 ∨ j = 11 ∨ j = 1 ∨ j = 7 ∨ j = 8) (hb : IVb S' b') (hI : IV S) : IV S' := by
  obtain ⟨-, ⟨tn, i2⟩, ⟨rn, i3⟩, i4, i5, hk9, kb, i6⟩ := hI
  have nk : ∀ k, ¬ ((3 ≤ k ∧ k ≤ 12) ∨ k = 23 ∨ (34 ≤ k ∧ k < 66)) → k ∉ ks := fun k q r => q (hk k r)
  have nj : ∀ j, ¬ (j = 2 ∨ j = 12 ∨ j = 11 ∨ j = 1 ∨ j = 7 ∨ j = 8) → j ∉ js := fun j q r => q (hj j r)
  exact ⟨⟨b', hb⟩, ⟨tn, IVt_ag h ⟨nk _ (by decide), nk _ (by decide)⟩ ⟨nj _ (by decide), nj _ (by decide)⟩ i2⟩, ⟨rn, IVr_ag h ⟨nk _ (by decide), nk _ (by decide)⟩ ⟨nj _ (by decide), nj _ (by decide)⟩ i3⟩, IVn_ag h ⟨nk _ (by decide), nk _ (by decide)⟩ i4, IVm_ag h (nk _ (by decide)) i5, hk9, kb, IVk_ag h (fun k q => by have := hk k q; omega) ⟨nj _ (by decide), nj _ (by decide), nj _ (by decide)⟩ i6⟩
theorem upk_same {S : vS} {k i : Nat} {v : Int32} (h : S k i = v) : upk S k (upd (S k) i v) = S := by
  have : upd (S k) i v = S k := by
    funext j
    rw [upd_k]
    by_cases e : j = i
    · rw [if_pos e, e, h]
    · rw [if_neg e]
  rw [this, upk_self]
theorem t_spellOf {S : vS} (hI : IV S) (a c : Int32) : Alike (f_X3_spellOf a c) (f_X4_spellOf a c) S := by
  obtain ⟨⟨b, i1⟩, -⟩ := id hI
  have hn := i1.2.1
  rcases sp_cases i1 a with ⟨h3, h4⟩ | ⟨s, hs, rfl, h3, h4⟩
  · exact ref_end hI (w := -1) (k := 1) (by decide) (by decide) (by rw [f_X3_spellOf, h3, b1_some, if_pos rfl]) (fun S1 _ h => by rw [f_X4_spellOf, h4 S1 (by rw [h 0 (by decide)]), b1_some, if_pos rfl])
  · have hne : ∀ j : Nat, j < 7 → (c < 0 ∨ nI 7 ≤ c) → ¬ c = nI j := fun j hj q e => by
      rcases q with q | q
      · rw [e] at q; exact nI_pos (by omega) q
      · rw [e] at q; exact absurd ((nI_leI (by omega) (by omega)).mp q) (by omega)
    have h4no : ∀ S1 : vS, S1 0 2 = S 0 2 → (c < 0 ∨ nI 7 ≤ c) → f_X4_spellOf (nI s) c S1 = b2 (f_X4_no (-2) S1) fun r S => some (r, S) := fun S1 e q => by
      rw [f_X4_spellOf, h4 S1 e, b1_some, if_neg (by decide), L0, if_neg (hne 0 (by decide) q), L1, if_neg (hne 1 (by decide) q), L2, if_neg (hne 2 (by decide) q), L3, if_neg (hne 3 (by decide) q), L4, if_neg (hne 4 (by decide) q), L5, if_neg (hne 5 (by decide) q), L6, if_neg (hne 6 (by decide) q)]
    rcases pk_ix c (n := 7) (by decide) with q | q | ⟨w, hw, rfl⟩
    · exact ref_end hI (w := -2) (k := 2) (by decide) (by decide) (by rw [f_X3_spellOf, h3, b1_some, if_neg (by decide), if_pos q]) (fun S1 _ h => h4no S1 (by rw [h 0 (by decide)]) (Or.inl q))
    · exact ref_end hI (w := -2) (k := 2) (by decide) (by decide) (by rw [f_X3_spellOf, h3, b1_some, if_neg (by decide), if_neg (ge_nneg (by decide) q), L7, if_neg (fun q2 => absurd (Int32.lt_of_lt_of_le q2 q) (Int32.lt_irrefl))]) (fun S1 _ h => h4no S1 (by rw [h 0 (by decide)]) (Or.inr q))
    · refine ⟨nI (bC b w s), S, S, ?_, ?_, hI⟩
      · rw [f_X3_spellOf, h3, b1_some, if_neg (by decide), if_neg (nI_pos (by omega)), L7, if_pos ((nI_ltI (by omega) (by omega)).mpr hw), if_pos (inb_n (by omega) (by omega)), if_pos (inb_n hw (by omega)), nI_clamp (by omega), nI_clamp (by omega), i1.2.2.1.2.1 s w hs hw]
      · have m := i1.2.2.2.1.1 s
        have hin : inb (nI s) 21 = true := inb_n (by omega) (by omega)
        have hcl : (nI s).toNatClampNeg = s := nI_clamp (by omega)
        have nn : ∀ x y : Nat, x < 7 → y < 7 → x ≠ y → ¬ nI x = nI y := fun x y hx hy hxy q => hxy ((nI_eq (by omega) (by omega)).mp q)
        rw [f_X4_spellOf, h4 S rfl, b1_some, if_neg (by decide), L0, L1, L2, L3, L4, L5, L6]
        rcases (show w = 0 ∨ w = 1 ∨ w = 2 ∨ w = 3 ∨ w = 4 ∨ w = 5 ∨ w = 6 by omega) with rfl | rfl | rfl | rfl | rfl | rfl | rfl
        · rw [if_pos rfl, if_pos hin, hcl, ← m 0 hs (by omega)]
        · rw [if_neg (nn _ _ (by decide) (by decide) (by decide)), if_pos rfl, if_pos hin, hcl, ← m 1 hs (by omega)]
        · rw [if_neg (nn _ _ (by decide) (by decide) (by decide)), if_neg (nn _ _ (by decide) (by decide) (by decide)), if_pos rfl, if_pos hin, hcl, ← m 2 hs (by omega)]
        · rw [if_neg (nn _ _ (by decide) (by decide) (by decide)), if_neg (nn _ _ (by decide) (by decide) (by decide)), if_neg (nn _ _ (by decide) (by decide) (by decide)), if_pos rfl, if_pos hin, hcl, ← m 3 hs (by omega)]
        · rw [if_neg (nn _ _ (by decide) (by decide) (by decide)), if_neg (nn _ _ (by decide) (by decide) (by decide)), if_neg (nn _ _ (by decide) (by decide) (by decide)), if_neg (nn _ _ (by decide) (by decide) (by decide)), if_pos rfl, if_pos hin, hcl, ← m 4 hs (by omega)]
        · rw [if_neg (nn _ _ (by decide) (by decide) (by decide)), if_neg (nn _ _ (by decide) (by decide) (by decide)), if_neg (nn _ _ (by decide) (by decide) (by decide)), if_neg (nn _ _ (by decide) (by decide) (by decide)), if_neg (nn _ _ (by decide) (by decide) (by decide)), if_pos rfl, if_pos hin, hcl, ← m 5 hs (by omega)]
        · rw [if_neg (nn _ _ (by decide) (by decide) (by decide)), if_neg (nn _ _ (by decide) (by decide) (by decide)), if_neg (nn _ _ (by decide) (by decide) (by decide)), if_neg (nn _ _ (by decide) (by decide) (by decide)), if_neg (nn _ _ (by decide) (by decide) (by decide)), if_neg (nn _ _ (by decide) (by decide) (by decide)), if_pos rfl, if_pos hin, hcl, ← m 6 hs (by omega)]
theorem t_show {S : vS} (hI : IV S) (a c : Int32) (hc : c = 0 ∨ c = 1) : Alike (f_X3_show a c) (f_X4_show a c) S := by
  obtain ⟨⟨b, i1⟩, -⟩ := id hI
  have hn := i1.2.1
  rcases sp_cases i1 a with ⟨h3, h4⟩ | ⟨s, hs, rfl, h3, h4⟩
  · exact ref_end hI (w := -1) (k := 1) (by decide) (by decide) (by rw [f_X3_show, h3, b1_some, if_pos rfl]) (fun S1 _ h => by rw [f_X4_show, h4 S1 (by rw [h 0 (by decide)]), b1_some, if_pos rfl])
  · obtain ⟨x, hx, rfl⟩ : ∃ x, x ≤ 1 ∧ c = nI x := by
      rcases hc with h | h
      · exact ⟨0, by omega, h⟩
      · exact ⟨1, by omega, h⟩
    have hz := (i1.1.1 s hs).2.2.2.2.2.2
    have hr : S (34 + s) 6 = nI (bC b 6 s) := i1.2.2.1.2.1 s 6 hs (by omega)
    have hr4 : S 9 s = nI (bC b 6 s) := i1.2.2.2.1.1 s 6 hs (by omega)
    have hin : inb (nI s) 21 = true := inb_n (by omega) (by omega)
    have hcl : (nI s).toNatClampNeg = s := nI_clamp (by omega)
    have eqz : nI x = nI (bC b 6 s) ↔ x = bC b 6 s := nI_eq (by omega) (by omega)
    generalize hS1 : upk S (34 + s) (upd (S (34 + s)) 6 (nI x)) = S1
    have e9 : S1 9 = S 9 := by rw [← hS1, upk_ne _ _ (by omega)]
    have e0 : S1 0 = S 0 := by rw [← hS1, upk_ne _ _ (by omega)]
    refine ⟨if x = bC b 6 s then 0 else 1, S1, upk S1 9 (upd (S1 9) s (nI x)), ?_, ?_, ?_⟩
    · rw [f_X3_show, h3, b1_some, if_neg (by decide), if_pos (inb_n (by omega) (by omega)), hcl, hr]
      simp only [lt, upk_eq, upd_k, if_true]
      rcases (show x = 0 ∨ x = 1 by omega) with rfl | rfl
      · rw [if_pos (show nI 0 = 0 from rfl), L0, hS1]
        by_cases h : 0 = bC b 6 s
        · rw [if_pos (eqz.mpr h), if_pos h]
        · rw [if_neg (fun q => h (eqz.mp q)), if_neg h]
      · rw [if_neg (show ¬ nI 1 = 0 by decide), L1, hS1]
        by_cases h : 1 = bC b 6 s
        · rw [if_pos (eqz.mpr h), if_pos h]
        · rw [if_neg (fun q => h (eqz.mp q)), if_neg h]
    · rw [f_X4_show, h4 S1 (by rw [e0]), b1_some, if_neg (by decide), if_pos hin, hcl, e9, hr4, L1]
      have hsame : x = bC b 6 s → upk S1 9 (upd (S 9) s (nI x)) = S1 := fun q => by
        rw [← e9]; exact upk_same (by rw [e9, hr4, q])
      rcases (show bC b 6 s = 0 ∨ bC b 6 s = 1 by omega) with z | z <;> rcases (show x = 0 ∨ x = 1 by omega) with rfl | rfl <;> simp only [z] at hsame ⊢
      · rw [if_neg (by decide), f_X4_show_J29, if_pos (show (0 : Int32) = nI 0 from rfl), hsame trivial]; rfl
      · rw [if_neg (by decide), f_X4_show_J29, if_neg (by decide), if_neg (by decide), if_pos hin]; simp only [lt, hcl, e9]; rfl
      · rw [if_pos (by decide), f_X4_show_J29, if_neg (by decide), if_pos (by decide), if_pos hin]; simp only [lt, hcl, e9]; rfl
      · rw [if_pos (by decide), f_X4_show_J29, if_pos rfl, hsame trivial]; rfl
    · have hA : Ag [34 + s, 9] [] S (upk S1 9 (upd (S1 9) s (nI x))) := by rw [← hS1]; exact (Ag.k _ (by simp) (by omega)).tr (Ag.k _ (by simp) (by decide))
      refine IV_bk hA (fun k hk => by simp at hk; omega) (fun j hj => by simp at hj) (b' := shB b s x) ?_ hI
      refine ⟨shB_ok i1.1 hx, hn, ⟨by rw [hA.2 12 (by simp)]; exact i1.2.2.1.1, fun i d hi hd => ?_, fun l j hl hj => ?_, fun l hl => ?_, fun u v hu hv => ?_⟩, ⟨fun i d hi hd => ?_, fun l j hl hj => ?_, fun l hl => ?_, fun u v hu hv => ?_⟩, by rw [hA.2 2 (by simp)]; exact i1.2.2.2.2.1, by rw [hA.2 3 (by simp)]; exact i1.2.2.2.2.2⟩
      · show _ = nI (if d = 6 ∧ i = s then x else bC b d i)
        rw [upk_ne _ _ (by omega), ← hS1]
        by_cases h : i = s
        · subst h
          rw [upk_eq, upd_k]
          by_cases h6 : d = 6
          · rw [if_pos h6, if_pos ⟨h6, rfl⟩]
          · rw [if_neg h6, if_neg (fun q => h6 q.1)]; exact i1.2.2.1.2.1 i d hi hd
        · rw [upk_ne _ _ (by omega), if_neg (fun q => h q.2)]; exact i1.2.2.1.2.1 i d hi hd
      · rw [hA.1 _ (by omega) (by have := (show s < 20 by omega); simp; omega)]; exact i1.2.2.1.2.2.1 l j hl hj
      · rw [hA.1 _ (by omega) (by simp; omega)]; exact i1.2.2.1.2.2.2.1 l hl
      · rw [hA.1 _ (by omega) (by simp; omega)]; exact i1.2.2.1.2.2.2.2 u v hu hv
      · show _ = nI (if d = 6 ∧ i = s then x else bC b d i)
        by_cases h6 : d = 6
        · subst h6
          rw [upk_eq, upd_k, e9]
          by_cases h : i = s
          · rw [if_pos h, if_pos ⟨rfl, h⟩]
          · rw [if_neg h, if_neg (fun q => h q.2)]; exact i1.2.2.2.1.1 i 6 hi (by omega)
        · rw [hA.1 _ (by omega) (by simp; omega), if_neg (fun q => h6 q.1)]; exact i1.2.2.2.1.1 i d hi hd
      · rw [hA.1 _ (by omega) (by simp; omega)]; exact i1.2.2.2.1.2.1 l j hl hj
      · rw [hA.1 _ (by omega) (by simp; omega)]; exact i1.2.2.2.1.2.2.1 l hl
      · rw [hA.1 _ (by omega) (by simp; omega)]; exact i1.2.2.2.1.2.2.2 u v hu hv
theorem lawMost_n : ∀ j, j < 9 → lawMost j = nI (mostN j) := by decide +kernel
theorem mostN_le : ∀ j, j < 9 → mostN j ≤ 9999 := by decide
theorem t_law {S : vS} (hI : IV S) (a c d : Int32) : Alike (f_X3_law a c d) (f_X4_law a c d) S := by
  obtain ⟨⟨b, i1⟩, -, -, -, i5, -⟩ := id hI
  rcases land_cases a with ⟨h3, h4⟩ | ⟨l, hl, rfl, h3, h4⟩
  · exact ref_end hI (w := -1) (k := 1) (by decide) (by decide) (by rw [f_X3_law, h3, b1_some, if_pos rfl]) (fun S1 _ _ => by rw [f_X4_law, h4, b1_some, if_pos rfl])
  · rcases pk_ix c (n := 9) (by decide) with q | q | ⟨w, hw, rfl⟩
    · exact ref_end hI (w := -1) (k := 1) (by decide) (by decide) (by rw [f_X3_law, h3, b1_some, if_neg (by decide), if_pos q]) (fun S1 _ _ => by rw [f_X4_law, h4, b1_some, if_neg (by decide), L8, q_isIn_no (by decide) (Or.inl q), b1_some, if_pos rfl])
    · exact ref_end hI (w := -1) (k := 1) (by decide) (by decide) (by rw [f_X3_law, h3, b1_some, if_neg (by decide), if_neg (ge_nneg (by decide) q), L9, if_neg (fun q2 => absurd (Int32.lt_of_lt_of_le q2 q) (Int32.lt_irrefl))]) (fun S1 _ _ => by rw [f_X4_law, h4, b1_some, if_neg (by decide), L8, q_isIn_no (by decide) (Or.inr q), b1_some, if_pos rfl])
    · have hin9 : inb (nI w) 9 = true := inb_n hw (by omega)
      have hclw : (nI w).toNatClampNeg = w := nI_clamp (by omega)
      have hcll : (nI l).toNatClampNeg = l := nI_clamp (by omega)
      have hwlt : nI w < nI 9 := (nI_ltI (by omega) (by omega)).mpr hw
      have hmo : lawMost w = nI (mostN w) := lawMost_n w hw
      have hml := mostN_le w hw
      have head3 : ∀ T : vS, f_X4_isIn (nI w) 0 8 T = some 1 := fun T => by rw [L8]; exact q_isIn_yes (by decide) (by omega) T
      by_cases d0 : d < 0
      · exact ref_end hI (w := -4) (k := 4) (by decide) (by decide) (by rw [f_X3_law, h3, b1_some, if_neg (by decide), if_neg (nI_pos (by omega)), L9, if_pos hwlt, if_neg (fun q => absurd (Int32.lt_of_le_of_lt q d0) (Int32.lt_irrefl))]) (fun S1 _ _ => by rw [f_X4_law, h4, b1_some, if_neg (by decide), head3, b1_some, if_neg (by decide), if_pos hin9, q_out_lo _ d0, b1_some, if_neg (by decide)])
      · by_cases dm : d ≤ nI (mostN w)
        · obtain ⟨v, hv, rfl⟩ := nI_of2 (M := nI (mostN w)) (n := mostN w) (nI_toInt (by omega)) d0 dm
          generalize hS1 : upk S (54 + l) (upd (S (54 + l)) w (nI v)) = S1
          have e13 : S1 13 = S 13 := by rw [← hS1, upk_ne _ _ (by omega)]
          have e10 : S1 10 = S 10 := by rw [← hS1, upk_ne _ _ (by omega)]
          refine ⟨nI (bL b l w), S1, upk S1 10 (upd (S1 10) (9 * l + w) (nI v)), ?_, ?_, ?_⟩
          · rw [f_X3_law, h3, b1_some, if_neg (by decide), if_neg (nI_pos (by omega)), L9, if_pos hwlt, if_pos (Int32.not_lt.mp d0), if_pos hin9, hclw, hmo, if_pos dm, if_pos (inb_n hl (by omega)), if_pos hin9, hcll, i1.2.2.1.2.2.1 l w hl hw]
            simp only [lt, hS1]
          · rw [f_X4_law, h4, b1_some, if_neg (by decide), head3, b1_some, if_neg (by decide), if_pos hin9, hclw, e13, i5 w hw, hmo, q_out_in d0 dm, b1_some, if_pos rfl, L9, pk_mul, nI_add, if_pos (inb_n (by omega) (by omega)), nI_clamp (by omega), e10, i1.2.2.2.1.2.1 l w hl hw]
            simp only [lt, e10]
          · have hA : Ag [54 + l, 10] [] S (upk S1 10 (upd (S1 10) (9 * l + w) (nI v))) := by rw [← hS1]; exact (Ag.k _ (by simp) (by omega)).tr (Ag.k _ (by simp) (by decide))
            refine IV_bk hA (fun k hk => by simp at hk; omega) (fun j hj => by simp at hj) (b' := (b.1, b.2.1, (fun l' j' => if l' = l ∧ j' = w then v else bL b l' j'), b.2.2.2)) ?_ hI
            refine ⟨⟨fun s hs => i1.1.1 s hs, fun l' j' hl' hj' => ?_, i1.1.2.2.1, i1.1.2.2.2⟩, i1.2.1, ⟨by rw [hA.2 12 (by simp)]; exact i1.2.2.1.1, fun i d hi hd => ?_, fun l' j hl' hj => ?_, fun l' hl' => ?_, fun u v hu hv => ?_⟩, ⟨fun i d hi hd => ?_, fun l' j hl' hj => ?_, fun l' hl' => ?_, fun u v hu hv => ?_⟩, by rw [hA.2 2 (by simp)]; exact i1.2.2.2.2.1, by rw [hA.2 3 (by simp)]; exact i1.2.2.2.2.2⟩
            · show (if l' = l ∧ j' = w then v else bL b l' j') ≤ mostN j'
              by_cases h : l' = l ∧ j' = w
              · rw [if_pos h, h.2]; exact hv
              · rw [if_neg h]; exact i1.1.2.1 l' j' hl' hj'
            · have hi2 : i < bN b := hi
              have := i1.2.1
              rw [hA.1 _ (by omega) (by simp; omega)]; exact i1.2.2.1.2.1 i d hi hd
            · show _ = nI (if l' = l ∧ j = w then v else bL b l' j)
              rw [upk_ne _ _ (by omega), ← hS1]
              by_cases h : l' = l
              · subst h
                rw [upk_eq, upd_k]
                by_cases h6 : j = w
                · rw [if_pos h6, if_pos ⟨rfl, h6⟩]
                · rw [if_neg h6, if_neg (fun q => h6 q.2)]; exact i1.2.2.1.2.2.1 l' j hl' hj
              · rw [upk_ne _ _ (by omega), if_neg (fun q => h q.1)]; exact i1.2.2.1.2.2.1 l' j hl' hj
            · rw [hA.1 _ (by omega) (by simp; omega)]; exact i1.2.2.1.2.2.2.1 l' hl'
            · rw [hA.1 _ (by omega) (by simp; omega)]; exact i1.2.2.1.2.2.2.2 u v hu hv
            · rw [hA.1 _ (by omega) (by simp; omega)]; exact i1.2.2.2.1.1 i d hi hd
            · show _ = nI (if l' = l ∧ j = w then v else bL b l' j)
              rw [upk_eq, upd_k, e10]
              by_cases h : l' = l ∧ j = w
              · rw [if_pos h, if_pos (by rw [h.1, h.2])]
              · rw [if_neg h, if_neg (by omega)]; exact i1.2.2.2.1.2.1 l' j hl' hj
            · rw [hA.1 _ (by omega) (by simp; omega)]; exact i1.2.2.2.1.2.2.1 l' hl'
            · rw [hA.1 _ (by omega) (by simp; omega)]; exact i1.2.2.2.1.2.2.2 u v hu hv
        · have dm2 : nI (mostN w) < d := Int32.not_le.mp dm
          exact ref_end hI (w := -6) (k := 6) (by decide) (by decide) (by rw [f_X3_law, h3, b1_some, if_neg (by decide), if_neg (nI_pos (by omega)), L9, if_pos hwlt, if_pos (Int32.not_lt.mp d0), if_pos hin9, hclw, hmo, if_neg dm]) (fun S1 _ h => by rw [f_X4_law, h4, b1_some, if_neg (by decide), head3, b1_some, if_neg (by decide), if_pos hin9, hclw, h 13 (by decide), i5 w hw, hmo, q_out_hi d0 dm2, b1_some, if_neg (by decide)])
