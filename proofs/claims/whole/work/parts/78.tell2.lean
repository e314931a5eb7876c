theorem t_kind {S : vS} (hI : IV S) (a c : Int32) : Alike (f_X3_kind a c) (f_X4_kind a c) S := by
  obtain ⟨⟨b, i1⟩, -⟩ := id hI
  rcases land_cases a with ⟨h3, h4⟩ | ⟨l, hl, rfl, h3, h4⟩
  · exact ref_end hI (w := -1) (k := 1) (by decide) (by decide) (by rw [f_X3_kind, h3, b1_some, if_pos rfl]) (fun S1 _ _ => by rw [f_X4_kind, h4, b1_some, if_pos rfl])
  · rcases kind_cases c with ⟨k3, k4⟩ | ⟨k, hk, rfl, k3, k4⟩
    · exact ref_end hI (w := -2) (k := 2) (by decide) (by decide) (by rw [f_X3_kind, h3, b1_some, if_neg (by decide), k3, b1_some, if_pos rfl]) (fun S1 _ _ => by rw [f_X4_kind, h4, b1_some, if_neg (by decide), k4, b1_some, if_pos rfl])
    · have hin : inb (nI l) 6 = true := inb_n hl (by omega)
      have hcl : (nI l).toNatClampNeg = l := nI_clamp (by omega)
      generalize hS1 : upk S 23 (upd (S 23) l (nI k)) = S1
      have e11 : S1 11 = S 11 := by rw [← hS1, upk_ne _ _ (by decide)]
      refine ⟨nI (bK b l), S1, upk S1 11 (upd (S1 11) l (nI k)), ?_, ?_, ?_⟩
      · rw [f_X3_kind, h3, b1_some, if_neg (by decide), k3, b1_some, if_neg (by decide), if_pos hin, hcl, i1.2.2.1.2.2.2.1 l hl]
        simp only [lt, hS1]
      · rw [f_X4_kind, h4, b1_some, if_neg (by decide), k4, b1_some, if_neg (by decide), if_pos hin, hcl, e11, i1.2.2.2.1.2.2.1 l hl]
        simp only [lt, e11]
      · have hA : Ag [23, 11] [] S (upk S1 11 (upd (S1 11) l (nI k))) := by rw [← hS1]; exact (Ag.k _ (by simp) (by decide)).tr (Ag.k _ (by simp) (by decide))
        refine IV_bk hA (fun k hk => by simp at hk; omega) (fun j hj => by simp at hj) (b' := (b.1, b.2.1, b.2.2.1, (fun l' => if l' = l then k else bK b l'), b.2.2.2.2)) ?_ hI
        refine ⟨⟨i1.1.1, i1.1.2.1, fun l' hl' => ?_, i1.1.2.2.2⟩, i1.2.1, ⟨by rw [hA.2 12 (by simp)]; exact i1.2.2.1.1, fun i d hi hd => ?_, fun l' j hl' hj => ?_, fun l' hl' => ?_, fun u v hu hv => ?_⟩, ⟨fun i d hi hd => ?_, fun l' j hl' hj => ?_, fun l' hl' => ?_, fun u v hu hv => ?_⟩, by rw [hA.2 2 (by simp)]; exact i1.2.2.2.2.1, by rw [hA.2 3 (by simp)]; exact i1.2.2.2.2.2⟩
        · show (if l' = l then k else bK b l') < 6
          split
          · exact hk
          · exact i1.1.2.2.1 l' hl'
        · rw [hA.1 _ (by omega) (by simp; omega)]; exact i1.2.2.1.2.1 i d hi hd
        · rw [hA.1 _ (by omega) (by simp; omega)]; exact i1.2.2.1.2.2.1 l' j hl' hj
        · show _ = nI (if l' = l then k else bK b l')
          rw [upk_ne _ _ (by decide), ← hS1, upk_eq, upd_k]
          by_cases h : l' = l
          · rw [if_pos h, if_pos h]
          · rw [if_neg h, if_neg h]; exact i1.2.2.1.2.2.2.1 l' hl'
        · rw [hA.1 _ (by omega) (by simp; omega)]; exact i1.2.2.1.2.2.2.2 u v hu hv
        · rw [hA.1 _ (by omega) (by simp; omega)]; exact i1.2.2.2.1.1 i d hi hd
        · rw [hA.1 _ (by omega) (by simp)]; exact i1.2.2.2.1.2.1 l' j hl' hj
        · show _ = nI (if l' = l then k else bK b l')
          rw [upk_eq, upd_k, e11]
          by_cases h : l' = l
          · rw [if_pos h, if_pos h]
          · rw [if_neg h, if_neg h]; exact i1.2.2.2.1.2.2.1 l' hl'
        · rw [hA.1 _ (by omega) (by simp)]; exact i1.2.2.2.1.2.2.2 u v hu hv
theorem upk2_k (S : vS) (k : Nat) (g : Nat → Int32) (j i : Nat) : upk S k g j i = if j = k then g i else S j i := by
  rw [upk_k]
  by_cases h : j = k
  · rw [if_pos h, if_pos h]
  · rw [if_neg h, if_neg h]
theorem t_pact {S : vS} (hI : IV S) (a c d : Int32) (hd : d = 0 ∨ d = 1) : Alike (f_X3_pact a c d) (f_X4_pact a c d) S := by
  obtain ⟨⟨b, i1⟩, -⟩ := id hI
  rcases land_cases a with ⟨h3, h4⟩ | ⟨l, hl, rfl, h3, h4⟩
  · exact ref_end hI (w := -1) (k := 1) (by decide) (by decide) (by rw [f_X3_pact, h3, b1_some, if_pos rfl]) (fun S1 _ _ => by rw [f_X4_pact, h4, b1_some, if_pos rfl])
  · rcases land_cases c with ⟨g3, g4⟩ | ⟨m, hm, rfl, g3, g4⟩
    · exact ref_end hI (w := -1) (k := 1) (by decide) (by decide) (by rw [f_X3_pact, h3, b1_some, if_neg (by decide), g3, b1_some, if_pos rfl]) (fun S1 _ _ => by rw [f_X4_pact, h4, b1_some, if_neg (by decide), g4, b1_some, if_pos rfl])
    · have elm : nI l = nI m ↔ l = m := nI_eq (by omega) (by omega)
      by_cases hlm : l = m
      · exact ref_end hI (w := -1) (k := 1) (by decide) (by decide) (by rw [f_X3_pact, h3, b1_some, if_neg (by decide), g3, b1_some, if_neg (by decide), if_pos (elm.mpr hlm)]) (fun S1 _ _ => by rw [f_X4_pact, h4, b1_some, if_neg (by decide), g4, b1_some, if_neg (by decide), if_pos (elm.mpr hlm)])
      · obtain ⟨x, hx, rfl⟩ : ∃ x, x ≤ 1 ∧ d = nI x := by
          rcases hd with h | h
          · exact ⟨0, by omega, h⟩
          · exact ⟨1, by omega, h⟩
        have hz := (i1.1.2.2.2 l m hl hm).1
        have hsym := (i1.1.2.2.2 l m hl hm).2.1
        have inl : inb (nI l) 6 = true := inb_n hl (by omega)
        have inm : inb (nI m) 6 = true := inb_n hm (by omega)
        have cll : (nI l).toNatClampNeg = l := nI_clamp (by omega)
        have clm : (nI m).toNatClampNeg = m := nI_clamp (by omega)
        have eqz : nI x = nI (bP b l m) ↔ x = bP b l m := nI_eq (by omega) (by omega)
        have hp : S (60 + l) m = nI (bP b l m) := i1.2.2.1.2.2.2.2 l m hl hm
        have hp4 : S 12 (6 * l + m) = nI (bP b l m) := i1.2.2.2.1.2.2.2 l m hl hm
        have hp5 : S 12 (6 * m + l) = nI (bP b l m) := by rw [hsym]; exact i1.2.2.2.1.2.2.2 m l hm hl
        generalize hS1 : upk (upk S (60 + l) (upd (S (60 + l)) m (nI x))) (60 + m) (upd (S (60 + m)) l (nI x)) = S1
        have hS1k : ∀ k i, S1 k i = if k = 60 + m ∧ i = l then nI x else if k = 60 + l ∧ i = m then nI x else S k i := fun k i => by
          rw [← hS1, upk2_k]
          by_cases h1 : k = 60 + m
          · rw [if_pos h1, upd_k]
            by_cases h2 : i = l
            · rw [if_pos h2, if_pos ⟨h1, h2⟩]
            · rw [if_neg h2, if_neg (fun q : k = 60 + m ∧ i = l => h2 q.2), if_neg (fun q : k = 60 + l ∧ i = m => hlm (by have := q.1; omega)), h1]
          · rw [if_neg h1, if_neg (fun q : k = 60 + m ∧ i = l => h1 q.1), upk2_k]
            by_cases h3 : k = 60 + l
            · rw [if_pos h3, upd_k]
              by_cases h2 : i = m
              · rw [if_pos h2, if_pos ⟨h3, h2⟩]
              · rw [if_neg h2, if_neg (fun q : k = 60 + l ∧ i = m => h2 q.2), h3]
            · rw [if_neg h3, if_neg (fun q : k = 60 + l ∧ i = m => h3 q.1)]
        have hv1 : S1 (60 + l) m = nI x := by rw [hS1k, if_neg (fun q => hlm q.2.symm), if_pos ⟨rfl, rfl⟩]
        have e12 : S1 12 = S 12 := by rw [← hS1, upk_ne _ _ (by omega), upk_ne _ _ (by omega)]
        generalize hS2 : upk S1 12 (upd (upd (S 12) (6 * l + m) (nI x)) (6 * m + l) (nI x)) = S2
        have hj57 : ∀ z : Nat, z = x → f_X3_pact_J57 (nI l) (nI m) (nI (bP b l m)) (60 + l) (nI m) (nI z) S = some (if x = bP b l m then 0 else 1, S1) := by
          rintro z rfl
          rw [f_X3_pact_J57, if_pos (by omega), alen_60 hl, if_pos inm, clm]
          simp only [lt, inl, inm, if_true, cll]
          have e1 : (upk S (60 + l) (upd (S (60 + l)) m (nI z))) (60 + m) = S (60 + m) := upk_ne _ _ (by omega)
          have e2 : (upk S (60 + l) (upd (S (60 + l)) m (nI z))) (60 + l) m = nI z := by rw [upk_eq, upd_k, if_pos rfl]
          rw [e1, e2, hS1, hv1]
          by_cases h : z = bP b l m
          · rw [if_pos (eqz.mpr h), if_pos h]
          · rw [if_neg (fun q => h (eqz.mp q)), if_neg h]
        refine ⟨if x = bP b l m then 0 else 1, S1, S2, ?_, ?_, ?_⟩
        · rw [f_X3_pact, h3, b1_some, if_neg (by decide), g3, b1_some, if_neg (by decide), if_neg (fun q => hlm (elm.mp q)), if_pos inl, if_pos inm, cll, clm, hp]
          simp only [lt]
          rcases (show x = 0 ∨ x = 1 by omega) with h | h
          · rw [if_pos (by rw [h]; rfl), L0]
            have := hj57 0 h.symm
            rw [L0] at this
            exact this
          · rw [if_neg (by rw [h]; decide), L1]
            have := hj57 1 h.symm
            rw [L1] at this
            exact this
        · have hsame : x = bP b l m → S2 = S1 := fun q => by
            rw [← hS2]
            have : upd (upd (S 12) (6 * l + m) (nI x)) (6 * m + l) (nI x) = S1 12 := by
              rw [e12]
              funext j
              rw [upd_k, upd_k]
              by_cases h1 : j = 6 * m + l
              · rw [if_pos h1, h1, hp5, q]
              · rw [if_neg h1]
                by_cases h2 : j = 6 * l + m
                · rw [if_pos h2, h2, hp4, q]
                · rw [if_neg h2]
            rw [this, upk_self]
          have hin36 : inb (nI (6 * l + m)) 36 = true := inb_n (by omega) (by omega)
          have hin36' : inb (nI (6 * m + l)) 36 = true := inb_n (by omega) (by omega)
          have cl1 : (nI (6 * l + m)).toNatClampNeg = 6 * l + m := nI_clamp (by omega)
          have cl2 : (nI (6 * m + l)).toNatClampNeg = 6 * m + l := nI_clamp (by omega)
          have hj70 : ∀ z : Int32, z = nI x → f_X4_pact_J70 (nI l) (nI m) (nI x) (nI (6 * l + m)) z S1 = some (1, S2) := by
            rintro z rfl
            rw [f_X4_pact_J70, if_pos hin36, cl1, e12, L6, pk_mul, nI_add]
            simp only [lt, hin36', if_true, cl2, upk_eq, upk_upk]
            rcases (show x = 0 ∨ x = 1 by omega) with h | h
            · subst h
              rw [if_pos (show nI 0 = 0 from rfl), ← hS2]
              rfl
            · subst h
              rw [if_neg (by decide), ← hS2]
              rfl
          have hj45 : ∀ z : Int32, z = nI (bP b l m) → f_X4_pact_J45 (nI l) (nI m) (nI x) z S1 = some (if x = bP b l m then 0 else 1, S2) := by
            rintro z rfl
            rw [f_X4_pact_J45]
            by_cases h : x = bP b l m
            · rw [if_pos (eqz.mpr h).symm, if_pos h, hsame h]
            · rw [if_neg (fun q => h (eqz.mp q.symm)), if_neg h, L6, pk_mul, nI_add]
              rcases (show x = 0 ∨ x = 1 by omega) with h2 | h2
              · rw [if_pos (by rw [h2]; rfl)]; exact hj70 0 (by rw [h2]; rfl)
              · rw [if_neg (by rw [h2]; decide)]; exact hj70 1 (by rw [h2]; rfl)
          rw [f_X4_pact, h4, b1_some, if_neg (by decide), g4, b1_some, if_neg (by decide), if_neg (fun q => hlm (elm.mp q)), L6, pk_mul, nI_add, if_pos hin36, cl1, e12, hp4]
          rcases (show bP b l m = 0 ∨ bP b l m = 1 by omega) with h | h
          · rw [if_neg (by rw [h]; decide)]; exact hj45 0 (by rw [h]; rfl)
          · rw [if_pos (by rw [h]; rfl)]; exact hj45 1 (by rw [h]; rfl)
        · have hA : Ag [60 + l, 60 + m, 12] [] S S2 := by
            rw [← hS2, ← hS1]
            exact ((Ag.k _ (by simp) (by omega)).tr (Ag.k _ (by simp) (by omega))).tr (Ag.k _ (by simp) (by decide))
          have hS2k : ∀ k, k ≠ 12 → S2 k = S1 k := fun k hk => by rw [← hS2, upk_ne _ _ hk]
          refine IV_bk hA (fun k hk => by simp at hk; omega) (fun j hj => by simp at hj) (b' := (b.1, b.2.1, b.2.2.1, b.2.2.2.1, (fun u v => if (u = l ∧ v = m) ∨ (u = m ∧ v = l) then x else bP b u v))) ?_ hI
          refine ⟨⟨i1.1.1, i1.1.2.1, i1.1.2.2.1, fun u v hu hv => ?_⟩, i1.2.1, ⟨by rw [hA.2 12 (by simp)]; exact i1.2.2.1.1, fun i d hi hd => ?_, fun l' j hl' hj => ?_, fun l' hl' => ?_, fun u v hu hv => ?_⟩, ⟨fun i d hi hd => ?_, fun l' j hl' hj => ?_, fun l' hl' => ?_, fun u v hu hv => ?_⟩, by rw [hA.2 2 (by simp)]; exact i1.2.2.2.2.1, by rw [hA.2 3 (by simp)]; exact i1.2.2.2.2.2⟩
          · have hq := i1.1.2.2.2 u v hu hv
            show (if (u = l ∧ v = m) ∨ (u = m ∧ v = l) then x else bP b u v) ≤ 1 ∧ (if (u = l ∧ v = m) ∨ (u = m ∧ v = l) then x else bP b u v) = (if (v = l ∧ u = m) ∨ (v = m ∧ u = l) then x else bP b v u) ∧ (if (u = l ∧ u = m) ∨ (u = m ∧ u = l) then x else bP b u u) = 0
            by_cases h : (u = l ∧ v = m) ∨ (u = m ∧ v = l)
            · rw [if_pos h, if_pos (by omega), if_neg (by omega)]; exact ⟨hx, rfl, hq.2.2⟩
            · rw [if_neg h, if_neg (by omega), if_neg (by omega)]; exact hq
          · have := i1.2.1
            have hi2 : i < bN b := hi
            rw [hA.1 _ (by omega) (by simp; omega)]; exact i1.2.2.1.2.1 i d hi hd
          · rw [hA.1 _ (by omega) (by simp; omega)]; exact i1.2.2.1.2.2.1 l' j hl' hj
          · rw [hA.1 _ (by omega) (by simp; omega)]; exact i1.2.2.1.2.2.2.1 l' hl'
          · show _ = nI (if (u = l ∧ v = m) ∨ (u = m ∧ v = l) then x else bP b u v)
            rw [hS2k _ (by omega), hS1k]
            by_cases h1 : u = m ∧ v = l
            · rw [if_pos ⟨by omega, h1.2⟩, if_pos (Or.inr h1)]
            · rw [if_neg (fun q => h1 ⟨by omega, q.2⟩)]
              by_cases h2 : u = l ∧ v = m
              · rw [if_pos ⟨by omega, h2.2⟩, if_pos (Or.inl h2)]
              · rw [if_neg (fun q => h2 ⟨by omega, q.2⟩), if_neg (by omega)]; exact i1.2.2.1.2.2.2.2 u v hu hv
          · have := i1.2.1
            have hi2 : i < bN b := hi
            rw [hA.1 _ (by omega) (by simp; omega)]; exact i1.2.2.2.1.1 i d hi hd
          · rw [hA.1 _ (by omega) (by simp; omega)]; exact i1.2.2.2.1.2.1 l' j hl' hj
          · rw [hA.1 _ (by omega) (by simp; omega)]; exact i1.2.2.2.1.2.2.1 l' hl'
          · show _ = nI (if (u = l ∧ v = m) ∨ (u = m ∧ v = l) then x else bP b u v)
            rw [← hS2, upk_eq, upd_k, upd_k]
            by_cases h1 : u = m ∧ v = l
            · rw [if_pos (by rw [h1.1, h1.2]), if_pos (Or.inr h1)]
            · rw [if_neg (by omega)]
              by_cases h2 : u = l ∧ v = m
              · rw [if_pos (by rw [h2.1, h2.2]), if_pos (Or.inl h2)]
              · rw [if_neg (by omega), if_neg (by omega)]; exact i1.2.2.2.1.2.2.2 u v hu hv
theorem IVb_33 {S S1 : vS} {b : Bk} (h : Ag [33] [] S S1) (hI : IVb S b) : IVb S1 b := IVb_ag h (by decide) (by decide) hI
theorem q_putno (x1 x2 : Int32) (S : vS) (h : ¬ x2 = 0) : f_X4_put_J25 x1 x2 S = b2 (f_X4_no x2 S) fun r S => some (r, S) := by rw [f_X4_put_J25, if_neg h]
theorem t_put {S : vS} (hI : IV S) (a : Int32) : Alike (f_X3_put a) (f_X4_put a) S := by
  obtain ⟨⟨b, i1⟩, ⟨tn, i2⟩, ⟨rn, i3⟩, i4, i5, hk9, kb, i6⟩ := id hI
  obtain ⟨r1, r2, r3, r4⟩ := id i3
  by_cases a0 : a < 0
  · exact ref_end hI (w := -4) (k := 4) (by decide) (by decide) (by rw [f_X3_put, if_neg (fun q => absurd (Int32.lt_of_le_of_lt q a0) (Int32.lt_irrefl))]) (fun S1 _ _ => by rw [f_X4_put, q_out_lo _ a0, b1_some, if_neg (by decide), q_putno _ _ _ (by decide)])
  · by_cases a9 : nI 9999 < a
    · exact ref_end hI (w := -6) (k := 6) (by decide) (by decide) (by rw [f_X3_put, if_pos (Int32.not_lt.mp a0), L9999, if_pos a9]) (fun S1 _ _ => by rw [f_X4_put, L9999, q_out_hi a0 a9, b1_some, if_neg (by decide), q_putno _ _ _ (by decide)])
    · by_cases h6 : rn = 6
      · exact ref_end hI (w := -6) (k := 6) (by decide) (by decide) (by rw [f_X3_put, if_pos (Int32.not_lt.mp a0), L9999, if_neg a9, r3, h6, L6, if_neg (by decide)]) (fun S1 _ h => by rw [f_X4_put, L9999, q_out_in a0 (Int32.not_lt.mp a9), b1_some, if_pos rfl, h 0 (by decide), r2, h6, L6, if_pos rfl, q_putno _ _ _ (by decide)])
      · have hin : inb (nI rn) 6 = true := inb_n (by omega) (by omega)
        have hcl : (nI rn).toNatClampNeg = rn := nI_clamp (by omega)
        generalize hS1 : upk (upk S 32 (upd (S 32) rn a)) 0 (upd (S 0) 17 (nI (rn + 1))) = S1
        have e20 : S1 20 = S 20 := by rw [← hS1, upk_ne _ _ (by decide), upk_ne _ _ (by decide)]
        have e05 : S1 0 5 = nI rn := by rw [← hS1, upk_eq, upd_k, if_neg (by decide)]; exact r2
        refine ⟨nI (rn + 1), S1, upk (upk S1 20 (upd (S1 20) rn a)) 0 (upd (S1 0) 5 (nI (rn + 1))), ?_, ?_, ?_⟩
        · rw [f_X3_put, if_pos (Int32.not_lt.mp a0), L9999, if_neg a9, r3, L6, if_pos ((nI_ltI (by omega) (by omega)).mpr (by omega)), if_pos hin, hcl]
          have e : (upk S 32 (upd (S 32) rn a)) 0 = S 0 := upk_ne _ _ (by decide)
          simp only [lt, e, r3, L1, nI_add, hS1]
          rw [← hS1, upk_eq, upd_k, if_pos rfl]
        · rw [f_X4_put, L9999, q_out_in a0 (Int32.not_lt.mp a9), b1_some, if_pos rfl, e05, L6, if_neg (fun q => h6 ((nI_eq (by omega) (by omega)).mp q)), f_X4_put_J25, if_pos rfl, e05, if_pos hin, hcl]
          have e : (upk S1 20 (upd (S1 20) rn a)) 0 = S1 0 := upk_ne _ _ (by decide)
          simp only [lt, e, e05, L1, nI_add]
          rw [upk_eq, upd_k, if_pos rfl]
        · have hA : Ag [32, 20] [17, 5] S (upk (upk S1 20 (upd (S1 20) rn a)) 0 (upd (S1 0) 5 (nI (rn + 1)))) := by
            refine ⟨fun k h0 hk => ?_, fun j hj => ?_⟩
            · simp at hk
              rw [upk_ne _ _ h0, upk_ne _ _ hk.2, ← hS1, upk_ne _ _ h0, upk_ne _ _ hk.1]
            · simp at hj
              rw [upk_eq, upd_k, if_neg hj.2, ← hS1, upk_eq, upd_k, if_neg hj.1]
          refine ⟨⟨b, IVb_ag hA (by decide) (by decide) i1⟩, ⟨tn, IVt_ag hA (by decide) (by decide) i2⟩, ⟨rn + 1, by omega, by rw [upk_eq, upd_k, if_pos rfl], ?_, fun j hj => ?_⟩, IVn_ag hA (by decide) i4, IVm_ag hA (by decide) i5, hk9, kb, IVk_ag hA (by decide) (by decide) i6⟩
          · rw [upk_eq, upd_k, if_neg (by decide), ← hS1, upk_eq, upd_k, if_pos rfl]
          · rw [upk_ne _ _ (by decide), upk_eq, upk_ne _ _ (by decide), upk_ne _ _ (by decide), e20, ← hS1, upk_ne _ _ (by decide), upk_eq, upd_k, upd_k]
            by_cases h : j = rn
            · rw [if_pos h, if_pos h]
            · rw [if_neg h, if_neg h]; exact r4 j (by omega)
