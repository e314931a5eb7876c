/-! without a spell, with a spell -/
def shB (b : Bk) (s x : Nat) : Bk := (b.1, (fun c i => if c = 6 ∧ i = s then x else bC b c i), b.2.2)
theorem shB_ok {b : Bk} (hb : bOk b) {s x : Nat} (hx : x ≤ 1) : bOk (shB b s x) := by
  refine ⟨fun i hi => ?_, hb.2.1, hb.2.2.1, hb.2.2.2⟩
  have h : sOk b i := hb.1 i hi
  obtain ⟨q0, q1, q2, q3, q4, q5, q6⟩ := h
  refine ⟨?_, ?_, ?_, ?_, ?_, ?_, ?_⟩ <;> simp only [shB, bC] at * <;> simp <;> (try omega)
  split <;> omega
theorem p_owIf {b : Bk} (hb : bOk b) (hn : bN b ≤ 20) {S : vS} (hX : RXb S b) {s x : Nat} (hs : s < bN b) (hx : x ≤ 1) : ∃ S', f_X3_owedByAllIf (nI s) (nI x) S = some (ps (ow (shB b s x)).1 6, S') ∧ Ag scX scJ S S' := by
  have hT : RXb (upk S (34 + s) (upd (S (34 + s)) 6 (nI x))) (shB b s x) := by
    refine ⟨by rw [upk_ne _ _ (by omega)]; exact hX.1, fun i c hi hc => ?_, fun l j hl hj => ?_, fun l hl => ?_, fun y z hy hz => ?_⟩
    · show _ = nI (if c = 6 ∧ i = s then x else bC b c i)
      by_cases h : i = s
      · subst h
        rw [upk_eq, upd_k]
        by_cases h6 : c = 6
        · rw [if_pos h6, if_pos ⟨h6, rfl⟩]
        · rw [if_neg h6, if_neg (fun q => h6 q.1)]; exact hX.2.1 i c hi hc
      · rw [upk_ne _ _ (by omega), if_neg (fun q => h q.2)]; exact hX.2.1 i c hi hc
    · rw [upk_ne _ _ (by omega)]; exact hX.2.2.1 l j hl hj
    · rw [upk_ne _ _ (by omega)]; exact hX.2.2.2.1 l hl
    · rw [upk_ne _ _ (by omega)]; exact hX.2.2.2.2 y z hy hz
  obtain ⟨S1, e1, a1, g1, -, -⟩ := p_owedByAll (shB_ok hb hx) hn hT
  refine ⟨upk S1 (34 + s) (upd (S1 (34 + s)) 6 (S (34 + s) 6)), ?_, ?_⟩
  · rw [f_X3_owedByAllIf, if_pos (inb_n (by omega) (by omega))]
    simp only [lt, nI_clamp (show s < 2 ^ 31 by omega)]
    rw [e1, b2_some]
  · refine ⟨fun k h0 hk => ?_, fun j hj => ?_⟩
    · by_cases h : k = 34 + s
      · subst h
        rw [upk_eq, a1.1 _ h0 hk, upk_eq]
        funext j
        rw [upd_k, upd_k]
        by_cases h6 : j = 6
        · rw [if_pos h6, h6]
        · rw [if_neg h6, if_neg h6]
      · rw [upk_ne _ _ h, a1.1 _ h0 hk, upk_ne _ _ h]
    · rw [upk_ne _ _ (by omega), a1.2 j hj, upk_ne _ _ (by omega)]
def hgS (b : Bk) : Nat → Nat → Int32 → Int32 → Int32
  | 0, _, _, best => best
  | k + 1, s, least, best => if ps (ow (shB b s 0)).1 6 < least then hgS b k (s + 1) (ps (ow (shB b s 0)).1 6) (nI s) else hgS b k (s + 1) least best
theorem p_hangs_loop {b : Bk} (hb : bOk b) (hn : bN b ≤ 20) : ∀ (k s : Nat), s + k = bN b → ∀ n (S : vS) (x1 x2 : Int32), k < n → RXb S b → ∃ S', f_X3_hangs_L10 n x1 x2 (nI s) S = some (hgS b k s x1 x2, S') ∧ Ag scX scJ S S' := by
  intro k
  induction k with
  | zero =>
    intro s hs n S x1 x2 hk hX
    obtain ⟨n, rfl⟩ : ∃ q, n = q + 1 := ⟨n - 1, by omega⟩
    rw [f_X3_hangs_L10, hX.1, if_pos ((nI_leI (by omega) (by omega)).mpr (by omega))]
    exact ⟨S, rfl, Ag.rf _ _ _⟩
  | succ k ih =>
    intro s hs n S x1 x2 hk hX
    obtain ⟨n, rfl⟩ : ∃ q, n = q + 1 := ⟨n - 1, by omega⟩
    obtain ⟨S1, e1, a1⟩ := p_owIf hb hn hX (show s < bN b by omega) (show 0 ≤ 1 by omega)
    have hX1 := RX_ag a1 (by decide) (by decide) (by decide) hX
    rw [f_X3_hangs_L10, hX.1, if_neg (fun q => absurd ((nI_leI (by omega) (by omega)).mp q) (by omega)), L0, e1, b2_some, nI_1, hgS]
    by_cases h : ps (ow (shB b s 0)).1 6 < x1
    · rw [if_pos h, if_neg (fun q => absurd (Int32.lt_of_lt_of_le h q) (Int32.lt_irrefl))]
      obtain ⟨S2, e2, a2⟩ := ih (s + 1) (by omega) n S1 (ps (ow (shB b s 0)).1 6) (nI s) (by omega) hX1
      exact ⟨S2, e2, a1.tr a2⟩
    · rw [if_neg h, if_pos (Int32.not_lt.mp h)]
      obtain ⟨S2, e2, a2⟩ := ih (s + 1) (by omega) n S1 x1 x2 (by omega) hX1
      exact ⟨S2, e2, a1.tr a2⟩
/-- the reference sees b with spell s not shown, if it is left out -/
theorem RE_without {S : vS} {b : Bk} (hM : RM S b) (hn : bN b ≤ 20) {s : Nat} (hs : s < bN b) (h3 : S 0 3 = nI s) : RE S (shB b s 0) := by
  refine ⟨fun i c hi hc => ?_, fun i hi => ⟨fun q => ?_, fun q => ?_⟩, hM.2.1, hM.2.2.1, hM.2.2.2⟩
  · show _ = nI (if c = 6 ∧ i = s then 0 else bC b c i)
    rw [if_neg (by omega)]
    exact hM.1 i c hi (by omega)
  · show (if 6 = 6 ∧ i = s then 0 else bC b 6 i) = 0
    have hi2 : i < bN b := hi
    rw [h3] at q
    have := (nI_eq (a := i) (b := s) (by omega) (by omega)).mp q
    rw [if_pos ⟨rfl, this⟩]
  · show _ = nI (if 6 = 6 ∧ i = s then 0 else bC b 6 i)
    rw [if_neg (fun h => q (by rw [h3, h.2]))]
    exact hM.1 i 6 hi (by omega)
theorem q_hangs_loop {b : Bk} (hb : bOk b) (hn : bN b ≤ 20) : ∀ (k s : Nat), s + k = bN b → ∀ n (S : vS) (x1 x2 : Int32), k < n → RM S b → S 0 2 = nI (bN b) → ∃ S', f_X4_hangs_L22 n x1 x2 (nI s) S = some (hgS b k s x1 x2, S') ∧ Ag [14, 15, 16, 17, 18, 19] [3, 4] S S' := by
  intro k
  induction k with
  | zero =>
    intro s hs n S x1 x2 hk hM h2
    obtain ⟨n, rfl⟩ : ∃ q, n = q + 1 := ⟨n - 1, by omega⟩
    rw [f_X4_hangs_L22, h2, if_pos ((nI_leI (by omega) (by omega)).mpr (by omega))]
    exact ⟨S, rfl, Ag.rf _ _ _⟩
  | succ k ih =>
    intro s hs n S x1 x2 hk hM h2
    obtain ⟨n, rfl⟩ : ∃ q, n = q + 1 := ⟨n - 1, by omega⟩
    have hA : Ag [14, 15, 16, 17, 18, 19] [3, 4] S (upk S 0 (upd (S 0) 3 (nI s))) := Ag.j _ (by decide)
    have hM1 := RM_ag hA (by decide) hM
    have h21 : (upk S 0 (upd (S 0) 3 (nI s))) 0 2 = nI (bN b) := by rw [hA.2 2 (by decide)]; exact h2
    obtain ⟨S1, e1, a1, g1, -⟩ := q_finds (shB_ok hb (show 0 ≤ 1 by omega) (s := s)) (by show bN b ≤ 21; omega) (RE_without hM1 hn (show s < bN b by omega) (by rw [upk_eq, upd_k, if_pos rfl]))
    have hAA := hA.tr (a1.mono (by decide) (by decide))
    have hM2 := RM_ag hAA (by decide) hM
    have h22 : S1 0 2 = nI (bN b) := by rw [hAA.2 2 (by decide)]; exact h2
    have e1' : f_X4_finds (nI (bN b)) (upk S 0 (upd (S 0) 3 (nI s))) = some S1 := e1
    rw [f_X4_hangs_L22, h2, if_neg (fun q => absurd ((nI_leI (by omega) (by omega)).mp q) (by omega))]
    simp only [lt]
    rw [h21, e1', b1_some, p_sumOf4 19 (by decide) (by decide), ps_cong 6 g1, b1_some, b1_some, nI_1, hgS]
    by_cases h : ps (ow (shB b s 0)).1 6 < x1
    · rw [if_pos h, if_pos h]
      obtain ⟨S2, e2, a2⟩ := ih (s + 1) (by omega) n S1 (ps (ow (shB b s 0)).1 6) (nI s) (by omega) hM2 h22
      exact ⟨S2, e2, hAA.tr a2⟩
    · rw [if_neg h, if_neg h]
      obtain ⟨S2, e2, a2⟩ := ih (s + 1) (by omega) n S1 x1 x2 (by omega) hM2 h22
      exact ⟨S2, e2, hAA.tr a2⟩
theorem t_hangs {S : vS} (hI : IV S) : Alike f_X3_hangs f_X4_hangs S := by
  obtain ⟨⟨b, i1⟩, -⟩ := id hI
  obtain ⟨S1, e1, a1, -, -, -⟩ := p_owedByAll i1.1 i1.2.1 i1.2.2.1
  obtain ⟨S2, e2, a2⟩ := p_hangs_loop i1.1 i1.2.1 (bN b) 0 (by omega) FU S1 (ps (ow b).1 6) (-9) (by have := i1.2.1; unfold FU; omega) (RX_ag a1 (by decide) (by decide) (by decide) i1.2.2.1)
  have a12 := a1.tr a2
  have i2 := IVb_ag a12 (by decide) (by decide) i1
  obtain ⟨S3, e3, a3, g3, -⟩ := q_finds i2.1 (by have := i2.2.1; omega) (RE_of i2)
  rw [← i2.2.2.2.2.1] at e3
  have i3 := IVb_ag a3 (by decide) (by decide) i2
  obtain ⟨S4, e4, a4⟩ := q_hangs_loop i3.1 i3.2.1 (bN b) 0 (by omega) FU S3 (ps (ow b).1 6) (-9) (by have := i1.2.1; unfold FU; omega) i3.2.2.2.1 i3.2.2.2.2.1
  rw [← L0] at e2 e4
  refine ⟨hgS b (bN b) 0 (ps (ow b).1 6) (-9), S2, upk S4 0 (upd (S4 0) 3 (-1)), ?_, ?_, ?_⟩
  · rw [f_X3_hangs, e1, b2_some, e2, b2_some]
  · rw [f_X4_hangs, e3, b1_some, p_sumOf4 19 (by decide) (by decide), ps_cong 6 g3, b1_some, e4, b2_some]
    rfl
  · have h3 : S3 0 3 = -1 := i3.2.2.2.2.2
    have a5 : Ag [14, 15, 16, 17, 18, 19] [4] S3 (upk S4 0 (upd (S4 0) 3 (-1))) := by
      refine ⟨fun k h0 hk => by rw [upk_ne _ _ h0]; exact a4.1 k h0 hk, fun j hj => ?_⟩
      rw [upk_eq, upd_k]
      by_cases h : j = 3
      · rw [if_pos h, h, h3]
      · rw [if_neg h]; exact a4.2 j (by simp only [List.mem_cons, List.not_mem_nil, or_false] at hj ⊢; omega)
    exact IV_ag a5 (by decide) (by decide) (IV_ag a3 (by decide) (by decide) (IV_ag a12 (by decide) (by decide) hI))
/-- refusals of sums -/
theorem ref_endS {S : vS} (hI : IV S) {f g : vS → Option (Int32 × vS)} {w : Int32} {k : Nat} (hw : -w = nI k) (hk : k < 7) (hf : f S = b2 (f_X3_refuseSum w S) fun r S => some (r, S)) (hg : ∀ S1, Ag [33] [] S S1 → (∀ k, k ≠ 33 → S1 k = S k) → g S1 = b2 (f_X4_less w S1) fun r S => some (r, S)) : Alike f g S := by
  have h33 : ∀ k', k' ≠ 33 → upk S 33 (upd (S 33) k (S 33 k + 1)) k' = S k' := fun k' h => upk_ne S _ h
  refine ⟨1000000000 - w, upk S 33 (upd (S 33) k (S 33 k + 1)), upk (upk S 33 (upd (S 33) k (S 33 k + 1))) 1 (upd ((upk S 33 (upd (S 33) k (S 33 k + 1))) 1) k ((upk S 33 (upd (S 33) k (S 33 k + 1))) 1 k + 1)), ?_, ?_, ?_⟩
  · rw [hf, b2_id, f_X3_refuseSum, p_ref hw hk, b2_some]
  · rw [hg _ (Ag.k _ (by decide) (by decide)) h33, b2_id, f_X4_less, hw, if_pos (inb_n hk (by omega)), nI_clamp (by omega)]
    simp only [lt]
  · rw [h33 1 (by decide)]
    exact IV_ref hI k
theorem t_proof {S : vS} (hI : IV S) (a : Int32) : Alike (f_X3_proof a) (f_X4_proof a) S := by
  obtain ⟨⟨b, i1⟩, -⟩ := id hI
  have hn := i1.2.1
  rcases sp_cases i1 a with ⟨h3, h4⟩ | ⟨s, hs, rfl, h3, h4⟩
  · exact ref_endS hI (w := -1) (k := 1) (by decide) (by decide) (by rw [f_X3_proof, h3, b1_some, if_pos rfl]) (fun S1 _ h => by rw [f_X4_proof, h4 S1 (by rw [h 0 (by decide)]), b1_some, if_pos rfl])
  · have hq := (i1.1.1 s hs).2.2.2.2.2.2
    have hr : S (34 + s) 6 = nI (bC b 6 s) := i1.2.2.1.2.1 s 6 hs (by omega)
    have hr4 : S 9 s = nI (bC b 6 s) := i1.2.2.2.1.1 s 6 hs (by omega)
    by_cases h1 : bC b 6 s = 1
    · refine ref_endS hI (w := -3) (k := 3) (by decide) (by decide) ?_ (fun S1 _ h => ?_)
      · rw [f_X3_proof, h3, b1_some, if_neg (by decide), if_pos (inb_n (by omega) (by omega)), nI_clamp (by omega), hr, h1, if_pos (by decide)]
      · rw [f_X4_proof, h4 S1 (by rw [h 0 (by decide)]), b1_some, if_neg (by decide), if_pos (inb_n (by omega) (by omega)), nI_clamp (by omega), h 9 (by decide), hr4, h1, if_pos (by decide)]
    · have h0 : bC b 6 s = 0 := by omega
      obtain ⟨S1, e1, a1, -, -, -⟩ := p_owedByAll i1.1 hn i1.2.2.1
      obtain ⟨S2, e2, a2⟩ := p_owIf i1.1 hn (RX_ag a1 (by decide) (by decide) (by decide) i1.2.2.1) hs (show 1 ≤ 1 by omega)
      have a12 := a1.tr a2
      have i2 := IVb_ag a12 (by decide) (by decide) i1
      obtain ⟨S3, e3, a3, g3, -⟩ := q_finds i2.1 (by omega) (RE_of i2)
      rw [← i2.2.2.2.2.1] at e3
      have i3 := IVb_ag a3 (by decide) (by decide) i2
      have h93 : S3 9 s = nI 0 := by have := i3.2.2.2.1.1 s 6 hs (by omega); rw [h0] at this; exact this
      have hR4 : RE (upk S3 9 (upd (S3 9) s 1)) (shB b s 1) := by
        have hR := RE_of i3
        refine ⟨fun i c hi hc => ?_, fun i hi => ?_, fun l j hl hj => by rw [upk_ne _ _ (by decide)]; exact hR.2.2.1 l j hl hj, fun l hl => by rw [upk_ne _ _ (by decide)]; exact hR.2.2.2.1 l hl, fun x y hx hy => by rw [upk_ne _ _ (by decide)]; exact hR.2.2.2.2 x y hx hy⟩
        · show _ = nI (if c = 6 ∧ i = s then 1 else bC b c i)
          rw [if_neg (by omega), upk_ne _ _ (by omega)]
          exact hR.1 i c hi hc
        · have h3n : ¬ nI i = (upk S3 9 (upd (S3 9) s 1)) 0 3 := by
            rw [upk_ne _ _ (by decide), i3.2.2.2.2.2]
            intro q
            have hi2 : i < bN b := hi
            have h2 : (0 : Int32) ≤ nI i := nI_pos' (by omega)
            rw [q] at h2
            exact absurd h2 (by decide)
          refine ⟨fun q => absurd q h3n, fun _ => ?_⟩
          show _ = nI (if 6 = 6 ∧ i = s then 1 else bC b 6 i)
          rw [upk_eq, upd_k]
          by_cases h : i = s
          · rw [if_pos h, if_pos ⟨rfl, h⟩]; rfl
          · rw [if_neg h, if_neg (fun q => h q.2)]
            exact i3.2.2.2.1.1 i 6 hi (by omega)
      obtain ⟨S5, e5, a5, g5, -⟩ := q_finds (shB_ok i1.1 (show 1 ≤ 1 by omega)) (by show bN b ≤ 21; omega) hR4
      have e5' : f_X4_finds ((upk S3 9 (upd (S3 9) s 1)) 0 2) (upk S3 9 (upd (S3 9) s 1)) = some S5 := by
        rw [upk_ne _ _ (by decide), i3.2.2.2.2.1]; exact e5
      refine ⟨ps (ow (shB b s 1)).1 6 - ps (ow b).1 6, S2, upk S5 9 (upd (S5 9) s 0), ?_, ?_, ?_⟩
      · rw [f_X3_proof, h3, b1_some, if_neg (by decide), if_pos (inb_n (by omega) (by omega)), nI_clamp (by omega), hr, h0, if_neg (by decide), e1, b2_some, L1, e2, b2_some]
      · rw [f_X4_proof, h4 S2 (by rw [a12.2 2 (by decide)]), b1_some, if_neg (by decide), if_pos (inb_n (by omega) (by omega)), nI_clamp (by omega)]
        have h92 : S2 9 s = nI 0 := by have := i2.2.2.2.1.1 s 6 hs (by omega); rw [h0] at this; exact this
        rw [h92, if_neg (by decide), e3, b1_some, p_sumOf4 19 (by decide) (by decide), ps_cong 6 g3, b1_some]
        simp only [lt]
        rw [e5', b1_some, p_sumOf4 19 (by decide) (by decide), b1_some, upk_ne _ _ (by decide), ps_cong 6 g5]
      · have hA : Ag [14, 15, 16, 17, 18, 19] [4] S3 (upk S5 9 (upd (S5 9) s 0)) := by
          refine ⟨fun k k0 hk => ?_, fun j hj => by rw [upk_ne _ _ (by decide), a5.2 j hj, upk_ne _ _ (by decide)]⟩
          by_cases h9 : k = 9
          · subst h9
            rw [upk_eq, a5.1 9 (by decide) (by decide), upk_eq]
            funext j
            rw [upd_k, upd_k]
            by_cases h : j = s
            · rw [if_pos h, h, h93]; rfl
            · rw [if_neg h, if_neg h]
          · rw [upk_ne _ _ h9, a5.1 k k0 hk, upk_ne _ _ h9]
        exact IV_ag hA (by decide) (by decide) (IV_ag a3 (by decide) (by decide) (IV_ag a12 (by decide) (by decide) hI))
