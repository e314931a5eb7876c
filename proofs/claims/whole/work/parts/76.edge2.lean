theorem q_edgeno (x1 x2 x3 : Int32) (S : vS) (h : ¬ x3 = 0) : f_X4_edge_J38 x1 x2 x3 S = b2 (f_X4_no x3 S) fun r S => some (r, S) := by rw [f_X4_edge_J38, if_neg h]
theorem t_edge {S : vS} (hI : IV S) (a c : Int32) : Alike (f_X3_edge a c) (f_X4_edge a c) S := by
  rcases land_cases a with ⟨h3, h4⟩ | ⟨l, hl, rfl, h3, h4⟩
  · exact ref_end hI (w := -1) (k := 1) (by decide) (by decide) (by rw [f_X3_edge, h3, b1_some, if_pos rfl]) (fun S1 _ _ => by rw [f_X4_edge, h4, b1_some, if_pos rfl])
  · by_cases c0 : c < 0
    · exact ref_end hI (w := -4) (k := 4) (by decide) (by decide) (by rw [f_X3_edge, h3, b1_some, if_neg (by decide), if_neg (fun q => absurd (Int32.lt_of_le_of_lt q c0) (Int32.lt_irrefl))]) (fun S1 _ _ => by rw [f_X4_edge, h4, b1_some, if_neg (by decide), q_out_lo _ c0, b1_some, if_neg (by decide), q_edgeno _ _ _ _ (by decide)])
    · by_cases c9 : c ≤ nI 999
      · obtain ⟨y, hy, rfl⟩ := nI_of2 (M := nI 999) (n := 999) (nI_toInt (by decide)) c0 c9
        obtain ⟨⟨b, i1⟩, -⟩ := id hI
        have hn := i1.2.1
        by_cases h20 : bN b = 20
        · refine ref_end hI (w := -3) (k := 3) (by decide) (by decide) ?_ (fun S1 _ h => ?_)
          · rw [f_X3_edge, h3, b1_some, if_neg (by decide), if_pos (Int32.not_lt.mp c0), L999, if_pos c9, i1.2.2.1.1, h20, L20, if_neg (by decide)]
          · rw [f_X4_edge, h4, b1_some, if_neg (by decide), L999, q_out_in c0 c9, b1_some, if_pos rfl, h 0 (by decide), i1.2.2.2.2.1, h20, L20, if_pos rfl, q_edgeno _ _ _ _ (by decide)]
        · obtain ⟨S1, e1, a1, g1, -, t1⟩ := p_owedByAll i1.1 hn i1.2.2.1
          have i2 := IVb_ag a1 (by decide) (by decide) i1
          have hbh := bhN_le b i1.1 (bN b) (Nat.le_refl _)
          have hmo : ∃ mo, mo = (if 120 ≤ 900 - bhN b (bN b) then 120 else 900 - bhN b (bN b)) ∧ mo ≤ 120 ∧ bhN b (bN b) + mo ≤ 900 ∧ mn (nI 120) (nI 900 - nI (bhN b (bN b))) = nI mo := by
            rw [pk_sub hbh, nI_min _ _ (by omega) (by omega)]
            by_cases h : 120 ≤ 900 - bhN b (bN b)
            · exact ⟨120, by rw [if_pos h], by omega, by omega, by rw [Nat.min_eq_left h]⟩
            · exact ⟨900 - bhN b (bN b), by rw [if_neg h], by omega, by omega, by rw [Nat.min_eq_right (by omega)]⟩
          obtain ⟨mo, m1, m2, m3, m4⟩ := hmo
          obtain ⟨S2, a2, r2⟩ := p_edge_loop i2.1 hn (y := y) hl hy ((ow b).1 l) m2 m3 mo 0 (by omega) FU S1 (by unfold FU; omega) i2.2.2.1 (fun o j ho hj => by rw [Nat.zero_mul, Nat.add_zero]; exact t1 o j ho hj)
          have a12 := a1.tr a2
          have i3 := IVb_ag a12 (by decide) (by decide) i1
          obtain ⟨S3, e3, a3, g3, -⟩ := q_finds i3.1 (by omega) (RE_of i3)
          rw [← i3.2.2.2.2.1] at e3
          have i4 := IVb_ag a3 (by decide) (by decide) i3
          obtain ⟨S4, a4, r4⟩ := q_edge_loop (y := y) (by omega) hl hy ((ow b).1 l) m1 mo 0 (by omega) FU S3 (by unfold FU; omega) i4
          refine ⟨egS b l y ((ow b).1 l) mo 1, S2, S4, ?_, ?_, ?_⟩
          · rw [f_X3_edge, h3, b1_some, if_neg (by decide), if_pos (Int32.not_lt.mp c0), L999, if_pos c9, i1.2.2.1.1, L20, if_pos ((nI_ltI (by omega) (by omega)).mpr (by omega)), e1, b2_some, if_pos (inb_n hl (by omega)), nI_clamp (by omega), g1 l hl, lt, p_behind i2.2.2.1 i2.1 hn, b1_some, lt, L120, L900, m4, L1]
            rcases r2 with ⟨r, r9⟩ | r
            · rw [r, r9]; rfl
            · rw [r]; rfl
          · rw [f_X4_edge, h4, b1_some, if_neg (by decide), L999, q_out_in c0 c9, b1_some, if_pos rfl, i3.2.2.2.2.1, L20, if_neg (fun q => h20 ((nI_eq (by omega) (by omega)).mp q)), f_X4_edge_J38, if_pos rfl, e3, b1_some, if_pos (inb_n hl (by omega)), nI_clamp (by omega), g3 l hl, lt, q_behind i4.1 hn i4.2.2.2.1 i4.2.2.2.2.1, b1_some, L1]
            rcases r4 with ⟨r, r9⟩ | r
            · rw [r, r9]; rfl
            · rw [r]; rfl
          · exact IV_AgB i4 a4 (IV_ag a3 (by decide) (by decide) (IV_ag a12 (by decide) (by decide) hI))
      · have c10 : nI 999 < c := Int32.not_le.mp c9
        exact ref_end hI (w := -6) (k := 6) (by decide) (by decide) (by rw [f_X3_edge, h3, b1_some, if_neg (by decide), if_pos (Int32.not_lt.mp c0), L999, if_neg c9]) (fun S1 _ _ => by rw [f_X4_edge, h4, b1_some, if_neg (by decide), L999, q_out_hi c0 c10, b1_some, if_neg (by decide), q_edgeno _ _ _ _ (by decide)])
/-- a year more -/
def yT (b : Bk) : Nat := bhN b (bN b) + min 12 (900 - bhN b (bN b))
def yw (b : Bk) (y l : Nat) : Int32 := ps (ow (bnB b l (yT b) y)).1 6
theorem p_withYear {b : Bk} (hb : bOk b) (hn : bN b ≤ 20) {l y : Nat} (hl : l < 6) (hy : y ≤ 999) {S : vS} (hX : RXb S b) : ∃ S', f_X3_owedByAllWithYear (nI l) (nI y) S = some (yw b y l, S') ∧ Ag scX scJ S S' := by
  have hbh := bhN_le b hb (bN b) (Nat.le_refl _)
  obtain ⟨S1, e1, a1, s1⟩ := p_reckon hb hn hX
  have hX1 := RX_ag a1 (by decide) (by decide) (by decide) hX
  obtain ⟨S2, e2, a2, g2⟩ := p_addBench hb (len := min 12 (900 - bhN b (bN b))) (y := y) hl hX1
  have hX2 := RX_ag a2 (by decide) (by decide) (by decide) hX1
  obtain ⟨S3, e3, a3, g3, -⟩ := p_settle hb (fun o j => TT b o j + min 12 (900 - bhN b (bN b)) * un b l y o j) (tk_lt hb (by omega) hy) hX2 (fun o j ho hj => by rw [g2 o j ho hj, s1.1 o j ho hj, nI_add]; rfl)
  refine ⟨S3, ?_, ((a1.mono (by decide) (by decide)).tr (a2.mono (by decide) (by decide))).tr (a3.mono (by decide) (by decide))⟩
  rw [f_X3_owedByAllWithYear, e1, b1_some, p_behind hX1 hb hn, b1_some, L12, L900, pk_sub hbh, nI_min _ _ (by omega) (by omega), e2, b1_some, e3, b2_some]
  unfold yw yT
  rw [ow_bn hl (by omega)]
/-- the best of the lands from i on -/
def ybS (b : Bk) (y : Nat) : Nat → Nat → Int32 → Int32 → Int32 × Int32
  | 0, _, best, most => (best, most)
  | k + 1, i, best, most => if most < yw b y i then ybS b y k (i + 1) (nI i) (yw b y i) else ybS b y k (i + 1) best most
theorem p_year_loop {b : Bk} (hb : bOk b) (hn : bN b ≤ 20) {y : Nat} (hy : y ≤ 999) (x2 x3 : Int32) : ∀ (k i : Nat), i + k = 6 → ∀ n (S : vS) (x4 x5 : Int32), k < n → RXb S b → ∃ S', f_X3_year_L92 n (nI y) x2 x3 x4 x5 (nI i) S = some ((ybS b y k i x4 x5).1, (ybS b y k i x4 x5).2, S') ∧ Ag scX scJ S S' := by
  intro k
  induction k with
  | zero =>
    intro i hi n S x4 x5 hk hX
    obtain ⟨n, rfl⟩ : ∃ q, n = q + 1 := ⟨n - 1, by omega⟩
    rw [f_X3_year_L92, L6, if_pos ((nI_leI (by omega) (by omega)).mpr (by omega))]
    exact ⟨S, rfl, Ag.rf _ _ _⟩
  | succ k ih =>
    intro i hi n S x4 x5 hk hX
    obtain ⟨n, rfl⟩ : ∃ q, n = q + 1 := ⟨n - 1, by omega⟩
    obtain ⟨S1, e1, a1⟩ := p_withYear hb hn (show i < 6 by omega) hy hX
    have hX1 := RX_ag a1 (by decide) (by decide) (by decide) hX
    rw [f_X3_year_L92, L6, if_neg (fun q => absurd ((nI_leI (by omega) (by omega)).mp q) (by omega)), e1, b2_some, nI_1, ybS]
    by_cases h : x5 < yw b y i
    · rw [if_pos h, if_neg (fun q => absurd (Int32.lt_of_lt_of_le h q) (Int32.lt_irrefl))]
      obtain ⟨S2, e2, a2⟩ := ih (i + 1) (by omega) n S1 (nI i) (yw b y i) (by omega) hX1
      exact ⟨S2, e2, a1.tr a2⟩
    · rw [if_neg h, if_pos (Int32.not_lt.mp h)]
      obtain ⟨S2, e2, a2⟩ := ih (i + 1) (by omega) n S1 x4 x5 (by omega) hX1
      exact ⟨S2, e2, a1.tr a2⟩
theorem yT_gt {b : Bk} (hbh : bhN b (bN b) < 900) : bhN b (bN b) < yT b ∧ yT b = if bhN b (bN b) + 12 < 900 then bhN b (bN b) + 12 else 900 := by
  unfold yT
  by_cases h : bhN b (bN b) + 12 < 900
  · rw [if_pos h]; omega
  · rw [if_neg h]; omega
theorem q_year_loop {b : Bk} (hn : bN b < 20) (hbh : bhN b (bN b) < 900) {y : Nat} (hy : y ≤ 999) (x2 x5 : Int32) : ∀ (k i : Nat), i + k = 6 → ∀ n (S : vS) (z : Nat) (x7 : Int32), k < n → z < 6 → IVb S b → ∃ S', f_X4_year_L92 n (nI y) x2 (nI (bhN b (bN b))) x5 (nI z) x7 (nI i) S = some ((ybS b y k i (nI z) x7).1, (ybS b y k i (nI z) x7).2, S') ∧ AgB (bN b) S S' := by
  intro k
  induction k with
  | zero =>
    intro i hi n S z x7 hk hz hI
    obtain ⟨n, rfl⟩ : ∃ q, n = q + 1 := ⟨n - 1, by omega⟩
    rw [f_X4_year_L92, L6, if_pos ((nI_leI (by omega) (by omega)).mpr (by omega))]
    exact ⟨S, rfl, ⟨fun _ _ _ _ => rfl, fun _ _ _ _ _ => rfl, fun _ _ => rfl⟩⟩
  | succ k ih =>
    intro i hi n S z x7 hk hz hI
    obtain ⟨n, rfl⟩ : ∃ q, n = q + 1 := ⟨n - 1, by omega⟩
    obtain ⟨S1, e1, a1, g1⟩ := q_with hI hn (k := 12) (t := yT b) (show i < 6 by omega) hy (by omega) (yT_gt hbh).1 (yT_gt hbh).2
    have hI1 := IVb_AgB a1 hI
    have hs : f_X4_sumOf 19 S1 = some (yw b y i) := by rw [p_sumOf4 19 (by decide) (by decide), ps_cong 6 g1]; rfl
    rw [f_X4_year_L92, L6, if_neg (fun q => absurd ((nI_leI (by omega) (by omega)).mp q) (by omega)), L12, e1, b1_some, if_neg (nI_pos (by omega)), hs, b1_some, b1_some, nI_1, ybS]
    by_cases h : x7 < yw b y i
    · rw [if_pos h, if_pos h]
      obtain ⟨S2, e2, a2⟩ := ih (i + 1) (by omega) n S1 i (yw b y i) (by omega) (by omega) hI1
      exact ⟨S2, e2, a1.tr a2⟩
    · rw [if_neg h, if_neg h]
      obtain ⟨S2, e2, a2⟩ := ih (i + 1) (by omega) n S1 z x7 (by omega) hz hI1
      exact ⟨S2, e2, a1.tr a2⟩
theorem q_yearno (x1 x2 x3 x4 : Int32) (S : vS) (h : ¬ x3 = 0) : f_X4_year_J55 x1 x2 x3 x4 S = b2 (f_X4_less x3 S) fun r S => some (r, S) := by rw [f_X4_year_J55, if_neg h]
theorem t_year {S : vS} (hI : IV S) (a c : Int32) : Alike (f_X3_year a c) (f_X4_year a c) S := by
  obtain ⟨⟨b, i1⟩, -⟩ := id hI
  have hn := i1.2.1
  have hbh := bhN_le b i1.1 (bN b) (Nat.le_refl _)
  have hbeh : ∀ S1 : vS, Ag [33] [] S S1 → f_X4_behind S1 = some (nI (bhN b (bN b))) := fun S1 hA => q_behind i1.1 hn (RM_ag hA (by decide) i1.2.2.2.1) (by rw [hA.2 2 (by decide)]; exact i1.2.2.2.2.1)
  rcases pk_ix c (n := 2) (by decide) with h | h | ⟨w, hw, rfl⟩
  · exact ref_endS hI (w := -2) (k := 2) (by decide) (by decide) (by rw [f_X3_year, if_pos h]) (fun S1 _ _ => by rw [f_X4_year, L1, q_isIn_no (by decide) (Or.inl h), b1_some, if_pos rfl])
  · exact ref_endS hI (w := -2) (k := 2) (by decide) (by decide) (by rw [f_X3_year, if_neg (ge_nneg (by decide) h), L1, if_neg (fun q => absurd (Int32.lt_of_lt_of_le (ge_gt (n := 2) (m := 1) (by decide) (by decide) h) q) (Int32.lt_irrefl))]) (fun S1 _ _ => by rw [f_X4_year, L1, q_isIn_no (by decide) (Or.inr h), b1_some, if_pos rfl])
  · have hw0 : ¬ nI w < 0 := nI_pos (by omega)
    have hw1 : nI w ≤ nI 1 := (nI_leI (by omega) (by omega)).mpr (by omega)
    by_cases c0 : a < 0
    · exact ref_endS hI (w := -4) (k := 4) (by decide) (by decide) (by rw [f_X3_year, if_neg hw0, L1, if_pos hw1, if_neg (fun q => absurd (Int32.lt_of_le_of_lt q c0) (Int32.lt_irrefl))]) (fun S1 hA _ => by rw [f_X4_year, L1, q_isIn_yes (by decide) (by omega), b1_some, if_neg (by decide), q_out_lo _ c0, b1_some, hbeh S1 hA, b1_some, if_neg (by decide), q_yearno _ _ _ _ _ (by decide)])
    · by_cases c9 : a ≤ nI 999
      · obtain ⟨y, hy, rfl⟩ := nI_of2 (M := nI 999) (n := 999) (nI_toInt (by decide)) c0 c9
        by_cases h20 : bN b = 20
        · refine ref_endS hI (w := -3) (k := 3) (by decide) (by decide) ?_ (fun S1 hA h => ?_)
          · rw [f_X3_year, if_neg hw0, L1, if_pos hw1, if_pos (Int32.not_lt.mp c0), L999, if_pos c9, i1.2.2.1.1, h20, L20, if_pos (by decide)]
          · rw [f_X4_year, L1, q_isIn_yes (by decide) (by omega), b1_some, if_neg (by decide), L999, q_out_in c0 c9, b1_some, hbeh S1 hA, b1_some, if_pos rfl, h 0 (by decide), i1.2.2.2.2.1, h20, L20, if_pos rfl, f_X4_year_J52, q_yearno _ _ _ _ _ (by decide)]
        · have h20' : ¬ nI 20 ≤ nI (bN b) := fun q => absurd ((nI_leI (by omega) (by omega)).mp q) (by omega)
          have h20q : ¬ nI (bN b) = nI 20 := fun q => h20 ((nI_eq (by omega) (by omega)).mp q)
          by_cases h9 : bhN b (bN b) = 900
          · refine ref_endS hI (w := -3) (k := 3) (by decide) (by decide) ?_ (fun S1 hA h => ?_)
            · rw [f_X3_year, if_neg hw0, L1, if_pos hw1, if_pos (Int32.not_lt.mp c0), L999, if_pos c9, i1.2.2.1.1, L20, if_neg h20', p_behind i1.2.2.1 i1.1 hn, b1_some, L900, h9, if_neg (Int32.lt_irrefl)]
            · rw [f_X4_year, L1, q_isIn_yes (by decide) (by omega), b1_some, if_neg (by decide), L999, q_out_in c0 c9, b1_some, hbeh S1 hA, b1_some, if_pos rfl, h 0 (by decide), i1.2.2.2.2.1, L20, if_neg h20q, L900, h9, if_pos rfl, f_X4_year_J52, q_yearno _ _ _ _ _ (by decide)]
          · have hlt : bhN b (bN b) < 900 := by omega
            obtain ⟨S1, e1, a1, -, -, -⟩ := p_owedByAll i1.1 hn i1.2.2.1
            have hX1 := RX_ag a1 (by decide) (by decide) (by decide) i1.2.2.1
            obtain ⟨S2, e2, a2⟩ := p_withYear i1.1 hn (show 0 < 6 by omega) hy hX1
            have hX2 := RX_ag a2 (by decide) (by decide) (by decide) hX1
            obtain ⟨S3, e3, a3⟩ := p_year_loop i1.1 hn hy (nI w) (ps (ow b).1 6) 5 1 (by omega) FU S2 0 (yw b y 0) (by unfold FU; omega) hX2
            have aX := (a1.tr a2).tr a3
            have i3 := IVb_ag aX (by decide) (by decide) i1
            obtain ⟨S4, e4, a4, g4, -⟩ := q_finds i3.1 (by omega) (RE_of i3)
            rw [← i3.2.2.2.2.1] at e4
            have i4 := IVb_ag a4 (by decide) (by decide) i3
            obtain ⟨S5, e5, a5, g5⟩ := q_with i4 (by omega) (k := 12) (t := yT b) (show 0 < 6 by omega) hy (by omega) (yT_gt hlt).1 (yT_gt hlt).2
            have i5 := IVb_AgB a5 i4
            have hs5 : f_X4_sumOf 19 S5 = some (yw b y 0) := by rw [p_sumOf4 19 (by decide) (by decide), ps_cong 6 g5]; rfl
            obtain ⟨m, hm⟩ : ∃ m, FU = m + 1 := ⟨5999, rfl⟩
            have hm9 : 5 < m := by unfold FU at hm; omega
            obtain ⟨S6, e6, a6⟩ := q_year_loop (by omega) hlt hy (nI w) (ps (ow b).1 6) 5 1 (by omega) m S5 0 (yw b y 0) hm9 (by omega) i5
            have hb4 : f_X4_behind S3 = some (nI (bhN b (bN b))) := q_behind i3.1 hn i3.2.2.2.1 i3.2.2.2.2.1
            have hloop : f_X4_year_L92 FU (nI y) (nI w) (nI (bhN b (bN b))) (ps (ow b).1 6) (-1) (nI 0) (nI 0) S4 = some ((ybS b y 5 1 (nI 0) (yw b y 0)).1, (ybS b y 5 1 (nI 0) (yw b y 0)).2, S6) := by
              rw [hm, f_X4_year_L92, L6, if_neg (by decide), L12, e5, b1_some, if_pos (by decide), hs5, b1_some, nI_1]
              exact e6
            have hIV : IV S6 := IV_AgB i4 (a5.tr a6) (IV_ag a4 (by decide) (by decide) (IV_ag aX (by decide) (by decide) hI))
            refine ⟨if nI w = 0 then (ybS b y 5 1 (nI 0) (yw b y 0)).1 else (ybS b y 5 1 (nI 0) (yw b y 0)).2 - ps (ow b).1 6, S3, S6, ?_, ?_, hIV⟩
            · rw [f_X3_year, if_neg hw0, L1, if_pos hw1, if_pos (Int32.not_lt.mp c0), L999, if_pos c9, i1.2.2.1.1, L20, if_neg h20', p_behind i1.2.2.1 i1.1 hn, b1_some, L900, if_pos ((nI_ltI (by omega) (by omega)).mpr hlt), e1, b2_some, L0, e2, b2_some]
              rw [L0] at e3
              rw [e3]
              simp only [b3]
              split <;> rfl
            · rw [f_X4_year, L1, q_isIn_yes (by decide) (by omega), b1_some, if_neg (by decide), L999, q_out_in c0 c9, b1_some, hb4, b1_some, if_pos rfl, i3.2.2.2.2.1, L20, if_neg h20q, L900, if_neg (fun q => h9 ((nI_eq (by omega) (by omega)).mp q)), f_X4_year_J55, if_pos rfl, e4, b1_some, p_sumOf4 19 (by decide) (by decide), ps_cong 6 g4, b1_some]
              have h00 := hloop
              rw [L0, h00]
              simp only [b3]
              split <;> rfl
      · have c10 : nI 999 < a := Int32.not_le.mp c9
        exact ref_endS hI (w := -6) (k := 6) (by decide) (by decide) (by rw [f_X3_year, if_neg hw0, L1, if_pos hw1, if_pos (Int32.not_lt.mp c0), L999, if_neg c9]) (fun S1 hA _ => by rw [f_X4_year, L1, q_isIn_yes (by decide) (by omega), b1_some, if_neg (by decide), L999, q_out_hi c0 c10, b1_some, hbeh S1 hA, b1_some, if_neg (by decide), q_yearno _ _ _ _ _ (by decide)])
