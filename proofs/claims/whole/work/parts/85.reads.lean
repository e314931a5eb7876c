/-! the reference reads a spell; spell -/
theorem lt_eq {α β : Type} (x : α) (f : α → β) : lt x f = f x := rfl
theorem q_j98 {t : Nat → Nat} {tn N l : Nat} {k2 : Int32} {S0 S : vS} (hN : N < 20) (hA : AgN N S0 S) (hT : TR S t tn) (hp : 1 ≤ tn) (h : S 0 1 = nI 1) (h0 : S 3 N = nI l) (hk : k2 = if 1 < tn ∧ wkd (t 1) < 4 then nI (wkd (t 1)) else -1) : PrN N S0 (f_X4_reads_J98 (nI N) (nI N) k2 S) (rd0 t tn l) := by
  have hin : inb (nI N) 21 = true := inb_n (by omega) (by omega)
  have hcl : (nI N).toNatClampNeg = N := nI_clamp (by omega)
  have ht := hT.2.1
  rw [f_X4_reads_J98, if_pos hin, lt_eq, if_pos hin, hcl]
  have B1 : AgN N S (upk S 4 (upd (S 4) N k2)) := AgN.c N S (by decide) _
  have A1 := hA.tr B1
  have T1 := TR_ag B1 hT
  have P1 : upk S 4 (upd (S 4) N k2) 0 1 = nI 1 := by rw [upk_ne _ _ (by decide), h]
  have V14 : upk S 4 (upd (S 4) N k2) 4 N = k2 := by rw [upk_eq, upd_k, if_pos rfl]
  have V13 : upk S 4 (upd (S 4) N k2) 3 N = nI l := by rw [upk_ne _ _ (by decide), h0]
  generalize upk S 4 (upd (S 4) N k2) = S1 at A1 T1 P1 V14 V13
  rw [V14, rd0]
  by_cases q : 1 < tn ∧ wkd (t 1) < 4
  rotate_left
  · rw [if_neg q] at hk
    rw [if_neg q, hk, if_neg (by decide)]
    exact PrN_fail A1 P1
  rw [if_pos q] at hk
  rw [hk] at V14
  rw [if_pos q, hk, if_pos (nI_pos' (by omega)), lt_eq, rd1]
  have e2 : upk S1 0 (upd (S1 0) 1 (S1 0 1 + 1)) = plc 1 S1 2 := by rw [P1, nI_1]; rfl
  rw [e2]
  have B2 : AgN N S1 (plc 1 S1 2) := AgN.p _ _ _
  have A2 := A1.tr B2
  have T2 := TR_ag B2 T1
  have P2 : plc 1 S1 2 0 1 = nI 2 := plc_at _ _ _
  have V2 : ∀ k, k ≠ 0 → plc 1 S1 2 k = S1 k := fun k hk => plc_ne _ _ _ hk
  generalize plc 1 S1 2 = S2 at A2 T2 P2 V2
  obtain ⟨c1, c2⟩ := q_number T2 (by omega) P2
  by_cases q : dg t tn 2 = true
  rotate_left
  · have B3 : AgN N S2 (upk S2 5 (upd (S2 5) N (-1))) := AgN.c N S2 (by decide) _
    rw [if_neg q, c2 q, b2_some, lt_eq, upk_eq, upd_k, if_pos rfl, if_pos (by decide)]
    exact PrN_fail (A2.tr B3) (by rw [upk_ne _ _ (by decide), P2])
  rw [if_pos q, c1 q, b2_some, lt_eq, rd2]
  have b3 := (nm_le t tn 3 2 0).2.2.1 (by omega)
  have f9 := nm_999 t tn 2
  generalize (nm t tn 3 2 0).2 = p3 at b3
  generalize (nm t tn 3 2 0).1 = f at f9
  have B3 : AgN N S2 (upk (plc 1 S2 p3) 5 (upd (plc 1 S2 p3 5) N (nI f))) := (AgN.p N S2 p3).tr (AgN.c N _ (by decide) _)
  have A3 := A2.tr B3
  have T3 := TR_ag B3 T2
  have P3 : upk (plc 1 S2 p3) 5 (upd (plc 1 S2 p3 5) N (nI f)) 0 1 = nI p3 := by rw [upk_ne _ _ (by decide), plc_at]
  have V35 : upk (plc 1 S2 p3) 5 (upd (plc 1 S2 p3 5) N (nI f)) 5 N = nI f := by rw [upk_eq, upd_k, if_pos rfl]
  have V34 : upk (plc 1 S2 p3) 5 (upd (plc 1 S2 p3 5) N (nI f)) 4 N = nI (wkd (t 1)) := by rw [upk_ne _ _ (by decide), plc_ne _ _ _ (by decide), V2 _ (by decide), V14]
  have V33 : upk (plc 1 S2 p3) 5 (upd (plc 1 S2 p3 5) N (nI f)) 3 N = nI l := by rw [upk_ne _ _ (by decide), plc_ne _ _ _ (by decide), V2 _ (by decide), V13]
  generalize upk (plc 1 S2 p3) 5 (upd (plc 1 S2 p3 5) N (nI f)) = S3 at A3 T3 P3 V35 V34 V33
  rw [V35, if_neg (nI_pos (by omega))]
  obtain ⟨c1, c2⟩ := q_takes (c := 45) T3 b3 P3 (by decide)
  rw [show (45 : Int32) = nI 45 from rfl]
  by_cases q : p3 < tn ∧ t p3 = 45
  rotate_left
  · rw [if_neg q, c2 q, b2_some, if_pos rfl]
    exact PrN_fail A3 P3
  rw [if_pos q, c1 q, b2_some, if_neg (by decide), rd3]
  have B4 : AgN N S3 (plc 1 S3 (p3 + 1)) := AgN.p _ _ _
  have A4 := A3.tr B4
  have T4 := TR_ag B4 T3
  have P4 : plc 1 S3 (p3 + 1) 0 1 = nI (p3 + 1) := plc_at _ _ _
  have V4 : ∀ k, k ≠ 0 → plc 1 S3 (p3 + 1) k = S3 k := fun k hk => plc_ne _ _ _ hk
  generalize plc 1 S3 (p3 + 1) = S4 at A4 T4 P4 V4
  obtain ⟨c1, c2⟩ := q_number T4 (by omega) P4
  by_cases q2 : dg t tn (p3 + 1) = true
  rotate_left
  · have B5 : AgN N S4 (upk S4 6 (upd (S4 6) N (-1))) := AgN.c N S4 (by decide) _
    rw [if_neg q2, c2 q2, b2_some, lt_eq, upk_eq, upd_k, if_pos rfl, if_neg (by decide)]
    exact PrN_fail (A4.tr B5) (by rw [upk_ne _ _ (by decide), P4])
  rw [if_pos q2, c1 q2, b2_some, lt_eq, rd4]
  have b5 := (nm_le t tn 3 (p3 + 1) 0).2.2.1 (by omega)
  have u9 := nm_999 t tn (p3 + 1)
  generalize (nm t tn 3 (p3 + 1) 0).2 = p5 at b5
  generalize (nm t tn 3 (p3 + 1) 0).1 = u at u9
  have B5 : AgN N S4 (upk (plc 1 S4 p5) 6 (upd (plc 1 S4 p5 6) N (nI u))) := (AgN.p N S4 p5).tr (AgN.c N _ (by decide) _)
  have A5 := A4.tr B5
  have T5 := TR_ag B5 T4
  have P5 : upk (plc 1 S4 p5) 6 (upd (plc 1 S4 p5 6) N (nI u)) 0 1 = nI p5 := by rw [upk_ne _ _ (by decide), plc_at]
  have V56 : upk (plc 1 S4 p5) 6 (upd (plc 1 S4 p5 6) N (nI u)) 6 N = nI u := by rw [upk_eq, upd_k, if_pos rfl]
  have V55 : upk (plc 1 S4 p5) 6 (upd (plc 1 S4 p5 6) N (nI u)) 5 N = nI f := by rw [upk_ne _ _ (by decide), plc_ne _ _ _ (by decide), V4 _ (by decide), V35]
  have V54 : upk (plc 1 S4 p5) 6 (upd (plc 1 S4 p5 6) N (nI u)) 4 N = nI (wkd (t 1)) := by rw [upk_ne _ _ (by decide), plc_ne _ _ _ (by decide), V4 _ (by decide), V34]
  have V53 : upk (plc 1 S4 p5) 6 (upd (plc 1 S4 p5 6) N (nI u)) 3 N = nI l := by rw [upk_ne _ _ (by decide), plc_ne _ _ _ (by decide), V4 _ (by decide), V33]
  generalize upk (plc 1 S4 p5) 6 (upd (plc 1 S4 p5 6) N (nI u)) = S5 at A5 T5 P5 V56 V55 V54 V53
  rw [V56, V55, if_pos (nI_pos' (by omega)), L900, P4]
  have back : PrN N S0 (lt (upk S5 0 (upd (S5 0) 1 (nI (p3 + 1)))) fun S36 => some ((0 : Int32), S36)) (rdF (p3 + 1)) := PrN_fail (A5.tr (AgN.p _ _ _)) (plc_at 1 S5 (p3 + 1))
  by_cases g1 : 900 < u
  · rw [if_pos ((nI_ltI (by omega) (by omega)).mpr g1), if_pos (Or.inr g1)]
    exact back
  rw [if_neg (fun q => g1 ((nI_ltI (by omega) (by omega)).mp q))]
  by_cases g2 : f < u
  rotate_left
  · rw [if_neg (fun q => g2 ((nI_ltI (by omega) (by omega)).mp q)), if_pos (Or.inl (by omega))]
    exact back
  rw [if_pos ((nI_ltI (by omega) (by omega)).mpr g2), if_neg (show ¬ (u ≤ f ∨ 900 < u) by omega)]
  obtain ⟨c1, c2⟩ := q_takes (c := 42) T5 b5 P5 (by decide)
  rw [show (42 : Int32) = nI 42 from rfl]
  by_cases q : p5 < tn ∧ t p5 = 42
  rotate_left
  · rw [if_neg q, c2 q, b2_some, if_pos rfl]
    exact PrN_fail A5 P5
  rw [if_pos q, c1 q, b2_some, if_neg (by decide), rd5]
  have B6 : AgN N S5 (plc 1 S5 (p5 + 1)) := AgN.p _ _ _
  have A6 := A5.tr B6
  have T6 := TR_ag B6 T5
  have P6 : plc 1 S5 (p5 + 1) 0 1 = nI (p5 + 1) := plc_at _ _ _
  have V6 : ∀ k, k ≠ 0 → plc 1 S5 (p5 + 1) k = S5 k := fun k hk => plc_ne _ _ _ hk
  generalize plc 1 S5 (p5 + 1) = S6 at A6 T6 P6 V6
  obtain ⟨c1, c2⟩ := q_number T6 (by omega) P6
  by_cases q3 : dg t tn (p5 + 1) = true
  rotate_left
  · have B7 : AgN N S6 (upk S6 7 (upd (S6 7) N (-1))) := AgN.c N S6 (by decide) _
    rw [if_neg q3, c2 q3, b2_some, lt_eq, upk_eq, upd_k, if_pos rfl, if_neg (by decide)]
    exact PrN_fail (A6.tr B7) (by rw [upk_ne _ _ (by decide), P6])
  rw [if_pos q3, c1 q3, b2_some, lt_eq]
  have b7 := (nm_le t tn 3 (p5 + 1) 0).2.2.1 (by omega)
  have y9 := nm_999 t tn (p5 + 1)
  generalize (nm t tn 3 (p5 + 1) 0).2 = p7 at b7
  generalize (nm t tn 3 (p5 + 1) 0).1 = y at y9
  have B7 : AgN N S6 (upk (plc 1 S6 p7) 7 (upd (plc 1 S6 p7 7) N (nI y))) := (AgN.p N S6 p7).tr (AgN.c N _ (by decide) _)
  have A7 := A6.tr B7
  have T7 := TR_ag B7 T6
  have P7 : upk (plc 1 S6 p7) 7 (upd (plc 1 S6 p7 7) N (nI y)) 0 1 = nI p7 := by rw [upk_ne _ _ (by decide), plc_at]
  have V77 : upk (plc 1 S6 p7) 7 (upd (plc 1 S6 p7 7) N (nI y)) 7 N = nI y := by rw [upk_eq, upd_k, if_pos rfl]
  have V7 : ∀ k, k ≠ 0 → k ≠ 7 → upk (plc 1 S6 p7) 7 (upd (plc 1 S6 p7 7) N (nI y)) k = S5 k := fun k hk h7 => by rw [upk_ne _ _ h7, plc_ne _ _ _ hk, V6 _ hk]
  generalize upk (plc 1 S6 p7) 7 (upd (plc 1 S6 p7 7) N (nI y)) = S7 at A7 T7 P7 V77 V7
  rw [V77, if_pos (nI_pos' (by omega))]
  exact q_six hN A7 T7 b7 P7 (by rw [V7 _ (by decide) (by decide)]; exact V53) (by rw [V7 _ (by decide) (by decide)]; exact V54) (by rw [V7 _ (by decide) (by decide)]; exact V55) (by rw [V7 _ (by decide) (by decide)]; exact V56) V77
theorem q_reads {t : Nat → Nat} {tn N : Nat} {S : vS} (hN : N < 20) (hT : TR S t tn) (h2 : S 0 2 = nI N) : PrN N S (f_X4_reads S) (rd t tn) := by
  have hin : inb (nI N) 21 = true := inb_n (by omega) (by omega)
  have hcl : (nI N).toNatClampNeg = N := nI_clamp (by omega)
  have ht := hT.2.1
  have e1 : upk S 0 (upd (S 0) 1 (0 : Int32)) = plc 1 S 0 := rfl
  rw [f_X4_reads, lt_eq, e1]
  have A1 : AgN N S (plc 1 S 0) := AgN.p _ _ _
  have T1 := TR_ag A1 hT
  have P1 : plc 1 S 0 0 1 = nI 0 := plc_at _ _ _
  have h21 : plc 1 S 0 0 2 = nI N := by rw [A1.2 2 (by decide), h2]
  generalize plc 1 S 0 = S1 at A1 T1 P1 h21
  rw [q_sgn T1 (by omega) P1, b1_some, h21, if_pos hin, lt_eq, hcl]
  have B2 : AgN N S1 (upk S1 3 (upd (S1 3) N (sgI t tn 0 - 48))) := AgN.c N S1 (by decide) _
  have A2 := A1.tr B2
  have T2 := TR_ag B2 T1
  have P2 : upk S1 3 (upd (S1 3) N (sgI t tn 0 - 48)) 0 1 = nI 0 := by rw [upk_ne _ _ (by decide), P1]
  have V23 : upk S1 3 (upd (S1 3) N (sgI t tn 0 - 48)) 3 N = sgI t tn 0 - 48 := by rw [upk_eq, upd_k, if_pos rfl]
  generalize upk S1 3 (upd (S1 3) N (sgI t tn 0 - 48)) = S2 at A2 T2 P2 V23
  rw [V23, rd]
  have hsg : (0 < tn ∧ lnd (t 0) < 6 → sgI t tn 0 - 48 = nI (lnd (t 0))) ∧ (¬ (0 < tn ∧ lnd (t 0) < 6) → (sgI t tn 0 - 48 < 0 ∨ 6 ≤ sgI t tn 0 - 48)) := by
    unfold sgI
    by_cases q : 0 < tn
    · rw [if_pos q]
      have := lnd_n (t 0) (hT.2.2 0 q).2
      exact ⟨fun g => this.1 g.2, fun g => this.2 (fun g2 => g ⟨q, g2⟩)⟩
    · rw [if_neg q]
      exact ⟨fun g => absurd g.1 q, fun _ => Or.inl (by decide)⟩
  by_cases q : 0 < tn ∧ lnd (t 0) < 6
  rotate_left
  · have : f_X4_isLand (sgI t tn 0 - 48) S2 = some 0 := by
      rw [f_X4_isLand]
      by_cases g : sgI t tn 0 - 48 < 0
      · rw [if_pos g]
      · rw [if_neg g, if_pos ((hsg.2 q).resolve_left g)]
    rw [this, b1_some, if_neg q, if_pos rfl]
    exact PrN_fail A2 P2
  have hl : f_X4_isLand (sgI t tn 0 - 48) S2 = some 1 := by
    rw [hsg.1 q, f_X4_isLand, if_neg (nI_pos (by omega)), L6, if_neg (nI_nl2 q.2 (by omega))]
  rw [hl, b1_some, if_pos q, if_neg (by decide), lt_eq]
  rw [hsg.1 q] at V23
  have e3 : upk S2 0 (upd (S2 0) 1 (S2 0 1 + 1)) = plc 1 S2 1 := by rw [P2, nI_1]; rfl
  rw [e3]
  have B3 : AgN N S2 (plc 1 S2 1) := AgN.p _ _ _
  have A3 := A2.tr B3
  have T3 := TR_ag B3 T2
  have P3 : plc 1 S2 1 0 1 = nI 1 := plc_at _ _ _
  have V33 : plc 1 S2 1 3 N = nI (lnd (t 0)) := by rw [plc_ne _ _ _ (by decide), V23]
  generalize plc 1 S2 1 = S3 at A3 T3 P3 V33
  rw [q_sgn T3 (by omega) P3, b1_some]
  have ew : ∀ r : Int32, (if r = (115 : Int32) then f_X4_reads_J98 (nI N) (nI N) (0 : Int32) S3 else if r = (102 : Int32) then f_X4_reads_J98 (nI N) (nI N) (1 : Int32) S3 else if r = (97 : Int32) then f_X4_reads_J98 (nI N) (nI N) (2 : Int32) S3 else if r = (98 : Int32) then f_X4_reads_J98 (nI N) (nI N) (3 : Int32) S3 else f_X4_reads_J98 (nI N) (nI N) (-1 : Int32) S3) = f_X4_reads_J98 (nI N) (nI N) (wkI r) S3 := fun r => by
    unfold wkI
    by_cases a1 : r = 115
    · rw [if_pos a1, if_pos a1]
    · rw [if_neg a1, if_neg a1]
      by_cases a2 : r = 102
      · rw [if_pos a2, if_pos a2]
      · rw [if_neg a2, if_neg a2]
        by_cases a3 : r = 97
        · rw [if_pos a3, if_pos a3]
        · rw [if_neg a3, if_neg a3]
          by_cases a4 : r = 98
          · rw [if_pos a4, if_pos a4]
          · rw [if_neg a4, if_neg a4]
  rw [ew]
  refine q_j98 hN A3 T3 (by omega) P3 V33 ?_
  unfold sgI
  by_cases g : 1 < tn
  · rw [if_pos g, wkI_n _ (hT.2.2 1 g).2]
    by_cases g2 : wkd (t 1) < 4
    · rw [if_pos g2, if_pos ⟨g, g2⟩]
    · rw [if_neg g2, if_neg (fun g3 => g2 g3.2)]
  · rw [if_neg g, if_neg (fun g3 => g g3.1)]
    decide
