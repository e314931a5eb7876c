/-- NineLandsModel.no(I)I -/
theorem dX4_no_0 : decode cX4_no 0 = .ok (.aload_n 0, 1) := by decide +kernel
theorem dX4_no_1 : decode cX4_no 1 = .ok (.getfield 7, 3) := by decide +kernel
theorem dX4_no_4 : decode cX4_no 4 = .ok (.iload_n 1, 1) := by decide +kernel
theorem dX4_no_5 : decode cX4_no 5 = .ok (.ineg, 1) := by decide +kernel
theorem dX4_no_6 : decode cX4_no 6 = .ok (.dup2, 1) := by decide +kernel
theorem dX4_no_7 : decode cX4_no 7 = .ok (.iaload, 1) := by decide +kernel
theorem dX4_no_8 : decode cX4_no 8 = .ok (.iconst 1, 1) := by decide +kernel
theorem dX4_no_9 : decode cX4_no 9 = .ok (.iadd, 1) := by decide +kernel
theorem dX4_no_10 : decode cX4_no 10 = .ok (.iastore, 1) := by decide +kernel
theorem dX4_no_11 : decode cX4_no 11 = .ok (.iload_n 1, 1) := by decide +kernel
theorem dX4_no_12 : decode cX4_no 12 = .ok (.ireturn, 1) := by decide +kernel
theorem hd_X4_no : yX4_no.cls ≠ "java/lang/invoke/MethodHandle" ∧ yX4_no.cls ≠ "java/lang/invoke/VarHandle" ∧ (parseMethodDescriptor yX4_no.desc).map (fun d => d.parameters.length) = some 1 := by decide +kernel
def f_X4_no (a1 : Int32) (S : vS) : Option (Int32 × vS) := if inb (-a1) 7 = true then lt (upk S 1 (upd (S 1) ((-a1).toNatClampNeg) ((S 1 ((-a1).toNatClampNeg)) + (1 : Int32)))) fun S2 => some (a1, S2) else none
set_option maxHeartbeats 4000000 in
set_option maxRecDepth 20000 in
theorem c_X4_no (l : Launch) (D : va_G) (cI cO : ClassId) (ad : Nat → Nat) (a1 : Int32) (S : vS) (R9 : Int32) (S9 : vS) (hf : f_X4_no a1 S = some (R9, S9)) : CI l yX4_no cX4_no 2 .int ({ frames := 0, cells := 0, slots := 0, locals := 0 }) [.ref (ad 5), .int a1] D cI cO ad S R9 S9 := by
  refine CI.of (by decide +kernel) (Nat.le_of_ble_eq_true rfl) (fun p e s m args below meth c Q ls X hl hw hfin => ?_)
  have hl : lv_has ls 2 [(0, .ref (ad 5)), (1, .int a1)] := hl
  have hx := X.1
  have hb := X.2.1
  unfold f_X4_no at hf
  refine lv_aload_n hx hb dX4_no_0 rfl (lv_at hl 0 rfl) ?_
  refine x_get X hw 5 (Nat.le_of_ble_eq_true rfl) ce5 rfl i_X4 0 (by decide) q590 ⟨rfl, rfl, rfl⟩ rfl dX4_no_1 ?_
  refine lv_iload_n hx hb dX4_no_4 rfl (lv_at hl 1 rfl) ?_
  refine lv_ineg hx hb dX4_no_5 ?_
  refine lv_dup2_11 hx hb dX4_no_6 rfl rfl ?_
  obtain ⟨h1, hf⟩ := if_s hf
  refine x_iald X hw 1 ⟨Nat.le_of_ble_eq_true rfl, Nat.le_of_ble_eq_true rfl⟩ rfl h1 ((-a1).toNatClampNeg) rfl dX4_no_7 ?_
  refine lv_iconst (v := 1) hx hb dX4_no_8 (by decide) ?_
  refine lv_iadd hx hb dX4_no_9 ?_
  refine x_iast X hw 1 ⟨Nat.le_of_ble_eq_true rfl, Nat.le_of_ble_eq_true rfl⟩ rfl h1 ((-a1).toNatClampNeg) rfl dX4_no_10 (fun S2 eS2 H locs hw => ?_)
  replace hf := lt_e eS2 hf
  refine lv_iload_n hx hb dX4_no_11 rfl (lv_at hl 1 rfl) ?_
  exact hfin _ _ _ _ _ _ hw (s2a hf) (s2b hf) (narI _) dX4_no_12
/-- NineLandsModel.less(I)I -/
theorem dX4_less_0 : decode cX4_less 0 = .ok (.aload_n 0, 1) := by decide +kernel
theorem dX4_less_1 : decode cX4_less 1 = .ok (.getfield 7, 3) := by decide +kernel
theorem dX4_less_4 : decode cX4_less 4 = .ok (.iload_n 1, 1) := by decide +kernel
theorem dX4_less_5 : decode cX4_less 5 = .ok (.ineg, 1) := by decide +kernel
theorem dX4_less_6 : decode cX4_less 6 = .ok (.dup2, 1) := by decide +kernel
theorem dX4_less_7 : decode cX4_less 7 = .ok (.iaload, 1) := by decide +kernel
theorem dX4_less_8 : decode cX4_less 8 = .ok (.iconst 1, 1) := by decide +kernel
theorem dX4_less_9 : decode cX4_less 9 = .ok (.iadd, 1) := by decide +kernel
theorem dX4_less_10 : decode cX4_less 10 = .ok (.iastore, 1) := by decide +kernel
theorem dX4_less_11 : decode cX4_less 11 = .ok (.ldc 77, 2) := by decide +kernel
theorem dX4_less_13 : decode cX4_less 13 = .ok (.iload_n 1, 1) := by decide +kernel
theorem dX4_less_14 : decode cX4_less 14 = .ok (.isub, 1) := by decide +kernel
theorem dX4_less_15 : decode cX4_less 15 = .ok (.ireturn, 1) := by decide +kernel
theorem hd_X4_less : yX4_less.cls ≠ "java/lang/invoke/MethodHandle" ∧ yX4_less.cls ≠ "java/lang/invoke/VarHandle" ∧ (parseMethodDescriptor yX4_less.desc).map (fun d => d.parameters.length) = some 1 := by decide +kernel
def f_X4_less (a1 : Int32) (S : vS) : Option (Int32 × vS) := if inb (-a1) 7 = true then lt (upk S 1 (upd (S 1) ((-a1).toNatClampNeg) ((S 1 ((-a1).toNatClampNeg)) + (1 : Int32)))) fun S2 => some (((1000000000 : Int32) - a1), S2) else none
set_option maxHeartbeats 4000000 in
set_option maxRecDepth 20000 in
theorem c_X4_less (l : Launch) (D : va_G) (cI cO : ClassId) (ad : Nat → Nat) (a1 : Int32) (S : vS) (R9 : Int32) (S9 : vS) (hf : f_X4_less a1 S = some (R9, S9)) : CI l yX4_less cX4_less 2 .int ({ frames := 0, cells := 0, slots := 0, locals := 0 }) [.ref (ad 5), .int a1] D cI cO ad S R9 S9 := by
  refine CI.of (by decide +kernel) (Nat.le_of_ble_eq_true rfl) (fun p e s m args below meth c Q ls X hl hw hfin => ?_)
  have hl : lv_has ls 2 [(0, .ref (ad 5)), (1, .int a1)] := hl
  have hx := X.1
  have hb := X.2.1
  unfold f_X4_less at hf
  refine lv_aload_n hx hb dX4_less_0 rfl (lv_at hl 0 rfl) ?_
  refine x_get X hw 5 (Nat.le_of_ble_eq_true rfl) ce5 rfl i_X4 0 (by decide) q590 ⟨rfl, rfl, rfl⟩ rfl dX4_less_1 ?_
  refine lv_iload_n hx hb dX4_less_4 rfl (lv_at hl 1 rfl) ?_
  refine lv_ineg hx hb dX4_less_5 ?_
  refine lv_dup2_11 hx hb dX4_less_6 rfl rfl ?_
  obtain ⟨h1, hf⟩ := if_s hf
  refine x_iald X hw 1 ⟨Nat.le_of_ble_eq_true rfl, Nat.le_of_ble_eq_true rfl⟩ rfl h1 ((-a1).toNatClampNeg) rfl dX4_less_7 ?_
  refine lv_iconst (v := 1) hx hb dX4_less_8 (by decide) ?_
  refine lv_iadd hx hb dX4_less_9 ?_
  refine x_iast X hw 1 ⟨Nat.le_of_ble_eq_true rfl, Nat.le_of_ble_eq_true rfl⟩ rfl h1 ((-a1).toNatClampNeg) rfl dX4_less_10 (fun S2 eS2 H locs hw => ?_)
  replace hf := lt_e eS2 hf
  refine lv_ldc (v := 1000000000) hx hb X.2.2.2.1 (X.2.2.2.2 _ (List.mem_cons_of_mem _ q870)) dX4_less_11 ?_
  refine lv_iload_n hx hb dX4_less_13 rfl (lv_at hl 1 rfl) ?_
  refine lv_isub hx hb dX4_less_14 ?_
  exact hfin _ _ _ _ _ _ hw (s2a hf) (s2b hf) (narI _) dX4_less_15
/-- NineLandsModel.isIn(III)Z -/
theorem dX4_isIn_0 : decode cX4_isIn 0 = .ok (.iload_n 0, 1) := by decide +kernel
theorem dX4_isIn_1 : decode cX4_isIn 1 = .ok (.iload_n 1, 1) := by decide +kernel
theorem dX4_isIn_2 : decode cX4_isIn 2 = .ok (.if_icmp .lt 12, 3) := by decide +kernel
theorem dX4_isIn_5 : decode cX4_isIn 5 = .ok (.iload_n 0, 1) := by decide +kernel
theorem dX4_isIn_6 : decode cX4_isIn 6 = .ok (.iload_n 2, 1) := by decide +kernel
theorem dX4_isIn_7 : decode cX4_isIn 7 = .ok (.if_icmp .gt 7, 3) := by decide +kernel
theorem dX4_isIn_10 : decode cX4_isIn 10 = .ok (.iconst 1, 1) := by decide +kernel
theorem dX4_isIn_11 : decode cX4_isIn 11 = .ok (.goto 4, 3) := by decide +kernel
theorem dX4_isIn_14 : decode cX4_isIn 14 = .ok (.iconst 0, 1) := by decide +kernel
theorem dX4_isIn_15 : decode cX4_isIn 15 = .ok (.ireturn, 1) := by decide +kernel
theorem hd_X4_isIn : yX4_isIn.cls ≠ "java/lang/invoke/MethodHandle" ∧ yX4_isIn.cls ≠ "java/lang/invoke/VarHandle" ∧ (parseMethodDescriptor yX4_isIn.desc).map (fun d => d.parameters.length) = some 3 := by decide +kernel
def f_X4_isIn (a0 : Int32) (a1 : Int32) (a2 : Int32) (S : vS) : Option Int32 := if a0 < a1 then some (0 : Int32) else if a2 < a0 then some (0 : Int32) else some (1 : Int32)
set_option maxHeartbeats 4000000 in
set_option maxRecDepth 20000 in
theorem c_X4_isIn (l : Launch) (D : va_G) (cI cO : ClassId) (ad : Nat → Nat) (a0 : Int32) (a1 : Int32) (a2 : Int32) (S : vS) (R9 : Int32) (hf : f_X4_isIn a0 a1 a2 S = some R9) : CI l yX4_isIn cX4_isIn 3 .boolean ({ frames := 0, cells := 0, slots := 0, locals := 0 }) [.int a0, .int a1, .int a2] D cI cO ad S R9 S := by
  refine CI.of (by decide +kernel) (Nat.le_of_ble_eq_true rfl) (fun p e s m args below meth c Q ls X hl hw hfin => ?_)
  have hl : lv_has ls 3 [(0, .int a0), (1, .int a1), (2, .int a2)] := hl
  have hx := X.1
  have hb := X.2.1
  unfold f_X4_isIn at hf
  refine lv_iload_n hx hb dX4_isIn_0 rfl (lv_at hl 0 rfl) ?_
  refine lv_iload_n hx hb dX4_isIn_1 rfl (lv_at hl 1 rfl) ?_
  refine lv_icmp_lt (tgt := 14) hx hb dX4_isIn_2 (by decide) (fun c1 => ?_) (fun c1 => ?_)
  · replace hf := if_t c1 hf
    refine lv_iconst (v := 0) hx hb dX4_isIn_14 (by decide) ?_
    exact hfin _ _ _ _ _ _ hw (Option.some.inj hf) rfl rfl dX4_isIn_15
  · replace hf := if_f c1 hf
    refine lv_iload_n hx hb dX4_isIn_5 rfl (lv_at hl 0 rfl) ?_
    refine lv_iload_n hx hb dX4_isIn_6 rfl (lv_at hl 2 rfl) ?_
    refine lv_icmp_gt (tgt := 14) hx hb dX4_isIn_7 (by decide) (fun c2 => ?_) (fun c2 => ?_)
    · replace hf := if_t c2 hf
      refine lv_iconst (v := 0) hx hb dX4_isIn_14 (by decide) ?_
      exact hfin _ _ _ _ _ _ hw (Option.some.inj hf) rfl rfl dX4_isIn_15
    · replace hf := if_f c2 hf
      refine lv_iconst (v := 1) hx hb dX4_isIn_10 (by decide) ?_
      refine lv_goto (tgt := 15) hx hb dX4_isIn_11 (by decide) ?_
      exact hfin _ _ _ _ _ _ hw (Option.some.inj hf) rfl rfl dX4_isIn_15
/-- NineLandsModel.out(III)I -/
theorem dX4_out_0 : decode cX4_out 0 = .ok (.iload_n 0, 1) := by decide +kernel
theorem dX4_out_1 : decode cX4_out 1 = .ok (.iload_n 1, 1) := by decide +kernel
theorem dX4_out_2 : decode cX4_out 2 = .ok (.if_icmp .ge 8, 3) := by decide +kernel
theorem dX4_out_5 : decode cX4_out 5 = .ok (.bipush (-4), 2) := by decide +kernel
theorem dX4_out_7 : decode cX4_out 7 = .ok (.goto 14, 3) := by decide +kernel
theorem dX4_out_10 : decode cX4_out 10 = .ok (.iload_n 0, 1) := by decide +kernel
theorem dX4_out_11 : decode cX4_out 11 = .ok (.iload_n 2, 1) := by decide +kernel
theorem dX4_out_12 : decode cX4_out 12 = .ok (.if_icmp .le 8, 3) := by decide +kernel
theorem dX4_out_15 : decode cX4_out 15 = .ok (.bipush (-6), 2) := by decide +kernel
theorem dX4_out_17 : decode cX4_out 17 = .ok (.goto 4, 3) := by decide +kernel
theorem dX4_out_20 : decode cX4_out 20 = .ok (.iconst 0, 1) := by decide +kernel
theorem dX4_out_21 : decode cX4_out 21 = .ok (.ireturn, 1) := by decide +kernel
theorem hd_X4_out : yX4_out.cls ≠ "java/lang/invoke/MethodHandle" ∧ yX4_out.cls ≠ "java/lang/invoke/VarHandle" ∧ (parseMethodDescriptor yX4_out.desc).map (fun d => d.parameters.length) = some 3 := by decide +kernel
def f_X4_out (a0 : Int32) (a1 : Int32) (a2 : Int32) (S : vS) : Option Int32 := if a1 ≤ a0 then if a0 ≤ a2 then some (0 : Int32) else some (-6 : Int32) else some (-4 : Int32)
set_option maxHeartbeats 4000000 in
set_option maxRecDepth 20000 in
theorem c_X4_out (l : Launch) (D : va_G) (cI cO : ClassId) (ad : Nat → Nat) (a0 : Int32) (a1 : Int32) (a2 : Int32) (S : vS) (R9 : Int32) (hf : f_X4_out a0 a1 a2 S = some R9) : CI l yX4_out cX4_out 3 .int ({ frames := 0, cells := 0, slots := 0, locals := 0 }) [.int a0, .int a1, .int a2] D cI cO ad S R9 S := by
  refine CI.of (by decide +kernel) (Nat.le_of_ble_eq_true rfl) (fun p e s m args below meth c Q ls X hl hw hfin => ?_)
  have hl : lv_has ls 3 [(0, .int a0), (1, .int a1), (2, .int a2)] := hl
  have hx := X.1
  have hb := X.2.1
  unfold f_X4_out at hf
  refine lv_iload_n hx hb dX4_out_0 rfl (lv_at hl 0 rfl) ?_
  refine lv_iload_n hx hb dX4_out_1 rfl (lv_at hl 1 rfl) ?_
  refine lv_icmp_ge (tgt := 10) hx hb dX4_out_2 (by decide) (fun c1 => ?_) (fun c1 => ?_)
  · replace hf := if_t c1 hf
    refine lv_iload_n hx hb dX4_out_10 rfl (lv_at hl 0 rfl) ?_
    refine lv_iload_n hx hb dX4_out_11 rfl (lv_at hl 2 rfl) ?_
    refine lv_icmp_le (tgt := 20) hx hb dX4_out_12 (by decide) (fun c2 => ?_) (fun c2 => ?_)
    · replace hf := if_t c2 hf
      refine lv_iconst (v := 0) hx hb dX4_out_20 (by decide) ?_
      exact hfin _ _ _ _ _ _ hw (Option.some.inj hf) rfl (narI _) dX4_out_21
    · replace hf := if_f c2 hf
      refine lv_bipush (v := -6) hx hb dX4_out_15 (by decide +kernel) ?_
      refine lv_goto (tgt := 21) hx hb dX4_out_17 (by decide) ?_
      exact hfin _ _ _ _ _ _ hw (Option.some.inj hf) rfl (narI _) dX4_out_21
  · replace hf := if_f c1 hf
    refine lv_bipush (v := -4) hx hb dX4_out_5 (by decide +kernel) ?_
    refine lv_goto (tgt := 21) hx hb dX4_out_7 (by decide) ?_
    exact hfin _ _ _ _ _ _ hw (Option.some.inj hf) rfl (narI _) dX4_out_21
/-- NineLandsModel.isLand(I)Z -/
theorem dX4_isLand_0 : decode cX4_isLand 0 = .ok (.iload_n 0, 1) := by decide +kernel
theorem dX4_isLand_1 : decode cX4_isLand 1 = .ok (.ifCond .lt 13, 3) := by decide +kernel
theorem dX4_isLand_4 : decode cX4_isLand 4 = .ok (.iload_n 0, 1) := by decide +kernel
theorem dX4_isLand_5 : decode cX4_isLand 5 = .ok (.bipush 6, 2) := by decide +kernel
theorem dX4_isLand_7 : decode cX4_isLand 7 = .ok (.if_icmp .ge 7, 3) := by decide +kernel
theorem dX4_isLand_10 : decode cX4_isLand 10 = .ok (.iconst 1, 1) := by decide +kernel
theorem dX4_isLand_11 : decode cX4_isLand 11 = .ok (.goto 4, 3) := by decide +kernel
theorem dX4_isLand_14 : decode cX4_isLand 14 = .ok (.iconst 0, 1) := by decide +kernel
theorem dX4_isLand_15 : decode cX4_isLand 15 = .ok (.ireturn, 1) := by decide +kernel
theorem hd_X4_isLand : yX4_isLand.cls ≠ "java/lang/invoke/MethodHandle" ∧ yX4_isLand.cls ≠ "java/lang/invoke/VarHandle" ∧ (parseMethodDescriptor yX4_isLand.desc).map (fun d => d.parameters.length) = some 1 := by decide +kernel
def f_X4_isLand (a0 : Int32) (S : vS) : Option Int32 := if a0 < 0 then some (0 : Int32) else if (6 : Int32) ≤ a0 then some (0 : Int32) else some (1 : Int32)
set_option maxHeartbeats 4000000 in
set_option maxRecDepth 20000 in
theorem c_X4_isLand (l : Launch) (D : va_G) (cI cO : ClassId) (ad : Nat → Nat) (a0 : Int32) (S : vS) (R9 : Int32) (hf : f_X4_isLand a0 S = some R9) : CI l yX4_isLand cX4_isLand 1 .boolean ({ frames := 0, cells := 0, slots := 0, locals := 0 }) [.int a0] D cI cO ad S R9 S := by
  refine CI.of (by decide +kernel) (Nat.le_of_ble_eq_true rfl) (fun p e s m args below meth c Q ls X hl hw hfin => ?_)
  have hl : lv_has ls 1 [(0, .int a0)] := hl
  have hx := X.1
  have hb := X.2.1
  unfold f_X4_isLand at hf
  refine lv_iload_n hx hb dX4_isLand_0 rfl (lv_at hl 0 rfl) ?_
  refine lv_if_lt (tgt := 14) hx hb dX4_isLand_1 (by decide) (fun c1 => ?_) (fun c1 => ?_)
  · replace hf := if_t c1 hf
    refine lv_iconst (v := 0) hx hb dX4_isLand_14 (by decide) ?_
    exact hfin _ _ _ _ _ _ hw (Option.some.inj hf) rfl rfl dX4_isLand_15
  · replace hf := if_f c1 hf
    refine lv_iload_n hx hb dX4_isLand_4 rfl (lv_at hl 0 rfl) ?_
    refine lv_bipush (v := 6) hx hb dX4_isLand_5 (by decide +kernel) ?_
    refine lv_icmp_ge (tgt := 14) hx hb dX4_isLand_7 (by decide) (fun c2 => ?_) (fun c2 => ?_)
    · replace hf := if_t c2 hf
      refine lv_iconst (v := 0) hx hb dX4_isLand_14 (by decide) ?_
      exact hfin _ _ _ _ _ _ hw (Option.some.inj hf) rfl rfl dX4_isLand_15
    · replace hf := if_f c2 hf
      refine lv_iconst (v := 1) hx hb dX4_isLand_10 (by decide) ?_
      refine lv_goto (tgt := 15) hx hb dX4_isLand_11 (by decide) ?_
      exact hfin _ _ _ _ _ _ hw (Option.some.inj hf) rfl rfl dX4_isLand_15
/-- NineLandsModel.feed(IJ)I -/
theorem dX4_feed_0 : decode cX4_feed 0 = .ok (.iload_n 1, 1) := by decide +kernel
theorem dX4_feed_1 : decode cX4_feed 1 = .ok (.iconst 1, 1) := by decide +kernel
theorem dX4_feed_2 : decode cX4_feed 2 = .ok (.bipush 8, 2) := by decide +kernel
theorem dX4_feed_4 : decode cX4_feed 4 = .ok (.invokestatic 78, 3) := by decide +kernel
theorem dX4_feed_7 : decode cX4_feed 7 = .ok (.istore 4, 2) := by decide +kernel
theorem dX4_feed_9 : decode cX4_feed 9 = .ok (.iload 4, 2) := by decide +kernel
theorem dX4_feed_11 : decode cX4_feed 11 = .ok (.ifCond .ne 18, 3) := by decide +kernel
theorem dX4_feed_14 : decode cX4_feed 14 = .ok (.aload_n 0, 1) := by decide +kernel
theorem dX4_feed_15 : decode cX4_feed 15 = .ok (.getfield 82, 3) := by decide +kernel
theorem dX4_feed_18 : decode cX4_feed 18 = .ok (.iload_n 1, 1) := by decide +kernel
theorem dX4_feed_19 : decode cX4_feed 19 = .ok (.iadd, 1) := by decide +kernel
theorem dX4_feed_20 : decode cX4_feed 20 = .ok (.bipush 16, 2) := by decide +kernel
theorem dX4_feed_22 : decode cX4_feed 22 = .ok (.if_icmp .le 7, 3) := by decide +kernel
theorem dX4_feed_25 : decode cX4_feed 25 = .ok (.bipush (-6), 2) := by decide +kernel
theorem dX4_feed_27 : decode cX4_feed 27 = .ok (.istore 4, 2) := by decide +kernel
theorem dX4_feed_29 : decode cX4_feed 29 = .ok (.iload 4, 2) := by decide +kernel
theorem dX4_feed_31 : decode cX4_feed 31 = .ok (.ifCond .eq 10, 3) := by decide +kernel
theorem dX4_feed_34 : decode cX4_feed 34 = .ok (.aload_n 0, 1) := by decide +kernel
theorem dX4_feed_35 : decode cX4_feed 35 = .ok (.iload 4, 2) := by decide +kernel
theorem dX4_feed_37 : decode cX4_feed 37 = .ok (.invokevirtual 85, 3) := by decide +kernel
theorem dX4_feed_40 : decode cX4_feed 40 = .ok (.ireturn, 1) := by decide +kernel
theorem dX4_feed_41 : decode cX4_feed 41 = .ok (.iconst 0, 1) := by decide +kernel
theorem dX4_feed_42 : decode cX4_feed 42 = .ok (.istore 5, 2) := by decide +kernel
theorem dX4_feed_44 : decode cX4_feed 44 = .ok (.iload 5, 2) := by decide +kernel
theorem dX4_feed_46 : decode cX4_feed 46 = .ok (.iload_n 1, 1) := by decide +kernel
theorem dX4_feed_47 : decode cX4_feed 47 = .ok (.if_icmp .ge 40, 3) := by decide +kernel
theorem dX4_feed_50 : decode cX4_feed 50 = .ok (.aload_n 0, 1) := by decide +kernel
theorem dX4_feed_51 : decode cX4_feed 51 = .ok (.getfield 13, 3) := by decide +kernel
theorem dX4_feed_54 : decode cX4_feed 54 = .ok (.aload_n 0, 1) := by decide +kernel
theorem dX4_feed_55 : decode cX4_feed 55 = .ok (.getfield 82, 3) := by decide +kernel
theorem dX4_feed_58 : decode cX4_feed 58 = .ok (.lload_n 2, 1) := by decide +kernel
theorem dX4_feed_59 : decode cX4_feed 59 = .ok (.bipush 8, 2) := by decide +kernel
theorem dX4_feed_61 : decode cX4_feed 61 = .ok (.iload 5, 2) := by decide +kernel
theorem dX4_feed_63 : decode cX4_feed 63 = .ok (.imul, 1) := by decide +kernel
theorem dX4_feed_64 : decode cX4_feed 64 = .ok (.lshr, 1) := by decide +kernel
theorem dX4_feed_65 : decode cX4_feed 65 = .ok (.ldc2_w 89, 3) := by decide +kernel
theorem dX4_feed_68 : decode cX4_feed 68 = .ok (.land, 1) := by decide +kernel
theorem dX4_feed_69 : decode cX4_feed 69 = .ok (.l2i, 1) := by decide +kernel
theorem dX4_feed_70 : decode cX4_feed 70 = .ok (.iastore, 1) := by decide +kernel
theorem dX4_feed_71 : decode cX4_feed 71 = .ok (.aload_n 0, 1) := by decide +kernel
theorem dX4_feed_72 : decode cX4_feed 72 = .ok (.dup, 1) := by decide +kernel
theorem dX4_feed_73 : decode cX4_feed 73 = .ok (.getfield 82, 3) := by decide +kernel
theorem dX4_feed_76 : decode cX4_feed 76 = .ok (.iconst 1, 1) := by decide +kernel
theorem dX4_feed_77 : decode cX4_feed 77 = .ok (.iadd, 1) := by decide +kernel
theorem dX4_feed_78 : decode cX4_feed 78 = .ok (.putfield 82, 3) := by decide +kernel
theorem dX4_feed_81 : decode cX4_feed 81 = .ok (.iinc 5 1, 3) := by decide +kernel
theorem dX4_feed_84 : decode cX4_feed 84 = .ok (.goto (-40), 3) := by decide +kernel
theorem dX4_feed_87 : decode cX4_feed 87 = .ok (.aload_n 0, 1) := by decide +kernel
theorem dX4_feed_88 : decode cX4_feed 88 = .ok (.getfield 82, 3) := by decide +kernel
theorem dX4_feed_91 : decode cX4_feed 91 = .ok (.ireturn, 1) := by decide +kernel
theorem hd_X4_feed : yX4_feed.cls ≠ "java/lang/invoke/MethodHandle" ∧ yX4_feed.cls ≠ "java/lang/invoke/VarHandle" ∧ (parseMethodDescriptor yX4_feed.desc).map (fun d => d.parameters.length) = some 2 := by decide +kernel
def f_X4_feed_L44 : Nat → Int32 → Int64 → Int32 → vS → Option vS
  | 0, _, _, _, _ => none
  | n + 1, x1, x2, x5, S => if x1 ≤ x5 then some S else if inb (S 0 0) 16 = true then lt (upk S 2 (upd (S 2) ((S 0 0).toNatClampNeg) (((x2 >>> (((8 : Int32) * x5).toInt64 &&& 63)) &&& (255 : Int64)).toInt32))) fun S7 => lt (upk S7 0 (upd (S7 0) 0 ((S7 0 0) + (1 : Int32)))) fun S8 => (f_X4_feed_L44 n) x1 x2 (x5 + 1) S8 else none
def f_X4_feed_J29 (x1 : Int32) (x2 : Int64) (x4 : Int32) (S : vS) : Option (Int32 × vS) := if x4 = 0 then b1 (f_X4_feed_L44 FU x1 x2 (0 : Int32) S) fun S9 => some ((S9 0 0), S9) else b2 (f_X4_no x4 S) fun r13 S12 => some (r13, S12)
def f_X4_feed (a1 : Int32) (a2 : Int64) (S : vS) : Option (Int32 × vS) := b1 (f_X4_out a1 (1 : Int32) (8 : Int32) S) fun r2 => if r2 = 0 then if ((S 0 0) + a1) ≤ (16 : Int32) then f_X4_feed_J29 a1 a2 r2 S else f_X4_feed_J29 a1 a2 (-6 : Int32) S else f_X4_feed_J29 a1 a2 r2 S
set_option maxHeartbeats 4000000 in
set_option maxRecDepth 20000 in
theorem c_X4_feed (l : Launch) (D : va_G) (cI cO : ClassId) (ad : Nat → Nat) (a1 : Int32) (a2 : Int64) (S : vS) (R9 : Int32) (S9 : vS) (hf : f_X4_feed a1 a2 S = some (R9, S9)) : CI l yX4_feed cX4_feed 6 .int ({ frames := 1, cells := 0, slots := 0, locals := 22 }) [.ref (ad 5), .int a1, .long a2] D cI cO ad S R9 S9 := by
  refine CI.of (by decide +kernel) (Nat.le_of_ble_eq_true rfl) (fun p e s m args below meth c Q ls X hl hw hfin => ?_)
  have hl : lv_has ls 6 [(0, .ref (ad 5)), (1, .int a1), (2, .long a2)] := hl
  have hx := X.1
  have hb := X.2.1
  have L44 : ∀ (n : Nat) (x1 : Int32) (x2 : Int64) (x5 : Int32) (S : vS) (res : vS), f_X4_feed_L44 n x1 x2 x5 S = some res → (K : ∀  (S2 : vS), some S2 = some res → ∀ (H : Heap) (locs : List Loc) (ls : Array Slot), WD D cI cO ad s S2 H locs → lv_has ls 6 [(0, .ref (ad 5))] → W p l e ({ frames := 1, cells := 0, slots := 0, locals := 22 }) s m args below meth c H locs 0 0 Q (F0 m 87 ls [])) → ∀ (H : Heap) (locs : List Loc) (ls : Array Slot), WD D cI cO ad s S H locs → lv_has ls 6 [(0, .ref (ad 5)), (1, .int x1), (2, .long x2), (5, .int x5)] → W p l e ({ frames := 1, cells := 0, slots := 0, locals := 22 }) s m args below meth c H locs 0 0 Q (F0 m 44 ls []) := by
    intro n
    induction n with
    | zero => intro x1 x2 x5 S res hf; cases hf
    | succ n ih =>
      intro x1 x2 x5 S res hf K H locs ls hw hl
      unfold f_X4_feed_L44 at hf
      refine lv_iload hx hb dX4_feed_44 (lv_at hl 3 rfl) ?_
      refine lv_iload_n hx hb dX4_feed_46 rfl (lv_at hl 1 rfl) ?_
      refine lv_icmp_ge (tgt := 87) hx hb dX4_feed_47 (by decide) (fun c5 => ?_) (fun c5 => ?_)
      · replace hf := if_t c5 hf
        exact K S hf _ _ _ hw (lv_sub hl [0] rfl)
      · replace hf := if_f c5 hf
        refine lv_aload_n hx hb dX4_feed_50 rfl (lv_at hl 0 rfl) ?_
        refine x_get X hw 5 (Nat.le_of_ble_eq_true rfl) ce5 rfl i_X4 1 (by decide) q591 ⟨rfl, rfl, rfl⟩ rfl dX4_feed_51 ?_
        refine lv_aload_n hx hb dX4_feed_54 rfl (lv_at hl 0 rfl) ?_
        refine x_get X hw 5 (Nat.le_of_ble_eq_true rfl) ce5 rfl i_X4 13 (by decide) q603 ⟨rfl, rfl, rfl⟩ rfl dX4_feed_55 ?_
        refine lv_lload_n hx hb dX4_feed_58 rfl (lv_at hl 2 rfl) ?_
        refine lv_bipush (v := 8) hx hb dX4_feed_59 (by decide +kernel) ?_
        refine lv_iload hx hb dX4_feed_61 (lv_at hl 3 rfl) ?_
        refine lv_imul hx hb dX4_feed_63 ?_
        refine lv_lshr (v := (x2 >>> (((8 : Int32) * x5).toInt64 &&& 63))) hx hb dX4_feed_64 rfl ?_
        refine lv_ldc2 (v := 255) hx hb X.2.2.2.1 (X.2.2.2.2 _ (List.mem_cons_of_mem _ q692)) dX4_feed_65 ?_
        refine lv_land hx hb dX4_feed_68 ?_
        refine lv_l2i (v := ((x2 >>> (((8 : Int32) * x5).toInt64 &&& 63)) &&& (255 : Int64)).toInt32) hx hb dX4_feed_69 rfl ?_
        obtain ⟨h6, hf⟩ := if_s hf
        refine x_iast X hw 2 ⟨Nat.le_of_ble_eq_true rfl, Nat.le_of_ble_eq_true rfl⟩ rfl h6 ((S 0 0).toNatClampNeg) rfl dX4_feed_70 (fun S7 eS7 H locs hw => ?_)
        replace hf := lt_e eS7 hf
        refine lv_aload_n hx hb dX4_feed_71 rfl (lv_at hl 0 rfl) ?_
        refine lv_dup hx hb dX4_feed_72 rfl ?_
        refine x_get X hw 5 (Nat.le_of_ble_eq_true rfl) ce5 rfl i_X4 13 (by decide) q603 ⟨rfl, rfl, rfl⟩ rfl dX4_feed_73 ?_
        refine lv_iconst (v := 1) hx hb dX4_feed_76 (by decide) ?_
        refine lv_iadd hx hb dX4_feed_77 ?_
        refine x_put X hw 5 (Nat.le_of_ble_eq_true rfl) ce5 rfl i_X4 tyX4_ok nmX4 13 (by decide) q603 ⟨rfl, rfl, rfl⟩ rfl pfI rfl rfl (Nat.le_of_ble_eq_true rfl) 0 (ws_0 _) dX4_feed_78 (fun S8 eS8 H locs hw => ?_)
        replace hf := lt_e eS8 hf
        refine lv_iinc (v := (x5 + 1)) (lv' := [(5, .int (x5 + 1)), (0, .ref (ad 5)), (1, .int x1), (2, .long x2)]) hx hb dX4_feed_81 hl (k := 3) rfl rfl (by decide) rfl (fun ls hl => ?_)
        refine lv_goto (tgt := 44) hx hb dX4_feed_84 (by decide) ?_
        exact ih x1 x2 (x5 + 1) S8 _ hf K _ _ _ hw (lv_sub hl [1, 2, 3, 0] rfl)
  have J29 : ∀ (x1 : Int32) (x2 : Int64) (x4 : Int32) (S : vS), f_X4_feed_J29 x1 x2 x4 S = some (R9, S9) → ∀ (H : Heap) (locs : List Loc) (ls : Array Slot), WD D cI cO ad s S H locs → lv_has ls 6 [(0, .ref (ad 5)), (1, .int x1), (2, .long x2), (4, .int x4)] → W p l e ({ frames := 1, cells := 0, slots := 0, locals := 22 }) s m args below meth c H locs 0 0 Q (F0 m 29 ls []) := by
    intro x1 x2 x4 S hf H locs ls hw hl
    unfold f_X4_feed_J29 at hf
    refine lv_iload hx hb dX4_feed_29 (lv_at hl 3 rfl) ?_
    refine lv_if_eq (tgt := 41) hx hb dX4_feed_31 (by decide) (fun c4 => ?_) (fun c4 => ?_)
    · replace hf := if_t c4 hf
      refine lv_iconst (v := 0) hx hb dX4_feed_41 (by decide) ?_
      refine lv_istore (lv' := [(5, .int (0 : Int32)), (0, .ref (ad 5)), (1, .int x1), (2, .long x2), (4, .int x4)]) hx hb dX4_feed_42 hl (by decide) rfl (fun ls hl => ?_)
      obtain ⟨S9, h10, hf⟩ := b1_s hf
      refine L44 FU x1 x2 (0 : Int32) S _ h10 (fun S9' eK H locs ls hw hl => ?_) _ _ _ hw (lv_sub hl [1, 2, 3, 0] rfl)
      cases eK
      refine lv_aload_n hx hb dX4_feed_87 rfl (lv_at hl 0 rfl) ?_
      refine x_get X hw 5 (Nat.le_of_ble_eq_true rfl) ce5 rfl i_X4 13 (by decide) q603 ⟨rfl, rfl, rfl⟩ rfl dX4_feed_88 ?_
      exact hfin _ _ _ _ _ _ hw (s2a hf) (s2b hf) (narI _) dX4_feed_91
    · replace hf := if_f c4 hf
      refine lv_aload_n hx hb dX4_feed_34 rfl (lv_at hl 0 rfl) ?_
      refine lv_iload hx hb dX4_feed_35 (lv_at hl 3 rfl) ?_
      obtain ⟨r13, S12, h11, hf⟩ := b2_s hf
      refine kVi X hw (c_X4_no l D cI cO ad x4 S r13 S12 h11) (Nat.le_of_ble_eq_true rfl) ce5 rfl ⟨rfl, rfl⟩ q688 q690 q34 q64 q691 hd_X4_no ⟨Nat.le_of_ble_eq_true rfl, Nat.le_of_ble_eq_true rfl⟩ rfl hl.1 rfl (Nat.le_of_ble_eq_true rfl) dX4_feed_37 (fun H locs hw => ?_)
      exact hfin _ _ _ _ _ _ hw (s2a hf) (s2b hf) (narI _) dX4_feed_40
  unfold f_X4_feed at hf
  refine lv_iload_n hx hb dX4_feed_0 rfl (lv_at hl 1 rfl) ?_
  refine lv_iconst (v := 1) hx hb dX4_feed_1 (by decide) ?_
  refine lv_bipush (v := 8) hx hb dX4_feed_2 (by decide +kernel) ?_
  obtain ⟨r2, h1, hf⟩ := b1_s hf
  refine kSi X hw (c_X4_out l D cI cO ad a1 (1 : Int32) (8 : Int32) S r2 h1) ⟨rfl, rfl⟩ q685 q686 q64 q687 hd_X4_out ⟨Nat.le_of_ble_eq_true rfl, Nat.le_of_ble_eq_true rfl⟩ rfl hl.1 rfl (Nat.le_of_ble_eq_true rfl) dX4_feed_4 (fun H locs hw => ?_)
  refine lv_istore (lv' := [(4, .int r2), (0, .ref (ad 5)), (1, .int a1), (2, .long a2)]) hx hb dX4_feed_7 hl (by decide) rfl (fun ls hl => ?_)
  refine lv_iload hx hb dX4_feed_9 (lv_at hl 0 rfl) ?_
  refine lv_if_ne (tgt := 29) hx hb dX4_feed_11 (by decide) (fun c3 => ?_) (fun c3 => ?_)
  · replace hf := if_f c3 hf
    exact J29 a1 a2 r2 S hf _ _ _ hw (lv_sub hl [1, 2, 3, 0] rfl)
  · replace hf := if_t c3 hf
    refine lv_aload_n hx hb dX4_feed_14 rfl (lv_at hl 1 rfl) ?_
    refine x_get X hw 5 (Nat.le_of_ble_eq_true rfl) ce5 rfl i_X4 13 (by decide) q603 ⟨rfl, rfl, rfl⟩ rfl dX4_feed_15 ?_
    refine lv_iload_n hx hb dX4_feed_18 rfl (lv_at hl 2 rfl) ?_
    refine lv_iadd hx hb dX4_feed_19 ?_
    refine lv_bipush (v := 16) hx hb dX4_feed_20 (by decide +kernel) ?_
    refine lv_icmp_le (tgt := 29) hx hb dX4_feed_22 (by decide) (fun c14 => ?_) (fun c14 => ?_)
    · replace hf := if_t c14 hf
      exact J29 a1 a2 r2 S hf _ _ _ hw (lv_sub hl [1, 2, 3, 0] rfl)
    · replace hf := if_f c14 hf
      refine lv_bipush (v := -6) hx hb dX4_feed_25 (by decide +kernel) ?_
      refine lv_istore (lv' := [(4, .int (-6 : Int32)), (0, .ref (ad 5)), (1, .int a1), (2, .long a2)]) hx hb dX4_feed_27 hl (by decide) rfl (fun ls hl => ?_)
      exact J29 a1 a2 (-6 : Int32) S hf _ _ _ hw (lv_sub hl [1, 2, 3, 0] rfl)
/-- NineLandsModel.sign()I -/
theorem dX4_sign_0 : decode cX4_sign 0 = .ok (.aload_n 0, 1) := by decide +kernel
theorem dX4_sign_1 : decode cX4_sign 1 = .ok (.getfield 91, 3) := by decide +kernel
theorem dX4_sign_4 : decode cX4_sign 4 = .ok (.aload_n 0, 1) := by decide +kernel
theorem dX4_sign_5 : decode cX4_sign 5 = .ok (.getfield 82, 3) := by decide +kernel
theorem dX4_sign_8 : decode cX4_sign 8 = .ok (.if_icmp .ge 15, 3) := by decide +kernel
theorem dX4_sign_11 : decode cX4_sign 11 = .ok (.aload_n 0, 1) := by decide +kernel
theorem dX4_sign_12 : decode cX4_sign 12 = .ok (.getfield 13, 3) := by decide +kernel
theorem dX4_sign_15 : decode cX4_sign 15 = .ok (.aload_n 0, 1) := by decide +kernel
theorem dX4_sign_16 : decode cX4_sign 16 = .ok (.getfield 91, 3) := by decide +kernel
theorem dX4_sign_19 : decode cX4_sign 19 = .ok (.iaload, 1) := by decide +kernel
theorem dX4_sign_20 : decode cX4_sign 20 = .ok (.goto 4, 3) := by decide +kernel
theorem dX4_sign_23 : decode cX4_sign 23 = .ok (.iconst (-1), 1) := by decide +kernel
theorem dX4_sign_24 : decode cX4_sign 24 = .ok (.ireturn, 1) := by decide +kernel
theorem hd_X4_sign : yX4_sign.cls ≠ "java/lang/invoke/MethodHandle" ∧ yX4_sign.cls ≠ "java/lang/invoke/VarHandle" ∧ (parseMethodDescriptor yX4_sign.desc).map (fun d => d.parameters.length) = some 0 := by decide +kernel
def f_X4_sign  (S : vS) : Option Int32 := if (S 0 0) ≤ (S 0 1) then some (-1 : Int32) else if inb (S 0 1) 16 = true then some (S 2 ((S 0 1).toNatClampNeg)) else none
set_option maxHeartbeats 4000000 in
set_option maxRecDepth 20000 in
theorem c_X4_sign (l : Launch) (D : va_G) (cI cO : ClassId) (ad : Nat → Nat)  (S : vS) (R9 : Int32) (hf : f_X4_sign  S = some R9) : CI l yX4_sign cX4_sign 1 .int ({ frames := 0, cells := 0, slots := 0, locals := 0 }) [.ref (ad 5)] D cI cO ad S R9 S := by
  refine CI.of (by decide +kernel) (Nat.le_of_ble_eq_true rfl) (fun p e s m args below meth c Q ls X hl hw hfin => ?_)
  have hl : lv_has ls 1 [(0, .ref (ad 5))] := hl
  have hx := X.1
  have hb := X.2.1
  unfold f_X4_sign at hf
  refine lv_aload_n hx hb dX4_sign_0 rfl (lv_at hl 0 rfl) ?_
  refine x_get X hw 5 (Nat.le_of_ble_eq_true rfl) ce5 rfl i_X4 14 (by decide) q604 ⟨rfl, rfl, rfl⟩ rfl dX4_sign_1 ?_
  refine lv_aload_n hx hb dX4_sign_4 rfl (lv_at hl 0 rfl) ?_
  refine x_get X hw 5 (Nat.le_of_ble_eq_true rfl) ce5 rfl i_X4 13 (by decide) q603 ⟨rfl, rfl, rfl⟩ rfl dX4_sign_5 ?_
  refine lv_icmp_ge (tgt := 23) hx hb dX4_sign_8 (by decide) (fun c1 => ?_) (fun c1 => ?_)
  · replace hf := if_t c1 hf
    refine lv_iconst (v := -1) hx hb dX4_sign_23 (by decide) ?_
    exact hfin _ _ _ _ _ _ hw (Option.some.inj hf) rfl (narI _) dX4_sign_24
  · replace hf := if_f c1 hf
    refine lv_aload_n hx hb dX4_sign_11 rfl (lv_at hl 0 rfl) ?_
    refine x_get X hw 5 (Nat.le_of_ble_eq_true rfl) ce5 rfl i_X4 1 (by decide) q591 ⟨rfl, rfl, rfl⟩ rfl dX4_sign_12 ?_
    refine lv_aload_n hx hb dX4_sign_15 rfl (lv_at hl 0 rfl) ?_
    refine x_get X hw 5 (Nat.le_of_ble_eq_true rfl) ce5 rfl i_X4 14 (by decide) q604 ⟨rfl, rfl, rfl⟩ rfl dX4_sign_16 ?_
    obtain ⟨h2, hf⟩ := if_s hf
    refine x_iald X hw 2 ⟨Nat.le_of_ble_eq_true rfl, Nat.le_of_ble_eq_true rfl⟩ rfl h2 ((S 0 1).toNatClampNeg) rfl dX4_sign_19 ?_
    refine lv_goto (tgt := 24) hx hb dX4_sign_20 (by decide) ?_
    exact hfin _ _ _ _ _ _ hw (Option.some.inj hf) rfl (narI _) dX4_sign_24
/-- NineLandsModel.takes(I)Z -/
theorem dX4_takes_0 : decode cX4_takes 0 = .ok (.aload_n 0, 1) := by decide +kernel
theorem dX4_takes_1 : decode cX4_takes 1 = .ok (.invokevirtual 94, 3) := by decide +kernel
theorem dX4_takes_4 : decode cX4_takes 4 = .ok (.iload_n 1, 1) := by decide +kernel
theorem dX4_takes_5 : decode cX4_takes 5 = .ok (.if_icmp .eq 5, 3) := by decide +kernel
theorem dX4_takes_8 : decode cX4_takes 8 = .ok (.iconst 0, 1) := by decide +kernel
theorem dX4_takes_9 : decode cX4_takes 9 = .ok (.ireturn, 1) := by decide +kernel
theorem dX4_takes_10 : decode cX4_takes 10 = .ok (.aload_n 0, 1) := by decide +kernel
theorem dX4_takes_11 : decode cX4_takes 11 = .ok (.dup, 1) := by decide +kernel
theorem dX4_takes_12 : decode cX4_takes 12 = .ok (.getfield 91, 3) := by decide +kernel
theorem dX4_takes_15 : decode cX4_takes 15 = .ok (.iconst 1, 1) := by decide +kernel
theorem dX4_takes_16 : decode cX4_takes 16 = .ok (.iadd, 1) := by decide +kernel
theorem dX4_takes_17 : decode cX4_takes 17 = .ok (.putfield 91, 3) := by decide +kernel
theorem dX4_takes_20 : decode cX4_takes 20 = .ok (.iconst 1, 1) := by decide +kernel
theorem dX4_takes_21 : decode cX4_takes 21 = .ok (.ireturn, 1) := by decide +kernel
theorem hd_X4_takes : yX4_takes.cls ≠ "java/lang/invoke/MethodHandle" ∧ yX4_takes.cls ≠ "java/lang/invoke/VarHandle" ∧ (parseMethodDescriptor yX4_takes.desc).map (fun d => d.parameters.length) = some 1 := by decide +kernel
def f_X4_takes (a1 : Int32) (S : vS) : Option (Int32 × vS) := b1 (f_X4_sign  S) fun r2 => if r2 = a1 then lt (upk S 0 (upd (S 0) 1 ((S 0 1) + (1 : Int32)))) fun S4 => some ((1 : Int32), S4) else some ((0 : Int32), S)
set_option maxHeartbeats 4000000 in
set_option maxRecDepth 20000 in
theorem c_X4_takes (l : Launch) (D : va_G) (cI cO : ClassId) (ad : Nat → Nat) (a1 : Int32) (S : vS) (R9 : Int32) (S9 : vS) (hf : f_X4_takes a1 S = some (R9, S9)) : CI l yX4_takes cX4_takes 2 .boolean ({ frames := 1, cells := 0, slots := 0, locals := 20 }) [.ref (ad 5), .int a1] D cI cO ad S R9 S9 := by
  refine CI.of (by decide +kernel) (Nat.le_of_ble_eq_true rfl) (fun p e s m args below meth c Q ls X hl hw hfin => ?_)
  have hl : lv_has ls 2 [(0, .ref (ad 5)), (1, .int a1)] := hl
  have hx := X.1
  have hb := X.2.1
  unfold f_X4_takes at hf
  refine lv_aload_n hx hb dX4_takes_0 rfl (lv_at hl 0 rfl) ?_
  obtain ⟨r2, h1, hf⟩ := b1_s hf
  refine kVi X hw (c_X4_sign l D cI cO ad  S r2 h1) (Nat.le_of_ble_eq_true rfl) ce5 rfl ⟨rfl, rfl⟩ q701 q703 q36 q64 q704 hd_X4_sign ⟨Nat.le_of_ble_eq_true rfl, Nat.le_of_ble_eq_true rfl⟩ rfl hl.1 rfl (Nat.le_of_ble_eq_true rfl) dX4_takes_1 (fun H locs hw => ?_)
  refine lv_iload_n hx hb dX4_takes_4 rfl (lv_at hl 1 rfl) ?_
  refine lv_icmp_eq (tgt := 10) hx hb dX4_takes_5 (by decide) (fun c3 => ?_) (fun c3 => ?_)
  · replace hf := if_t c3 hf
    refine lv_aload_n hx hb dX4_takes_10 rfl (lv_at hl 0 rfl) ?_
    refine lv_dup hx hb dX4_takes_11 rfl ?_
    refine x_get X hw 5 (Nat.le_of_ble_eq_true rfl) ce5 rfl i_X4 14 (by decide) q604 ⟨rfl, rfl, rfl⟩ rfl dX4_takes_12 ?_
    refine lv_iconst (v := 1) hx hb dX4_takes_15 (by decide) ?_
    refine lv_iadd hx hb dX4_takes_16 ?_
    refine x_put X hw 5 (Nat.le_of_ble_eq_true rfl) ce5 rfl i_X4 tyX4_ok nmX4 14 (by decide) q604 ⟨rfl, rfl, rfl⟩ rfl pfI rfl rfl (Nat.le_of_ble_eq_true rfl) 1 (ws_1 _) dX4_takes_17 (fun S4 eS4 H locs hw => ?_)
    replace hf := lt_e eS4 hf
    refine lv_iconst (v := 1) hx hb dX4_takes_20 (by decide) ?_
    exact hfin _ _ _ _ _ _ hw (s2a hf) (s2b hf) rfl dX4_takes_21
  · replace hf := if_f c3 hf
    refine lv_iconst (v := 0) hx hb dX4_takes_8 (by decide) ?_
    exact hfin _ _ _ _ _ _ hw (s2a hf) (s2b hf) rfl dX4_takes_9
/-- NineLandsModel.number()I -/
theorem dX4_number_0 : decode cX4_number 0 = .ok (.aload_n 0, 1) := by decide +kernel
theorem dX4_number_1 : decode cX4_number 1 = .ok (.invokevirtual 94, 3) := by decide +kernel
theorem dX4_number_4 : decode cX4_number 4 = .ok (.bipush 48, 2) := by decide +kernel
theorem dX4_number_6 : decode cX4_number 6 = .ok (.bipush 57, 2) := by decide +kernel
theorem dX4_number_8 : decode cX4_number 8 = .ok (.invokestatic 98, 3) := by decide +kernel
theorem dX4_number_11 : decode cX4_number 11 = .ok (.ifCond .ne 5, 3) := by decide +kernel
theorem dX4_number_14 : decode cX4_number 14 = .ok (.iconst (-1), 1) := by decide +kernel
theorem dX4_number_15 : decode cX4_number 15 = .ok (.ireturn, 1) := by decide +kernel
theorem dX4_number_16 : decode cX4_number 16 = .ok (.iconst 0, 1) := by decide +kernel
theorem dX4_number_17 : decode cX4_number 17 = .ok (.istore_n 1, 1) := by decide +kernel
theorem dX4_number_18 : decode cX4_number 18 = .ok (.iconst 0, 1) := by decide +kernel
theorem dX4_number_19 : decode cX4_number 19 = .ok (.istore_n 2, 1) := by decide +kernel
theorem dX4_number_20 : decode cX4_number 20 = .ok (.iload_n 2, 1) := by decide +kernel
theorem dX4_number_21 : decode cX4_number 21 = .ok (.iconst 3, 1) := by decide +kernel
theorem dX4_number_22 : decode cX4_number 22 = .ok (.if_icmp .ge 46, 3) := by decide +kernel
theorem dX4_number_25 : decode cX4_number 25 = .ok (.aload_n 0, 1) := by decide +kernel
theorem dX4_number_26 : decode cX4_number 26 = .ok (.invokevirtual 94, 3) := by decide +kernel
theorem dX4_number_29 : decode cX4_number 29 = .ok (.bipush 48, 2) := by decide +kernel
theorem dX4_number_31 : decode cX4_number 31 = .ok (.bipush 57, 2) := by decide +kernel
theorem dX4_number_33 : decode cX4_number 33 = .ok (.invokestatic 98, 3) := by decide +kernel
theorem dX4_number_36 : decode cX4_number 36 = .ok (.ifCond .eq 32, 3) := by decide +kernel
theorem dX4_number_39 : decode cX4_number 39 = .ok (.bipush 10, 2) := by decide +kernel
theorem dX4_number_41 : decode cX4_number 41 = .ok (.iload_n 1, 1) := by decide +kernel
theorem dX4_number_42 : decode cX4_number 42 = .ok (.imul, 1) := by decide +kernel
theorem dX4_number_43 : decode cX4_number 43 = .ok (.aload_n 0, 1) := by decide +kernel
theorem dX4_number_44 : decode cX4_number 44 = .ok (.invokevirtual 94, 3) := by decide +kernel
theorem dX4_number_47 : decode cX4_number 47 = .ok (.iadd, 1) := by decide +kernel
theorem dX4_number_48 : decode cX4_number 48 = .ok (.bipush 48, 2) := by decide +kernel
theorem dX4_number_50 : decode cX4_number 50 = .ok (.isub, 1) := by decide +kernel
theorem dX4_number_51 : decode cX4_number 51 = .ok (.istore_n 1, 1) := by decide +kernel
theorem dX4_number_52 : decode cX4_number 52 = .ok (.aload_n 0, 1) := by decide +kernel
theorem dX4_number_53 : decode cX4_number 53 = .ok (.dup, 1) := by decide +kernel
theorem dX4_number_54 : decode cX4_number 54 = .ok (.getfield 91, 3) := by decide +kernel
theorem dX4_number_57 : decode cX4_number 57 = .ok (.iconst 1, 1) := by decide +kernel
theorem dX4_number_58 : decode cX4_number 58 = .ok (.iadd, 1) := by decide +kernel
theorem dX4_number_59 : decode cX4_number 59 = .ok (.putfield 91, 3) := by decide +kernel
theorem dX4_number_62 : decode cX4_number 62 = .ok (.iinc 2 1, 3) := by decide +kernel
theorem dX4_number_65 : decode cX4_number 65 = .ok (.goto (-45), 3) := by decide +kernel
theorem dX4_number_68 : decode cX4_number 68 = .ok (.iload_n 1, 1) := by decide +kernel
theorem dX4_number_69 : decode cX4_number 69 = .ok (.ireturn, 1) := by decide +kernel
theorem hd_X4_number : yX4_number.cls ≠ "java/lang/invoke/MethodHandle" ∧ yX4_number.cls ≠ "java/lang/invoke/VarHandle" ∧ (parseMethodDescriptor yX4_number.desc).map (fun d => d.parameters.length) = some 0 := by decide +kernel
def f_X4_number_L20 : Nat → Int32 → Int32 → vS → Option (Int32 × vS)
  | 0, _, _, _ => none
  | n + 1, x1, x2, S => if (3 : Int32) ≤ x2 then some (x1, S) else b1 (f_X4_sign  S) fun r8 => b1 (f_X4_isIn r8 (48 : Int32) (57 : Int32) S) fun r10 => if r10 = 0 then some (x1, S) else b1 (f_X4_sign  S) fun r13 => lt (((((10 : Int32) * x1) + r13) - (48 : Int32))) fun v14 => lt (upk S 0 (upd (S 0) 1 ((S 0 1) + (1 : Int32)))) fun S15 => (f_X4_number_L20 n) v14 (x2 + 1) S15
def f_X4_number  (S : vS) : Option (Int32 × vS) := b1 (f_X4_sign  S) fun r2 => b1 (f_X4_isIn r2 (48 : Int32) (57 : Int32) S) fun r4 => if r4 = 0 then some ((-1 : Int32), S) else b2 (f_X4_number_L20 FU (0 : Int32) (0 : Int32) S) fun y16 S17 => some (y16, S17)
set_option maxHeartbeats 4000000 in
set_option maxRecDepth 20000 in
theorem c_X4_number (l : Launch) (D : va_G) (cI cO : ClassId) (ad : Nat → Nat)  (S : vS) (R9 : Int32) (S9 : vS) (hf : f_X4_number  S = some (R9, S9)) : CI l yX4_number cX4_number 3 .int ({ frames := 1, cells := 0, slots := 0, locals := 22 }) [.ref (ad 5)] D cI cO ad S R9 S9 := by
  refine CI.of (by decide +kernel) (Nat.le_of_ble_eq_true rfl) (fun p e s m args below meth c Q ls X hl hw hfin => ?_)
  have hl : lv_has ls 3 [(0, .ref (ad 5))] := hl
  have hx := X.1
  have hb := X.2.1
  have L20 : ∀ (n : Nat) (x1 : Int32) (x2 : Int32) (S : vS) (res : (Int32 × vS)), f_X4_number_L20 n x1 x2 S = some res → (K : ∀ (y1 : Int32) (S2 : vS), some (y1, S2) = some res → ∀ (H : Heap) (locs : List Loc) (ls : Array Slot), WD D cI cO ad s S2 H locs → lv_has ls 3 [(1, .int y1)] → W p l e ({ frames := 1, cells := 0, slots := 0, locals := 22 }) s m args below meth c H locs 0 0 Q (F0 m 68 ls [])) → ∀ (H : Heap) (locs : List Loc) (ls : Array Slot), WD D cI cO ad s S H locs → lv_has ls 3 [(0, .ref (ad 5)), (1, .int x1), (2, .int x2)] → W p l e ({ frames := 1, cells := 0, slots := 0, locals := 22 }) s m args below meth c H locs 0 0 Q (F0 m 20 ls []) := by
    intro n
    induction n with
    | zero => intro x1 x2 S res hf; cases hf
    | succ n ih =>
      intro x1 x2 S res hf K H locs ls hw hl
      unfold f_X4_number_L20 at hf
      refine lv_iload_n hx hb dX4_number_20 rfl (lv_at hl 2 rfl) ?_
      refine lv_iconst (v := 3) hx hb dX4_number_21 (by decide) ?_
      refine lv_icmp_ge (tgt := 68) hx hb dX4_number_22 (by decide) (fun c6 => ?_) (fun c6 => ?_)
      · replace hf := if_t c6 hf
        exact K x1 S hf _ _ _ hw (lv_sub hl [1] rfl)
      · replace hf := if_f c6 hf
        refine lv_aload_n hx hb dX4_number_25 rfl (lv_at hl 0 rfl) ?_
        obtain ⟨r8, h7, hf⟩ := b1_s hf
        refine kVi X hw (c_X4_sign l D cI cO ad  S r8 h7) (Nat.le_of_ble_eq_true rfl) ce5 rfl ⟨rfl, rfl⟩ q701 q703 q36 q64 q704 hd_X4_sign ⟨Nat.le_of_ble_eq_true rfl, Nat.le_of_ble_eq_true rfl⟩ rfl hl.1 rfl (Nat.le_of_ble_eq_true rfl) dX4_number_26 (fun H locs hw => ?_)
        refine lv_bipush (v := 48) hx hb dX4_number_29 (by decide +kernel) ?_
        refine lv_bipush (v := 57) hx hb dX4_number_31 (by decide +kernel) ?_
        obtain ⟨r10, h9, hf⟩ := b1_s hf
        refine kSi X hw (c_X4_isIn l D cI cO ad r8 (48 : Int32) (57 : Int32) S r10 h9) ⟨rfl, rfl⟩ q712 q713 q64 q714 hd_X4_isIn ⟨Nat.le_of_ble_eq_true rfl, Nat.le_of_ble_eq_true rfl⟩ rfl hl.1 rfl (Nat.le_of_ble_eq_true rfl) dX4_number_33 (fun H locs hw => ?_)
        refine lv_if_eq (tgt := 68) hx hb dX4_number_36 (by decide) (fun c11 => ?_) (fun c11 => ?_)
        · replace hf := if_t c11 hf
          exact K x1 S hf _ _ _ hw (lv_sub hl [1] rfl)
        · replace hf := if_f c11 hf
          refine lv_bipush (v := 10) hx hb dX4_number_39 (by decide +kernel) ?_
          refine lv_iload_n hx hb dX4_number_41 rfl (lv_at hl 1 rfl) ?_
          refine lv_imul hx hb dX4_number_42 ?_
          refine lv_aload_n hx hb dX4_number_43 rfl (lv_at hl 0 rfl) ?_
          obtain ⟨r13, h12, hf⟩ := b1_s hf
          refine kVi X hw (c_X4_sign l D cI cO ad  S r13 h12) (Nat.le_of_ble_eq_true rfl) ce5 rfl ⟨rfl, rfl⟩ q701 q703 q36 q64 q704 hd_X4_sign ⟨Nat.le_of_ble_eq_true rfl, Nat.le_of_ble_eq_true rfl⟩ rfl hl.1 rfl (Nat.le_of_ble_eq_true rfl) dX4_number_44 (fun H locs hw => ?_)
          refine lv_iadd hx hb dX4_number_47 ?_
          refine lv_bipush (v := 48) hx hb dX4_number_48 (by decide +kernel) ?_
          refine lv_isub hx hb dX4_number_50 ?_
          refine lv_topi (fun v14 ev14 => ?_)
          replace hf := lt_e ev14 hf
          refine lv_istore_n (lv' := [(1, .int v14), (0, .ref (ad 5)), (2, .int x2)]) hx hb dX4_number_51 rfl hl (by decide) rfl (fun ls hl => ?_)
          refine lv_aload_n hx hb dX4_number_52 rfl (lv_at hl 1 rfl) ?_
          refine lv_dup hx hb dX4_number_53 rfl ?_
          refine x_get X hw 5 (Nat.le_of_ble_eq_true rfl) ce5 rfl i_X4 14 (by decide) q604 ⟨rfl, rfl, rfl⟩ rfl dX4_number_54 ?_
          refine lv_iconst (v := 1) hx hb dX4_number_57 (by decide) ?_
          refine lv_iadd hx hb dX4_number_58 ?_
          refine x_put X hw 5 (Nat.le_of_ble_eq_true rfl) ce5 rfl i_X4 tyX4_ok nmX4 14 (by decide) q604 ⟨rfl, rfl, rfl⟩ rfl pfI rfl rfl (Nat.le_of_ble_eq_true rfl) 1 (ws_1 _) dX4_number_59 (fun S15 eS15 H locs hw => ?_)
          replace hf := lt_e eS15 hf
          refine lv_iinc (v := (x2 + 1)) (lv' := [(2, .int (x2 + 1)), (1, .int v14), (0, .ref (ad 5))]) hx hb dX4_number_62 hl (k := 2) rfl rfl (by decide) rfl (fun ls hl => ?_)
          refine lv_goto (tgt := 20) hx hb dX4_number_65 (by decide) ?_
          exact ih v14 (x2 + 1) S15 _ hf K _ _ _ hw (lv_sub hl [2, 1, 0] rfl)
  unfold f_X4_number at hf
  refine lv_aload_n hx hb dX4_number_0 rfl (lv_at hl 0 rfl) ?_
  obtain ⟨r2, h1, hf⟩ := b1_s hf
  refine kVi X hw (c_X4_sign l D cI cO ad  S r2 h1) (Nat.le_of_ble_eq_true rfl) ce5 rfl ⟨rfl, rfl⟩ q701 q703 q36 q64 q704 hd_X4_sign ⟨Nat.le_of_ble_eq_true rfl, Nat.le_of_ble_eq_true rfl⟩ rfl hl.1 rfl (Nat.le_of_ble_eq_true rfl) dX4_number_1 (fun H locs hw => ?_)
  refine lv_bipush (v := 48) hx hb dX4_number_4 (by decide +kernel) ?_
  refine lv_bipush (v := 57) hx hb dX4_number_6 (by decide +kernel) ?_
  obtain ⟨r4, h3, hf⟩ := b1_s hf
  refine kSi X hw (c_X4_isIn l D cI cO ad r2 (48 : Int32) (57 : Int32) S r4 h3) ⟨rfl, rfl⟩ q712 q713 q64 q714 hd_X4_isIn ⟨Nat.le_of_ble_eq_true rfl, Nat.le_of_ble_eq_true rfl⟩ rfl hl.1 rfl (Nat.le_of_ble_eq_true rfl) dX4_number_8 (fun H locs hw => ?_)
  refine lv_if_ne (tgt := 16) hx hb dX4_number_11 (by decide) (fun c5 => ?_) (fun c5 => ?_)
  · replace hf := if_f c5 hf
    refine lv_iconst (v := 0) hx hb dX4_number_16 (by decide) ?_
    refine lv_istore_n (lv' := [(1, .int (0 : Int32)), (0, .ref (ad 5))]) hx hb dX4_number_17 rfl hl (by decide) rfl (fun ls hl => ?_)
    refine lv_iconst (v := 0) hx hb dX4_number_18 (by decide) ?_
    refine lv_istore_n (lv' := [(2, .int (0 : Int32)), (1, .int (0 : Int32)), (0, .ref (ad 5))]) hx hb dX4_number_19 rfl hl (by decide) rfl (fun ls hl => ?_)
    obtain ⟨y16, S17, h18, hf⟩ := b2_s hf
    refine L20 FU (0 : Int32) (0 : Int32) S _ h18 (fun y16' S17' eK H locs ls hw hl => ?_) _ _ _ hw (lv_sub hl [2, 1, 0] rfl)
    cases eK
    refine lv_iload_n hx hb dX4_number_68 rfl (lv_at hl 0 rfl) ?_
    exact hfin _ _ _ _ _ _ hw (s2a hf) (s2b hf) (narI _) dX4_number_69
  · replace hf := if_t c5 hf
    refine lv_iconst (v := -1) hx hb dX4_number_14 (by decide) ?_
    exact hfin _ _ _ _ _ _ hw (s2a hf) (s2b hf) (narI _) dX4_number_15
/-- NineLandsModel.reads()Z -/
theorem dX4_reads_0 : decode cX4_reads 0 = .ok (.aload_n 0, 1) := by decide +kernel
theorem dX4_reads_1 : decode cX4_reads 1 = .ok (.iconst 0, 1) := by decide +kernel
theorem dX4_reads_2 : decode cX4_reads 2 = .ok (.putfield 91, 3) := by decide +kernel
theorem dX4_reads_5 : decode cX4_reads 5 = .ok (.aload_n 0, 1) := by decide +kernel
theorem dX4_reads_6 : decode cX4_reads 6 = .ok (.getfield 102, 3) := by decide +kernel
theorem dX4_reads_9 : decode cX4_reads 9 = .ok (.istore_n 1, 1) := by decide +kernel
theorem dX4_reads_10 : decode cX4_reads 10 = .ok (.aload_n 0, 1) := by decide +kernel
theorem dX4_reads_11 : decode cX4_reads 11 = .ok (.getfield 16, 3) := by decide +kernel
theorem dX4_reads_14 : decode cX4_reads 14 = .ok (.iload_n 1, 1) := by decide +kernel
theorem dX4_reads_15 : decode cX4_reads 15 = .ok (.aload_n 0, 1) := by decide +kernel
theorem dX4_reads_16 : decode cX4_reads 16 = .ok (.invokevirtual 94, 3) := by decide +kernel
theorem dX4_reads_19 : decode cX4_reads 19 = .ok (.bipush 48, 2) := by decide +kernel
theorem dX4_reads_21 : decode cX4_reads 21 = .ok (.isub, 1) := by decide +kernel
theorem dX4_reads_22 : decode cX4_reads 22 = .ok (.iastore, 1) := by decide +kernel
theorem dX4_reads_23 : decode cX4_reads 23 = .ok (.aload_n 0, 1) := by decide +kernel
theorem dX4_reads_24 : decode cX4_reads 24 = .ok (.getfield 16, 3) := by decide +kernel
theorem dX4_reads_27 : decode cX4_reads 27 = .ok (.iload_n 1, 1) := by decide +kernel
theorem dX4_reads_28 : decode cX4_reads 28 = .ok (.iaload, 1) := by decide +kernel
theorem dX4_reads_29 : decode cX4_reads 29 = .ok (.invokestatic 105, 3) := by decide +kernel
theorem dX4_reads_32 : decode cX4_reads 32 = .ok (.ifCond .ne 5, 3) := by decide +kernel
theorem dX4_reads_35 : decode cX4_reads 35 = .ok (.iconst 0, 1) := by decide +kernel
theorem dX4_reads_36 : decode cX4_reads 36 = .ok (.ireturn, 1) := by decide +kernel
theorem dX4_reads_37 : decode cX4_reads 37 = .ok (.aload_n 0, 1) := by decide +kernel
theorem dX4_reads_38 : decode cX4_reads 38 = .ok (.dup, 1) := by decide +kernel
theorem dX4_reads_39 : decode cX4_reads 39 = .ok (.getfield 91, 3) := by decide +kernel
theorem dX4_reads_42 : decode cX4_reads 42 = .ok (.iconst 1, 1) := by decide +kernel
theorem dX4_reads_43 : decode cX4_reads 43 = .ok (.iadd, 1) := by decide +kernel
theorem dX4_reads_44 : decode cX4_reads 44 = .ok (.putfield 91, 3) := by decide +kernel
theorem dX4_reads_47 : decode cX4_reads 47 = .ok (.aload_n 0, 1) := by decide +kernel
theorem dX4_reads_48 : decode cX4_reads 48 = .ok (.invokevirtual 94, 3) := by decide +kernel
theorem dX4_reads_51 : decode cX4_reads 51 = .ok (.istore_n 2, 1) := by decide +kernel
theorem dX4_reads_52 : decode cX4_reads 52 = .ok (.aload_n 0, 1) := by decide +kernel
theorem dX4_reads_53 : decode cX4_reads 53 = .ok (.getfield 19, 3) := by decide +kernel
theorem dX4_reads_56 : decode cX4_reads 56 = .ok (.iload_n 1, 1) := by decide +kernel
theorem dX4_reads_57 : decode cX4_reads 57 = .ok (.iload_n 2, 1) := by decide +kernel
theorem dX4_reads_58 : decode cX4_reads 58 = .ok (.bipush 115, 2) := by decide +kernel
theorem dX4_reads_60 : decode cX4_reads 60 = .ok (.if_icmp .ne 7, 3) := by decide +kernel
theorem dX4_reads_63 : decode cX4_reads 63 = .ok (.iconst 0, 1) := by decide +kernel
theorem dX4_reads_64 : decode cX4_reads 64 = .ok (.goto 34, 3) := by decide +kernel
theorem dX4_reads_67 : decode cX4_reads 67 = .ok (.iload_n 2, 1) := by decide +kernel
theorem dX4_reads_68 : decode cX4_reads 68 = .ok (.bipush 102, 2) := by decide +kernel
theorem dX4_reads_70 : decode cX4_reads 70 = .ok (.if_icmp .ne 7, 3) := by decide +kernel
theorem dX4_reads_73 : decode cX4_reads 73 = .ok (.iconst 1, 1) := by decide +kernel
theorem dX4_reads_74 : decode cX4_reads 74 = .ok (.goto 24, 3) := by decide +kernel
theorem dX4_reads_77 : decode cX4_reads 77 = .ok (.iload_n 2, 1) := by decide +kernel
theorem dX4_reads_78 : decode cX4_reads 78 = .ok (.bipush 97, 2) := by decide +kernel
theorem dX4_reads_80 : decode cX4_reads 80 = .ok (.if_icmp .ne 7, 3) := by decide +kernel
theorem dX4_reads_83 : decode cX4_reads 83 = .ok (.iconst 2, 1) := by decide +kernel
theorem dX4_reads_84 : decode cX4_reads 84 = .ok (.goto 14, 3) := by decide +kernel
theorem dX4_reads_87 : decode cX4_reads 87 = .ok (.iload_n 2, 1) := by decide +kernel
theorem dX4_reads_88 : decode cX4_reads 88 = .ok (.bipush 98, 2) := by decide +kernel
theorem dX4_reads_90 : decode cX4_reads 90 = .ok (.if_icmp .ne 7, 3) := by decide +kernel
theorem dX4_reads_93 : decode cX4_reads 93 = .ok (.iconst 3, 1) := by decide +kernel
theorem dX4_reads_94 : decode cX4_reads 94 = .ok (.goto 4, 3) := by decide +kernel
theorem dX4_reads_97 : decode cX4_reads 97 = .ok (.iconst (-1), 1) := by decide +kernel
theorem dX4_reads_98 : decode cX4_reads 98 = .ok (.iastore, 1) := by decide +kernel
theorem dX4_reads_99 : decode cX4_reads 99 = .ok (.aload_n 0, 1) := by decide +kernel
theorem dX4_reads_100 : decode cX4_reads 100 = .ok (.getfield 19, 3) := by decide +kernel
theorem dX4_reads_103 : decode cX4_reads 103 = .ok (.iload_n 1, 1) := by decide +kernel
theorem dX4_reads_104 : decode cX4_reads 104 = .ok (.iaload, 1) := by decide +kernel
theorem dX4_reads_105 : decode cX4_reads 105 = .ok (.ifCond .ge 5, 3) := by decide +kernel
theorem dX4_reads_108 : decode cX4_reads 108 = .ok (.iconst 0, 1) := by decide +kernel
theorem dX4_reads_109 : decode cX4_reads 109 = .ok (.ireturn, 1) := by decide +kernel
theorem dX4_reads_110 : decode cX4_reads 110 = .ok (.aload_n 0, 1) := by decide +kernel
theorem dX4_reads_111 : decode cX4_reads 111 = .ok (.dup, 1) := by decide +kernel
theorem dX4_reads_112 : decode cX4_reads 112 = .ok (.getfield 91, 3) := by decide +kernel
theorem dX4_reads_115 : decode cX4_reads 115 = .ok (.iconst 1, 1) := by decide +kernel
theorem dX4_reads_116 : decode cX4_reads 116 = .ok (.iadd, 1) := by decide +kernel
theorem dX4_reads_117 : decode cX4_reads 117 = .ok (.putfield 91, 3) := by decide +kernel
theorem dX4_reads_120 : decode cX4_reads 120 = .ok (.aload_n 0, 1) := by decide +kernel
theorem dX4_reads_121 : decode cX4_reads 121 = .ok (.getfield 22, 3) := by decide +kernel
theorem dX4_reads_124 : decode cX4_reads 124 = .ok (.iload_n 1, 1) := by decide +kernel
theorem dX4_reads_125 : decode cX4_reads 125 = .ok (.aload_n 0, 1) := by decide +kernel
theorem dX4_reads_126 : decode cX4_reads 126 = .ok (.invokevirtual 109, 3) := by decide +kernel
theorem dX4_reads_129 : decode cX4_reads 129 = .ok (.iastore, 1) := by decide +kernel
theorem dX4_reads_130 : decode cX4_reads 130 = .ok (.aload_n 0, 1) := by decide +kernel
theorem dX4_reads_131 : decode cX4_reads 131 = .ok (.getfield 22, 3) := by decide +kernel
theorem dX4_reads_134 : decode cX4_reads 134 = .ok (.iload_n 1, 1) := by decide +kernel
theorem dX4_reads_135 : decode cX4_reads 135 = .ok (.iaload, 1) := by decide +kernel
theorem dX4_reads_136 : decode cX4_reads 136 = .ok (.ifCond .lt 12, 3) := by decide +kernel
theorem dX4_reads_139 : decode cX4_reads 139 = .ok (.aload_n 0, 1) := by decide +kernel
theorem dX4_reads_140 : decode cX4_reads 140 = .ok (.bipush 45, 2) := by decide +kernel
theorem dX4_reads_142 : decode cX4_reads 142 = .ok (.invokevirtual 112, 3) := by decide +kernel
theorem dX4_reads_145 : decode cX4_reads 145 = .ok (.ifCond .ne 5, 3) := by decide +kernel
theorem dX4_reads_148 : decode cX4_reads 148 = .ok (.iconst 0, 1) := by decide +kernel
theorem dX4_reads_149 : decode cX4_reads 149 = .ok (.ireturn, 1) := by decide +kernel
theorem dX4_reads_150 : decode cX4_reads 150 = .ok (.aload_n 0, 1) := by decide +kernel
theorem dX4_reads_151 : decode cX4_reads 151 = .ok (.getfield 91, 3) := by decide +kernel
theorem dX4_reads_154 : decode cX4_reads 154 = .ok (.istore_n 3, 1) := by decide +kernel
theorem dX4_reads_155 : decode cX4_reads 155 = .ok (.aload_n 0, 1) := by decide +kernel
theorem dX4_reads_156 : decode cX4_reads 156 = .ok (.getfield 25, 3) := by decide +kernel
theorem dX4_reads_159 : decode cX4_reads 159 = .ok (.iload_n 1, 1) := by decide +kernel
theorem dX4_reads_160 : decode cX4_reads 160 = .ok (.aload_n 0, 1) := by decide +kernel
theorem dX4_reads_161 : decode cX4_reads 161 = .ok (.invokevirtual 109, 3) := by decide +kernel
theorem dX4_reads_164 : decode cX4_reads 164 = .ok (.iastore, 1) := by decide +kernel
theorem dX4_reads_165 : decode cX4_reads 165 = .ok (.aload_n 0, 1) := by decide +kernel
theorem dX4_reads_166 : decode cX4_reads 166 = .ok (.getfield 25, 3) := by decide +kernel
theorem dX4_reads_169 : decode cX4_reads 169 = .ok (.iload_n 1, 1) := by decide +kernel
theorem dX4_reads_170 : decode cX4_reads 170 = .ok (.iaload, 1) := by decide +kernel
theorem dX4_reads_171 : decode cX4_reads 171 = .ok (.ifCond .ge 5, 3) := by decide +kernel
theorem dX4_reads_174 : decode cX4_reads 174 = .ok (.iconst 0, 1) := by decide +kernel
theorem dX4_reads_175 : decode cX4_reads 175 = .ok (.ireturn, 1) := by decide +kernel
theorem dX4_reads_176 : decode cX4_reads 176 = .ok (.aload_n 0, 1) := by decide +kernel
theorem dX4_reads_177 : decode cX4_reads 177 = .ok (.getfield 25, 3) := by decide +kernel
theorem dX4_reads_180 : decode cX4_reads 180 = .ok (.iload_n 1, 1) := by decide +kernel
theorem dX4_reads_181 : decode cX4_reads 181 = .ok (.iaload, 1) := by decide +kernel
theorem dX4_reads_182 : decode cX4_reads 182 = .ok (.sipush 900, 3) := by decide +kernel
theorem dX4_reads_185 : decode cX4_reads 185 = .ok (.if_icmp .gt 18, 3) := by decide +kernel
theorem dX4_reads_188 : decode cX4_reads 188 = .ok (.aload_n 0, 1) := by decide +kernel
theorem dX4_reads_189 : decode cX4_reads 189 = .ok (.getfield 25, 3) := by decide +kernel
theorem dX4_reads_192 : decode cX4_reads 192 = .ok (.iload_n 1, 1) := by decide +kernel
theorem dX4_reads_193 : decode cX4_reads 193 = .ok (.iaload, 1) := by decide +kernel
theorem dX4_reads_194 : decode cX4_reads 194 = .ok (.aload_n 0, 1) := by decide +kernel
theorem dX4_reads_195 : decode cX4_reads 195 = .ok (.getfield 22, 3) := by decide +kernel
theorem dX4_reads_198 : decode cX4_reads 198 = .ok (.iload_n 1, 1) := by decide +kernel
theorem dX4_reads_199 : decode cX4_reads 199 = .ok (.iaload, 1) := by decide +kernel
theorem dX4_reads_200 : decode cX4_reads 200 = .ok (.if_icmp .gt 10, 3) := by decide +kernel
theorem dX4_reads_203 : decode cX4_reads 203 = .ok (.aload_n 0, 1) := by decide +kernel
theorem dX4_reads_204 : decode cX4_reads 204 = .ok (.iload_n 3, 1) := by decide +kernel
theorem dX4_reads_205 : decode cX4_reads 205 = .ok (.putfield 91, 3) := by decide +kernel
theorem dX4_reads_208 : decode cX4_reads 208 = .ok (.iconst 0, 1) := by decide +kernel
theorem dX4_reads_209 : decode cX4_reads 209 = .ok (.ireturn, 1) := by decide +kernel
theorem dX4_reads_210 : decode cX4_reads 210 = .ok (.aload_n 0, 1) := by decide +kernel
theorem dX4_reads_211 : decode cX4_reads 211 = .ok (.bipush 42, 2) := by decide +kernel
theorem dX4_reads_213 : decode cX4_reads 213 = .ok (.invokevirtual 112, 3) := by decide +kernel
theorem dX4_reads_216 : decode cX4_reads 216 = .ok (.ifCond .ne 5, 3) := by decide +kernel
theorem dX4_reads_219 : decode cX4_reads 219 = .ok (.iconst 0, 1) := by decide +kernel
theorem dX4_reads_220 : decode cX4_reads 220 = .ok (.ireturn, 1) := by decide +kernel
theorem dX4_reads_221 : decode cX4_reads 221 = .ok (.aload_n 0, 1) := by decide +kernel
theorem dX4_reads_222 : decode cX4_reads 222 = .ok (.getfield 28, 3) := by decide +kernel
theorem dX4_reads_225 : decode cX4_reads 225 = .ok (.iload_n 1, 1) := by decide +kernel
theorem dX4_reads_226 : decode cX4_reads 226 = .ok (.aload_n 0, 1) := by decide +kernel
theorem dX4_reads_227 : decode cX4_reads 227 = .ok (.invokevirtual 109, 3) := by decide +kernel
theorem dX4_reads_230 : decode cX4_reads 230 = .ok (.iastore, 1) := by decide +kernel
theorem dX4_reads_231 : decode cX4_reads 231 = .ok (.aload_n 0, 1) := by decide +kernel
theorem dX4_reads_232 : decode cX4_reads 232 = .ok (.getfield 28, 3) := by decide +kernel
theorem dX4_reads_235 : decode cX4_reads 235 = .ok (.iload_n 1, 1) := by decide +kernel
theorem dX4_reads_236 : decode cX4_reads 236 = .ok (.iaload, 1) := by decide +kernel
theorem dX4_reads_237 : decode cX4_reads 237 = .ok (.ifCond .ge 5, 3) := by decide +kernel
theorem dX4_reads_240 : decode cX4_reads 240 = .ok (.iconst 0, 1) := by decide +kernel
theorem dX4_reads_241 : decode cX4_reads 241 = .ok (.ireturn, 1) := by decide +kernel
theorem dX4_reads_242 : decode cX4_reads 242 = .ok (.aload_n 0, 1) := by decide +kernel
theorem dX4_reads_243 : decode cX4_reads 243 = .ok (.getfield 31, 3) := by decide +kernel
theorem dX4_reads_246 : decode cX4_reads 246 = .ok (.iload_n 1, 1) := by decide +kernel
theorem dX4_reads_247 : decode cX4_reads 247 = .ok (.aload_n 0, 1) := by decide +kernel
theorem dX4_reads_248 : decode cX4_reads 248 = .ok (.bipush 33, 2) := by decide +kernel
theorem dX4_reads_250 : decode cX4_reads 250 = .ok (.invokevirtual 112, 3) := by decide +kernel
theorem dX4_reads_253 : decode cX4_reads 253 = .ok (.ifCond .eq 7, 3) := by decide +kernel
theorem dX4_reads_256 : decode cX4_reads 256 = .ok (.iconst 0, 1) := by decide +kernel
theorem dX4_reads_257 : decode cX4_reads 257 = .ok (.goto 4, 3) := by decide +kernel
theorem dX4_reads_260 : decode cX4_reads 260 = .ok (.iconst 1, 1) := by decide +kernel
theorem dX4_reads_261 : decode cX4_reads 261 = .ok (.iastore, 1) := by decide +kernel
theorem dX4_reads_262 : decode cX4_reads 262 = .ok (.aload_n 0, 1) := by decide +kernel
theorem dX4_reads_263 : decode cX4_reads 263 = .ok (.getfield 91, 3) := by decide +kernel
theorem dX4_reads_266 : decode cX4_reads 266 = .ok (.aload_n 0, 1) := by decide +kernel
theorem dX4_reads_267 : decode cX4_reads 267 = .ok (.getfield 82, 3) := by decide +kernel
theorem dX4_reads_270 : decode cX4_reads 270 = .ok (.if_icmp .ne 7, 3) := by decide +kernel
theorem dX4_reads_273 : decode cX4_reads 273 = .ok (.iconst 1, 1) := by decide +kernel
theorem dX4_reads_274 : decode cX4_reads 274 = .ok (.goto 4, 3) := by decide +kernel
theorem dX4_reads_277 : decode cX4_reads 277 = .ok (.iconst 0, 1) := by decide +kernel
theorem dX4_reads_278 : decode cX4_reads 278 = .ok (.ireturn, 1) := by decide +kernel
theorem hd_X4_reads : yX4_reads.cls ≠ "java/lang/invoke/MethodHandle" ∧ yX4_reads.cls ≠ "java/lang/invoke/VarHandle" ∧ (parseMethodDescriptor yX4_reads.desc).map (fun d => d.parameters.length) = some 0 := by decide +kernel
def f_X4_reads_J98 (x1 : Int32) (k1 : Int32) (k2 : Int32) (S : vS) : Option (Int32 × vS) := if inb k1 21 = true then lt (upk S 4 (upd (S 4) (k1.toNatClampNeg) k2)) fun S17 => if inb x1 21 = true then if 0 ≤ (S17 4 (x1.toNatClampNeg)) then lt (upk S17 0 (upd (S17 0) 1 ((S17 0 1) + (1 : Int32)))) fun S20 => b2 (f_X4_number  S20) fun r23 S22 => lt (upk S22 5 (upd (S22 5) (x1.toNatClampNeg) r23)) fun S24 => if (S24 5 (x1.toNatClampNeg)) < 0 then some ((0 : Int32), S24) else b2 (f_X4_takes (45 : Int32) S24) fun r28 S27 => if r28 = 0 then some ((0 : Int32), S27) else b2 (f_X4_number  S27) fun r32 S31 => lt (upk S31 6 (upd (S31 6) (x1.toNatClampNeg) r32)) fun S33 => if 0 ≤ (S33 6 (x1.toNatClampNeg)) then if (900 : Int32) < (S33 6 (x1.toNatClampNeg)) then lt (upk S33 0 (upd (S33 0) 1 (S27 0 1))) fun S36 => some ((0 : Int32), S36) else if (S33 5 (x1.toNatClampNeg)) < (S33 6 (x1.toNatClampNeg)) then b2 (f_X4_takes (42 : Int32) S33) fun r40 S39 => if r40 = 0 then some ((0 : Int32), S39) else b2 (f_X4_number  S39) fun r44 S43 => lt (upk S43 7 (upd (S43 7) (x1.toNatClampNeg) r44)) fun S45 => if 0 ≤ (S45 7 (x1.toNatClampNeg)) then b2 (f_X4_takes (33 : Int32) S45) fun r49 S48 => if r49 = 0 then lt (upk S48 8 (upd (S48 8) (x1.toNatClampNeg) (1 : Int32))) fun S51 => if (S51 0 1) = (S51 0 0) then some ((1 : Int32), S51) else some ((0 : Int32), S51) else lt (upk S48 8 (upd (S48 8) (x1.toNatClampNeg) (0 : Int32))) fun S53 => if (S53 0 1) = (S53 0 0) then some ((1 : Int32), S53) else some ((0 : Int32), S53) else some ((0 : Int32), S45) else lt (upk S33 0 (upd (S33 0) 1 (S27 0 1))) fun S55 => some ((0 : Int32), S55) else some ((0 : Int32), S33) else some ((0 : Int32), S17) else none else none
def f_X4_reads  (S : vS) : Option (Int32 × vS) := lt (upk S 0 (upd (S 0) 1 (0 : Int32))) fun S1 => b1 (f_X4_sign  S1) fun r3 => if inb (S1 0 2) 21 = true then lt (upk S1 3 (upd (S1 3) ((S1 0 2).toNatClampNeg) (r3 - (48 : Int32)))) fun S5 => b1 (f_X4_isLand (S5 3 ((S1 0 2).toNatClampNeg)) S5) fun r7 => if r7 = 0 then some ((0 : Int32), S5) else lt (upk S5 0 (upd (S5 0) 1 ((S5 0 1) + (1 : Int32)))) fun S9 => b1 (f_X4_sign  S9) fun r11 => if r11 = (115 : Int32) then f_X4_reads_J98 (S1 0 2) (S1 0 2) (0 : Int32) S9 else if r11 = (102 : Int32) then f_X4_reads_J98 (S1 0 2) (S1 0 2) (1 : Int32) S9 else if r11 = (97 : Int32) then f_X4_reads_J98 (S1 0 2) (S1 0 2) (2 : Int32) S9 else if r11 = (98 : Int32) then f_X4_reads_J98 (S1 0 2) (S1 0 2) (3 : Int32) S9 else f_X4_reads_J98 (S1 0 2) (S1 0 2) (-1 : Int32) S9 else none
set_option maxHeartbeats 4000000 in
set_option maxRecDepth 20000 in
theorem c_X4_reads (l : Launch) (D : va_G) (cI cO : ClassId) (ad : Nat → Nat)  (S : vS) (R9 : Int32) (S9 : vS) (hf : f_X4_reads  S = some (R9, S9)) : CI l yX4_reads cX4_reads 4 .boolean ({ frames := 2, cells := 0, slots := 0, locals := 44 }) [.ref (ad 5)] D cI cO ad S R9 S9 := by
  refine CI.of (by decide +kernel) (Nat.le_of_ble_eq_true rfl) (fun p e s m args below meth c Q ls X hl hw hfin => ?_)
  have hl : lv_has ls 4 [(0, .ref (ad 5))] := hl
  have hx := X.1
  have hb := X.2.1
  have J98 : ∀ (x1 : Int32) (k1 : Int32) (k2 : Int32) (S : vS), f_X4_reads_J98 x1 k1 k2 S = some (R9, S9) → ∀ (H : Heap) (locs : List Loc) (ls : Array Slot), WD D cI cO ad s S H locs → lv_has ls 4 [(0, .ref (ad 5)), (1, .int x1)] → W p l e ({ frames := 2, cells := 0, slots := 0, locals := 44 }) s m args below meth c H locs 0 0 Q (F0 m 98 ls [.int k2, .int k1, .ref (ar ad 4)]) := by
    intro x1 k1 k2 S hf H locs ls hw hl
    unfold f_X4_reads_J98 at hf
    obtain ⟨h16, hf⟩ := if_s hf
    refine x_iast X hw 4 ⟨Nat.le_of_ble_eq_true rfl, Nat.le_of_ble_eq_true rfl⟩ rfl h16 (k1.toNatClampNeg) rfl dX4_reads_98 (fun S17 eS17 H locs hw => ?_)
    replace hf := lt_e eS17 hf
    refine lv_aload_n hx hb dX4_reads_99 rfl (lv_at hl 0 rfl) ?_
    refine x_get X hw 5 (Nat.le_of_ble_eq_true rfl) ce5 rfl i_X4 3 (by decide) q593 ⟨rfl, rfl, rfl⟩ rfl dX4_reads_100 ?_
    refine lv_iload_n hx hb dX4_reads_103 rfl (lv_at hl 1 rfl) ?_
    obtain ⟨h18, hf⟩ := if_s hf
    refine x_iald X hw 4 ⟨Nat.le_of_ble_eq_true rfl, Nat.le_of_ble_eq_true rfl⟩ rfl h18 (x1.toNatClampNeg) rfl dX4_reads_104 ?_
    refine lv_if_ge (tgt := 110) hx hb dX4_reads_105 (by decide) (fun c19 => ?_) (fun c19 => ?_)
    · replace hf := if_t c19 hf
      refine lv_aload_n hx hb dX4_reads_110 rfl (lv_at hl 0 rfl) ?_
      refine lv_dup hx hb dX4_reads_111 rfl ?_
      refine x_get X hw 5 (Nat.le_of_ble_eq_true rfl) ce5 rfl i_X4 14 (by decide) q604 ⟨rfl, rfl, rfl⟩ rfl dX4_reads_112 ?_
      refine lv_iconst (v := 1) hx hb dX4_reads_115 (by decide) ?_
      refine lv_iadd hx hb dX4_reads_116 ?_
      refine x_put X hw 5 (Nat.le_of_ble_eq_true rfl) ce5 rfl i_X4 tyX4_ok nmX4 14 (by decide) q604 ⟨rfl, rfl, rfl⟩ rfl pfI rfl rfl (Nat.le_of_ble_eq_true rfl) 1 (ws_1 _) dX4_reads_117 (fun S20 eS20 H locs hw => ?_)
      replace hf := lt_e eS20 hf
      refine lv_aload_n hx hb dX4_reads_120 rfl (lv_at hl 0 rfl) ?_
      refine x_get X hw 5 (Nat.le_of_ble_eq_true rfl) ce5 rfl i_X4 4 (by decide) q594 ⟨rfl, rfl, rfl⟩ rfl dX4_reads_121 ?_
      refine lv_iload_n hx hb dX4_reads_124 rfl (lv_at hl 1 rfl) ?_
      refine lv_aload_n hx hb dX4_reads_125 rfl (lv_at hl 0 rfl) ?_
      obtain ⟨r23, S22, h21, hf⟩ := b2_s hf
      refine kVi X hw (c_X4_number l D cI cO ad  S20 r23 S22 h21) (Nat.le_of_ble_eq_true rfl) ce5 rfl ⟨rfl, rfl⟩ q708 q710 q37 q64 q711 hd_X4_number ⟨Nat.le_of_ble_eq_true rfl, Nat.le_of_ble_eq_true rfl⟩ rfl hl.1 rfl (Nat.le_of_ble_eq_true rfl) dX4_reads_126 (fun H locs hw => ?_)
      refine x_iast X hw 5 ⟨Nat.le_of_ble_eq_true rfl, Nat.le_of_ble_eq_true rfl⟩ rfl h18 (x1.toNatClampNeg) rfl dX4_reads_129 (fun S24 eS24 H locs hw => ?_)
      replace hf := lt_e eS24 hf
      refine lv_aload_n hx hb dX4_reads_130 rfl (lv_at hl 0 rfl) ?_
      refine x_get X hw 5 (Nat.le_of_ble_eq_true rfl) ce5 rfl i_X4 4 (by decide) q594 ⟨rfl, rfl, rfl⟩ rfl dX4_reads_131 ?_
      refine lv_iload_n hx hb dX4_reads_134 rfl (lv_at hl 1 rfl) ?_
      refine x_iald X hw 5 ⟨Nat.le_of_ble_eq_true rfl, Nat.le_of_ble_eq_true rfl⟩ rfl h18 (x1.toNatClampNeg) rfl dX4_reads_135 ?_
      refine lv_if_lt (tgt := 148) hx hb dX4_reads_136 (by decide) (fun c25 => ?_) (fun c25 => ?_)
      · replace hf := if_t c25 hf
        refine lv_iconst (v := 0) hx hb dX4_reads_148 (by decide) ?_
        exact hfin _ _ _ _ _ _ hw (s2a hf) (s2b hf) rfl dX4_reads_149
      · replace hf := if_f c25 hf
        refine lv_aload_n hx hb dX4_reads_139 rfl (lv_at hl 0 rfl) ?_
        refine lv_bipush (v := 45) hx hb dX4_reads_140 (by decide +kernel) ?_
        obtain ⟨r28, S27, h26, hf⟩ := b2_s hf
        refine kVi X hw (c_X4_takes l D cI cO ad (45 : Int32) S24 r28 S27 h26) (Nat.le_of_ble_eq_true rfl) ce5 rfl ⟨rfl, rfl⟩ q715 q717 q38 q64 q718 hd_X4_takes ⟨Nat.le_of_ble_eq_true rfl, Nat.le_of_ble_eq_true rfl⟩ rfl hl.1 rfl (Nat.le_of_ble_eq_true rfl) dX4_reads_142 (fun H locs hw => ?_)
        refine lv_if_ne (tgt := 150) hx hb dX4_reads_145 (by decide) (fun c29 => ?_) (fun c29 => ?_)
        · replace hf := if_f c29 hf
          refine lv_aload_n hx hb dX4_reads_150 rfl (lv_at hl 0 rfl) ?_
          refine x_get X hw 5 (Nat.le_of_ble_eq_true rfl) ce5 rfl i_X4 14 (by decide) q604 ⟨rfl, rfl, rfl⟩ rfl dX4_reads_151 ?_
          refine lv_istore_n (lv' := [(3, .int (S27 0 1)), (0, .ref (ad 5)), (1, .int x1)]) hx hb dX4_reads_154 rfl hl (by decide) rfl (fun ls hl => ?_)
          refine lv_aload_n hx hb dX4_reads_155 rfl (lv_at hl 1 rfl) ?_
          refine x_get X hw 5 (Nat.le_of_ble_eq_true rfl) ce5 rfl i_X4 5 (by decide) q595 ⟨rfl, rfl, rfl⟩ rfl dX4_reads_156 ?_
          refine lv_iload_n hx hb dX4_reads_159 rfl (lv_at hl 2 rfl) ?_
          refine lv_aload_n hx hb dX4_reads_160 rfl (lv_at hl 1 rfl) ?_
          obtain ⟨r32, S31, h30, hf⟩ := b2_s hf
          refine kVi X hw (c_X4_number l D cI cO ad  S27 r32 S31 h30) (Nat.le_of_ble_eq_true rfl) ce5 rfl ⟨rfl, rfl⟩ q708 q710 q37 q64 q711 hd_X4_number ⟨Nat.le_of_ble_eq_true rfl, Nat.le_of_ble_eq_true rfl⟩ rfl hl.1 rfl (Nat.le_of_ble_eq_true rfl) dX4_reads_161 (fun H locs hw => ?_)
          refine x_iast X hw 6 ⟨Nat.le_of_ble_eq_true rfl, Nat.le_of_ble_eq_true rfl⟩ rfl h18 (x1.toNatClampNeg) rfl dX4_reads_164 (fun S33 eS33 H locs hw => ?_)
          replace hf := lt_e eS33 hf
          refine lv_aload_n hx hb dX4_reads_165 rfl (lv_at hl 1 rfl) ?_
          refine x_get X hw 5 (Nat.le_of_ble_eq_true rfl) ce5 rfl i_X4 5 (by decide) q595 ⟨rfl, rfl, rfl⟩ rfl dX4_reads_166 ?_
          refine lv_iload_n hx hb dX4_reads_169 rfl (lv_at hl 2 rfl) ?_
          refine x_iald X hw 6 ⟨Nat.le_of_ble_eq_true rfl, Nat.le_of_ble_eq_true rfl⟩ rfl h18 (x1.toNatClampNeg) rfl dX4_reads_170 ?_
          refine lv_if_ge (tgt := 176) hx hb dX4_reads_171 (by decide) (fun c34 => ?_) (fun c34 => ?_)
          · replace hf := if_t c34 hf
            refine lv_aload_n hx hb dX4_reads_176 rfl (lv_at hl 1 rfl) ?_
            refine x_get X hw 5 (Nat.le_of_ble_eq_true rfl) ce5 rfl i_X4 5 (by decide) q595 ⟨rfl, rfl, rfl⟩ rfl dX4_reads_177 ?_
            refine lv_iload_n hx hb dX4_reads_180 rfl (lv_at hl 2 rfl) ?_
            refine x_iald X hw 6 ⟨Nat.le_of_ble_eq_true rfl, Nat.le_of_ble_eq_true rfl⟩ rfl h18 (x1.toNatClampNeg) rfl dX4_reads_181 ?_
            refine lv_sipush (v := 900) hx hb dX4_reads_182 (by decide +kernel) ?_
            refine lv_icmp_gt (tgt := 203) hx hb dX4_reads_185 (by decide) (fun c35 => ?_) (fun c35 => ?_)
            · replace hf := if_t c35 hf
              refine lv_aload_n hx hb dX4_reads_203 rfl (lv_at hl 1 rfl) ?_
              refine lv_iload_n hx hb dX4_reads_204 rfl (lv_at hl 0 rfl) ?_
              refine x_put X hw 5 (Nat.le_of_ble_eq_true rfl) ce5 rfl i_X4 tyX4_ok nmX4 14 (by decide) q604 ⟨rfl, rfl, rfl⟩ rfl pfI rfl rfl (Nat.le_of_ble_eq_true rfl) 1 (ws_1 _) dX4_reads_205 (fun S36 eS36 H locs hw => ?_)
              replace hf := lt_e eS36 hf
              refine lv_iconst (v := 0) hx hb dX4_reads_208 (by decide) ?_
              exact hfin _ _ _ _ _ _ hw (s2a hf) (s2b hf) rfl dX4_reads_209
            · replace hf := if_f c35 hf
              refine lv_aload_n hx hb dX4_reads_188 rfl (lv_at hl 1 rfl) ?_
              refine x_get X hw 5 (Nat.le_of_ble_eq_true rfl) ce5 rfl i_X4 5 (by decide) q595 ⟨rfl, rfl, rfl⟩ rfl dX4_reads_189 ?_
              refine lv_iload_n hx hb dX4_reads_192 rfl (lv_at hl 2 rfl) ?_
              refine x_iald X hw 6 ⟨Nat.le_of_ble_eq_true rfl, Nat.le_of_ble_eq_true rfl⟩ rfl h18 (x1.toNatClampNeg) rfl dX4_reads_193 ?_
              refine lv_aload_n hx hb dX4_reads_194 rfl (lv_at hl 1 rfl) ?_
              refine x_get X hw 5 (Nat.le_of_ble_eq_true rfl) ce5 rfl i_X4 4 (by decide) q594 ⟨rfl, rfl, rfl⟩ rfl dX4_reads_195 ?_
              refine lv_iload_n hx hb dX4_reads_198 rfl (lv_at hl 2 rfl) ?_
              refine x_iald X hw 5 ⟨Nat.le_of_ble_eq_true rfl, Nat.le_of_ble_eq_true rfl⟩ rfl h18 (x1.toNatClampNeg) rfl dX4_reads_199 ?_
              refine lv_icmp_gt (tgt := 210) hx hb dX4_reads_200 (by decide) (fun c37 => ?_) (fun c37 => ?_)
              · replace hf := if_t c37 hf
                refine lv_aload_n hx hb dX4_reads_210 rfl (lv_at hl 1 rfl) ?_
                refine lv_bipush (v := 42) hx hb dX4_reads_211 (by decide +kernel) ?_
                obtain ⟨r40, S39, h38, hf⟩ := b2_s hf
                refine kVi X hw (c_X4_takes l D cI cO ad (42 : Int32) S33 r40 S39 h38) (Nat.le_of_ble_eq_true rfl) ce5 rfl ⟨rfl, rfl⟩ q715 q717 q38 q64 q718 hd_X4_takes ⟨Nat.le_of_ble_eq_true rfl, Nat.le_of_ble_eq_true rfl⟩ rfl hl.1 rfl (Nat.le_of_ble_eq_true rfl) dX4_reads_213 (fun H locs hw => ?_)
                refine lv_if_ne (tgt := 221) hx hb dX4_reads_216 (by decide) (fun c41 => ?_) (fun c41 => ?_)
                · replace hf := if_f c41 hf
                  refine lv_aload_n hx hb dX4_reads_221 rfl (lv_at hl 1 rfl) ?_
                  refine x_get X hw 5 (Nat.le_of_ble_eq_true rfl) ce5 rfl i_X4 6 (by decide) q596 ⟨rfl, rfl, rfl⟩ rfl dX4_reads_222 ?_
                  refine lv_iload_n hx hb dX4_reads_225 rfl (lv_at hl 2 rfl) ?_
                  refine lv_aload_n hx hb dX4_reads_226 rfl (lv_at hl 1 rfl) ?_
                  obtain ⟨r44, S43, h42, hf⟩ := b2_s hf
                  refine kVi X hw (c_X4_number l D cI cO ad  S39 r44 S43 h42) (Nat.le_of_ble_eq_true rfl) ce5 rfl ⟨rfl, rfl⟩ q708 q710 q37 q64 q711 hd_X4_number ⟨Nat.le_of_ble_eq_true rfl, Nat.le_of_ble_eq_true rfl⟩ rfl hl.1 rfl (Nat.le_of_ble_eq_true rfl) dX4_reads_227 (fun H locs hw => ?_)
                  refine x_iast X hw 7 ⟨Nat.le_of_ble_eq_true rfl, Nat.le_of_ble_eq_true rfl⟩ rfl h18 (x1.toNatClampNeg) rfl dX4_reads_230 (fun S45 eS45 H locs hw => ?_)
                  replace hf := lt_e eS45 hf
                  refine lv_aload_n hx hb dX4_reads_231 rfl (lv_at hl 1 rfl) ?_
                  refine x_get X hw 5 (Nat.le_of_ble_eq_true rfl) ce5 rfl i_X4 6 (by decide) q596 ⟨rfl, rfl, rfl⟩ rfl dX4_reads_232 ?_
                  refine lv_iload_n hx hb dX4_reads_235 rfl (lv_at hl 2 rfl) ?_
                  refine x_iald X hw 7 ⟨Nat.le_of_ble_eq_true rfl, Nat.le_of_ble_eq_true rfl⟩ rfl h18 (x1.toNatClampNeg) rfl dX4_reads_236 ?_
                  refine lv_if_ge (tgt := 242) hx hb dX4_reads_237 (by decide) (fun c46 => ?_) (fun c46 => ?_)
                  · replace hf := if_t c46 hf
                    refine lv_aload_n hx hb dX4_reads_242 rfl (lv_at hl 1 rfl) ?_
                    refine x_get X hw 5 (Nat.le_of_ble_eq_true rfl) ce5 rfl i_X4 7 (by decide) q597 ⟨rfl, rfl, rfl⟩ rfl dX4_reads_243 ?_
                    refine lv_iload_n hx hb dX4_reads_246 rfl (lv_at hl 2 rfl) ?_
                    refine lv_aload_n hx hb dX4_reads_247 rfl (lv_at hl 1 rfl) ?_
                    refine lv_bipush (v := 33) hx hb dX4_reads_248 (by decide +kernel) ?_
                    obtain ⟨r49, S48, h47, hf⟩ := b2_s hf
                    refine kVi X hw (c_X4_takes l D cI cO ad (33 : Int32) S45 r49 S48 h47) (Nat.le_of_ble_eq_true rfl) ce5 rfl ⟨rfl, rfl⟩ q715 q717 q38 q64 q718 hd_X4_takes ⟨Nat.le_of_ble_eq_true rfl, Nat.le_of_ble_eq_true rfl⟩ rfl hl.1 rfl (Nat.le_of_ble_eq_true rfl) dX4_reads_250 (fun H locs hw => ?_)
                    refine lv_if_eq (tgt := 260) hx hb dX4_reads_253 (by decide) (fun c50 => ?_) (fun c50 => ?_)
                    · replace hf := if_t c50 hf
                      refine lv_iconst (v := 1) hx hb dX4_reads_260 (by decide) ?_
                      refine x_iast X hw 8 ⟨Nat.le_of_ble_eq_true rfl, Nat.le_of_ble_eq_true rfl⟩ rfl h18 (x1.toNatClampNeg) rfl dX4_reads_261 (fun S51 eS51 H locs hw => ?_)
                      replace hf := lt_e eS51 hf
                      refine lv_aload_n hx hb dX4_reads_262 rfl (lv_at hl 1 rfl) ?_
                      refine x_get X hw 5 (Nat.le_of_ble_eq_true rfl) ce5 rfl i_X4 14 (by decide) q604 ⟨rfl, rfl, rfl⟩ rfl dX4_reads_263 ?_
                      refine lv_aload_n hx hb dX4_reads_266 rfl (lv_at hl 1 rfl) ?_
                      refine x_get X hw 5 (Nat.le_of_ble_eq_true rfl) ce5 rfl i_X4 13 (by decide) q603 ⟨rfl, rfl, rfl⟩ rfl dX4_reads_267 ?_
                      refine lv_icmp_ne (tgt := 277) hx hb dX4_reads_270 (by decide) (fun c52 => ?_) (fun c52 => ?_)
                      · replace hf := if_f c52 hf
                        refine lv_iconst (v := 0) hx hb dX4_reads_277 (by decide) ?_
                        exact hfin _ _ _ _ _ _ hw (s2a hf) (s2b hf) rfl dX4_reads_278
                      · replace hf := if_t c52 hf
                        refine lv_iconst (v := 1) hx hb dX4_reads_273 (by decide) ?_
                        refine lv_goto (tgt := 278) hx hb dX4_reads_274 (by decide) ?_
                        exact hfin _ _ _ _ _ _ hw (s2a hf) (s2b hf) rfl dX4_reads_278
                    · replace hf := if_f c50 hf
                      refine lv_iconst (v := 0) hx hb dX4_reads_256 (by decide) ?_
                      refine lv_goto (tgt := 261) hx hb dX4_reads_257 (by decide) ?_
                      refine x_iast X hw 8 ⟨Nat.le_of_ble_eq_true rfl, Nat.le_of_ble_eq_true rfl⟩ rfl h18 (x1.toNatClampNeg) rfl dX4_reads_261 (fun S53 eS53 H locs hw => ?_)
                      replace hf := lt_e eS53 hf
                      refine lv_aload_n hx hb dX4_reads_262 rfl (lv_at hl 1 rfl) ?_
                      refine x_get X hw 5 (Nat.le_of_ble_eq_true rfl) ce5 rfl i_X4 14 (by decide) q604 ⟨rfl, rfl, rfl⟩ rfl dX4_reads_263 ?_
                      refine lv_aload_n hx hb dX4_reads_266 rfl (lv_at hl 1 rfl) ?_
                      refine x_get X hw 5 (Nat.le_of_ble_eq_true rfl) ce5 rfl i_X4 13 (by decide) q603 ⟨rfl, rfl, rfl⟩ rfl dX4_reads_267 ?_
                      refine lv_icmp_ne (tgt := 277) hx hb dX4_reads_270 (by decide) (fun c54 => ?_) (fun c54 => ?_)
                      · replace hf := if_f c54 hf
                        refine lv_iconst (v := 0) hx hb dX4_reads_277 (by decide) ?_
                        exact hfin _ _ _ _ _ _ hw (s2a hf) (s2b hf) rfl dX4_reads_278
                      · replace hf := if_t c54 hf
                        refine lv_iconst (v := 1) hx hb dX4_reads_273 (by decide) ?_
                        refine lv_goto (tgt := 278) hx hb dX4_reads_274 (by decide) ?_
                        exact hfin _ _ _ _ _ _ hw (s2a hf) (s2b hf) rfl dX4_reads_278
                  · replace hf := if_f c46 hf
                    refine lv_iconst (v := 0) hx hb dX4_reads_240 (by decide) ?_
                    exact hfin _ _ _ _ _ _ hw (s2a hf) (s2b hf) rfl dX4_reads_241
                · replace hf := if_t c41 hf
                  refine lv_iconst (v := 0) hx hb dX4_reads_219 (by decide) ?_
                  exact hfin _ _ _ _ _ _ hw (s2a hf) (s2b hf) rfl dX4_reads_220
              · replace hf := if_f c37 hf
                refine lv_aload_n hx hb dX4_reads_203 rfl (lv_at hl 1 rfl) ?_
                refine lv_iload_n hx hb dX4_reads_204 rfl (lv_at hl 0 rfl) ?_
                refine x_put X hw 5 (Nat.le_of_ble_eq_true rfl) ce5 rfl i_X4 tyX4_ok nmX4 14 (by decide) q604 ⟨rfl, rfl, rfl⟩ rfl pfI rfl rfl (Nat.le_of_ble_eq_true rfl) 1 (ws_1 _) dX4_reads_205 (fun S55 eS55 H locs hw => ?_)
                replace hf := lt_e eS55 hf
                refine lv_iconst (v := 0) hx hb dX4_reads_208 (by decide) ?_
                exact hfin _ _ _ _ _ _ hw (s2a hf) (s2b hf) rfl dX4_reads_209
          · replace hf := if_f c34 hf
            refine lv_iconst (v := 0) hx hb dX4_reads_174 (by decide) ?_
            exact hfin _ _ _ _ _ _ hw (s2a hf) (s2b hf) rfl dX4_reads_175
        · replace hf := if_t c29 hf
          refine lv_iconst (v := 0) hx hb dX4_reads_148 (by decide) ?_
          exact hfin _ _ _ _ _ _ hw (s2a hf) (s2b hf) rfl dX4_reads_149
    · replace hf := if_f c19 hf
      refine lv_iconst (v := 0) hx hb dX4_reads_108 (by decide) ?_
      exact hfin _ _ _ _ _ _ hw (s2a hf) (s2b hf) rfl dX4_reads_109
  unfold f_X4_reads at hf
  refine lv_aload_n hx hb dX4_reads_0 rfl (lv_at hl 0 rfl) ?_
  refine lv_iconst (v := 0) hx hb dX4_reads_1 (by decide) ?_
  refine x_put X hw 5 (Nat.le_of_ble_eq_true rfl) ce5 rfl i_X4 tyX4_ok nmX4 14 (by decide) q604 ⟨rfl, rfl, rfl⟩ rfl pfI rfl rfl (Nat.le_of_ble_eq_true rfl) 1 (ws_1 _) dX4_reads_2 (fun S1 eS1 H locs hw => ?_)
  replace hf := lt_e eS1 hf
  refine lv_aload_n hx hb dX4_reads_5 rfl (lv_at hl 0 rfl) ?_
  refine x_get X hw 5 (Nat.le_of_ble_eq_true rfl) ce5 rfl i_X4 15 (by decide) q605 ⟨rfl, rfl, rfl⟩ rfl dX4_reads_6 ?_
  refine lv_istore_n (lv' := [(1, .int (S1 0 2)), (0, .ref (ad 5))]) hx hb dX4_reads_9 rfl hl (by decide) rfl (fun ls hl => ?_)
  refine lv_aload_n hx hb dX4_reads_10 rfl (lv_at hl 1 rfl) ?_
  refine x_get X hw 5 (Nat.le_of_ble_eq_true rfl) ce5 rfl i_X4 2 (by decide) q592 ⟨rfl, rfl, rfl⟩ rfl dX4_reads_11 ?_
  refine lv_iload_n hx hb dX4_reads_14 rfl (lv_at hl 0 rfl) ?_
  refine lv_aload_n hx hb dX4_reads_15 rfl (lv_at hl 1 rfl) ?_
  obtain ⟨r3, h2, hf⟩ := b1_s hf
  refine kVi X hw (c_X4_sign l D cI cO ad  S1 r3 h2) (Nat.le_of_ble_eq_true rfl) ce5 rfl ⟨rfl, rfl⟩ q701 q703 q36 q64 q704 hd_X4_sign ⟨Nat.le_of_ble_eq_true rfl, Nat.le_of_ble_eq_true rfl⟩ rfl hl.1 rfl (Nat.le_of_ble_eq_true rfl) dX4_reads_16 (fun H locs hw => ?_)
  refine lv_bipush (v := 48) hx hb dX4_reads_19 (by decide +kernel) ?_
  refine lv_isub hx hb dX4_reads_21 ?_
  obtain ⟨h4, hf⟩ := if_s hf
  refine x_iast X hw 3 ⟨Nat.le_of_ble_eq_true rfl, Nat.le_of_ble_eq_true rfl⟩ rfl h4 ((S1 0 2).toNatClampNeg) rfl dX4_reads_22 (fun S5 eS5 H locs hw => ?_)
  replace hf := lt_e eS5 hf
  refine lv_aload_n hx hb dX4_reads_23 rfl (lv_at hl 1 rfl) ?_
  refine x_get X hw 5 (Nat.le_of_ble_eq_true rfl) ce5 rfl i_X4 2 (by decide) q592 ⟨rfl, rfl, rfl⟩ rfl dX4_reads_24 ?_
  refine lv_iload_n hx hb dX4_reads_27 rfl (lv_at hl 0 rfl) ?_
  refine x_iald X hw 3 ⟨Nat.le_of_ble_eq_true rfl, Nat.le_of_ble_eq_true rfl⟩ rfl h4 ((S1 0 2).toNatClampNeg) rfl dX4_reads_28 ?_
  obtain ⟨r7, h6, hf⟩ := b1_s hf
  refine kSi X hw (c_X4_isLand l D cI cO ad (S5 3 ((S1 0 2).toNatClampNeg)) S5 r7 h6) ⟨rfl, rfl⟩ q705 q706 q64 q707 hd_X4_isLand ⟨Nat.le_of_ble_eq_true rfl, Nat.le_of_ble_eq_true rfl⟩ rfl hl.1 rfl (Nat.le_of_ble_eq_true rfl) dX4_reads_29 (fun H locs hw => ?_)
  refine lv_if_ne (tgt := 37) hx hb dX4_reads_32 (by decide) (fun c8 => ?_) (fun c8 => ?_)
  · replace hf := if_f c8 hf
    refine lv_aload_n hx hb dX4_reads_37 rfl (lv_at hl 1 rfl) ?_
    refine lv_dup hx hb dX4_reads_38 rfl ?_
    refine x_get X hw 5 (Nat.le_of_ble_eq_true rfl) ce5 rfl i_X4 14 (by decide) q604 ⟨rfl, rfl, rfl⟩ rfl dX4_reads_39 ?_
    refine lv_iconst (v := 1) hx hb dX4_reads_42 (by decide) ?_
    refine lv_iadd hx hb dX4_reads_43 ?_
    refine x_put X hw 5 (Nat.le_of_ble_eq_true rfl) ce5 rfl i_X4 tyX4_ok nmX4 14 (by decide) q604 ⟨rfl, rfl, rfl⟩ rfl pfI rfl rfl (Nat.le_of_ble_eq_true rfl) 1 (ws_1 _) dX4_reads_44 (fun S9 eS9 H locs hw => ?_)
    replace hf := lt_e eS9 hf
    refine lv_aload_n hx hb dX4_reads_47 rfl (lv_at hl 1 rfl) ?_
    obtain ⟨r11, h10, hf⟩ := b1_s hf
    refine kVi X hw (c_X4_sign l D cI cO ad  S9 r11 h10) (Nat.le_of_ble_eq_true rfl) ce5 rfl ⟨rfl, rfl⟩ q701 q703 q36 q64 q704 hd_X4_sign ⟨Nat.le_of_ble_eq_true rfl, Nat.le_of_ble_eq_true rfl⟩ rfl hl.1 rfl (Nat.le_of_ble_eq_true rfl) dX4_reads_48 (fun H locs hw => ?_)
    refine lv_istore_n (lv' := [(2, .int r11), (1, .int (S1 0 2)), (0, .ref (ad 5))]) hx hb dX4_reads_51 rfl hl (by decide) rfl (fun ls hl => ?_)
    refine lv_aload_n hx hb dX4_reads_52 rfl (lv_at hl 2 rfl) ?_
    refine x_get X hw 5 (Nat.le_of_ble_eq_true rfl) ce5 rfl i_X4 3 (by decide) q593 ⟨rfl, rfl, rfl⟩ rfl dX4_reads_53 ?_
    refine lv_iload_n hx hb dX4_reads_56 rfl (lv_at hl 1 rfl) ?_
    refine lv_iload_n hx hb dX4_reads_57 rfl (lv_at hl 0 rfl) ?_
    refine lv_bipush (v := 115) hx hb dX4_reads_58 (by decide +kernel) ?_
    refine lv_icmp_ne (tgt := 67) hx hb dX4_reads_60 (by decide) (fun c12 => ?_) (fun c12 => ?_)
    · replace hf := if_f c12 hf
      refine lv_iload_n hx hb dX4_reads_67 rfl (lv_at hl 0 rfl) ?_
      refine lv_bipush (v := 102) hx hb dX4_reads_68 (by decide +kernel) ?_
      refine lv_icmp_ne (tgt := 77) hx hb dX4_reads_70 (by decide) (fun c13 => ?_) (fun c13 => ?_)
      · replace hf := if_f c13 hf
        refine lv_iload_n hx hb dX4_reads_77 rfl (lv_at hl 0 rfl) ?_
        refine lv_bipush (v := 97) hx hb dX4_reads_78 (by decide +kernel) ?_
        refine lv_icmp_ne (tgt := 87) hx hb dX4_reads_80 (by decide) (fun c14 => ?_) (fun c14 => ?_)
        · replace hf := if_f c14 hf
          refine lv_iload_n hx hb dX4_reads_87 rfl (lv_at hl 0 rfl) ?_
          refine lv_bipush (v := 98) hx hb dX4_reads_88 (by decide +kernel) ?_
          refine lv_icmp_ne (tgt := 97) hx hb dX4_reads_90 (by decide) (fun c15 => ?_) (fun c15 => ?_)
          · replace hf := if_f c15 hf
            refine lv_iconst (v := -1) hx hb dX4_reads_97 (by decide) ?_
            exact J98 (S1 0 2) (S1 0 2) (-1 : Int32) S9 hf _ _ _ hw (lv_sub hl [2, 1] rfl)
          · replace hf := if_t c15 hf
            refine lv_iconst (v := 3) hx hb dX4_reads_93 (by decide) ?_
            refine lv_goto (tgt := 98) hx hb dX4_reads_94 (by decide) ?_
            exact J98 (S1 0 2) (S1 0 2) (3 : Int32) S9 hf _ _ _ hw (lv_sub hl [2, 1] rfl)
        · replace hf := if_t c14 hf
          refine lv_iconst (v := 2) hx hb dX4_reads_83 (by decide) ?_
          refine lv_goto (tgt := 98) hx hb dX4_reads_84 (by decide) ?_
          exact J98 (S1 0 2) (S1 0 2) (2 : Int32) S9 hf _ _ _ hw (lv_sub hl [2, 1] rfl)
      · replace hf := if_t c13 hf
        refine lv_iconst (v := 1) hx hb dX4_reads_73 (by decide) ?_
        refine lv_goto (tgt := 98) hx hb dX4_reads_74 (by decide) ?_
        exact J98 (S1 0 2) (S1 0 2) (1 : Int32) S9 hf _ _ _ hw (lv_sub hl [2, 1] rfl)
    · replace hf := if_t c12 hf
      refine lv_iconst (v := 0) hx hb dX4_reads_63 (by decide) ?_
      refine lv_goto (tgt := 98) hx hb dX4_reads_64 (by decide) ?_
      exact J98 (S1 0 2) (S1 0 2) (0 : Int32) S9 hf _ _ _ hw (lv_sub hl [2, 1] rfl)
  · replace hf := if_t c8 hf
    refine lv_iconst (v := 0) hx hb dX4_reads_35 (by decide) ?_
    exact hfin _ _ _ _ _ _ hw (s2a hf) (s2b hf) rfl dX4_reads_36
/-- NineLandsModel.spell()I -/
theorem dX4_spell_0 : decode cX4_spell 0 = .ok (.aload_n 0, 1) := by decide +kernel
theorem dX4_spell_1 : decode cX4_spell 1 = .ok (.getfield 102, 3) := by decide +kernel
theorem dX4_spell_4 : decode cX4_spell 4 = .ok (.bipush 20, 2) := by decide +kernel
theorem dX4_spell_6 : decode cX4_spell 6 = .ok (.if_icmp .ne 10, 3) := by decide +kernel
theorem dX4_spell_9 : decode cX4_spell 9 = .ok (.aload_n 0, 1) := by decide +kernel
theorem dX4_spell_10 : decode cX4_spell 10 = .ok (.bipush (-6), 2) := by decide +kernel
theorem dX4_spell_12 : decode cX4_spell 12 = .ok (.invokevirtual 85, 3) := by decide +kernel
theorem dX4_spell_15 : decode cX4_spell 15 = .ok (.ireturn, 1) := by decide +kernel
theorem dX4_spell_16 : decode cX4_spell 16 = .ok (.aload_n 0, 1) := by decide +kernel
theorem dX4_spell_17 : decode cX4_spell 17 = .ok (.invokevirtual 115, 3) := by decide +kernel
theorem dX4_spell_20 : decode cX4_spell 20 = .ok (.istore_n 1, 1) := by decide +kernel
theorem dX4_spell_21 : decode cX4_spell 21 = .ok (.aload_n 0, 1) := by decide +kernel
theorem dX4_spell_22 : decode cX4_spell 22 = .ok (.iconst 0, 1) := by decide +kernel
theorem dX4_spell_23 : decode cX4_spell 23 = .ok (.putfield 82, 3) := by decide +kernel
theorem dX4_spell_26 : decode cX4_spell 26 = .ok (.iload_n 1, 1) := by decide +kernel
theorem dX4_spell_27 : decode cX4_spell 27 = .ok (.ifCond .ne 11, 3) := by decide +kernel
theorem dX4_spell_30 : decode cX4_spell 30 = .ok (.bipush (-20), 2) := by decide +kernel
theorem dX4_spell_32 : decode cX4_spell 32 = .ok (.aload_n 0, 1) := by decide +kernel
theorem dX4_spell_33 : decode cX4_spell 33 = .ok (.getfield 91, 3) := by decide +kernel
theorem dX4_spell_36 : decode cX4_spell 36 = .ok (.isub, 1) := by decide +kernel
theorem dX4_spell_37 : decode cX4_spell 37 = .ok (.ireturn, 1) := by decide +kernel
theorem dX4_spell_38 : decode cX4_spell 38 = .ok (.aload_n 0, 1) := by decide +kernel
theorem dX4_spell_39 : decode cX4_spell 39 = .ok (.getfield 34, 3) := by decide +kernel
theorem dX4_spell_42 : decode cX4_spell 42 = .ok (.aload_n 0, 1) := by decide +kernel
theorem dX4_spell_43 : decode cX4_spell 43 = .ok (.getfield 102, 3) := by decide +kernel
theorem dX4_spell_46 : decode cX4_spell 46 = .ok (.iconst 1, 1) := by decide +kernel
theorem dX4_spell_47 : decode cX4_spell 47 = .ok (.iastore, 1) := by decide +kernel
theorem dX4_spell_48 : decode cX4_spell 48 = .ok (.aload_n 0, 1) := by decide +kernel
theorem dX4_spell_49 : decode cX4_spell 49 = .ok (.dup, 1) := by decide +kernel
theorem dX4_spell_50 : decode cX4_spell 50 = .ok (.getfield 102, 3) := by decide +kernel
theorem dX4_spell_53 : decode cX4_spell 53 = .ok (.iconst 1, 1) := by decide +kernel
theorem dX4_spell_54 : decode cX4_spell 54 = .ok (.iadd, 1) := by decide +kernel
theorem dX4_spell_55 : decode cX4_spell 55 = .ok (.putfield 102, 3) := by decide +kernel
theorem dX4_spell_58 : decode cX4_spell 58 = .ok (.aload_n 0, 1) := by decide +kernel
theorem dX4_spell_59 : decode cX4_spell 59 = .ok (.getfield 102, 3) := by decide +kernel
theorem dX4_spell_62 : decode cX4_spell 62 = .ok (.iconst 1, 1) := by decide +kernel
theorem dX4_spell_63 : decode cX4_spell 63 = .ok (.isub, 1) := by decide +kernel
theorem dX4_spell_64 : decode cX4_spell 64 = .ok (.ireturn, 1) := by decide +kernel
theorem hd_X4_spell : yX4_spell.cls ≠ "java/lang/invoke/MethodHandle" ∧ yX4_spell.cls ≠ "java/lang/invoke/VarHandle" ∧ (parseMethodDescriptor yX4_spell.desc).map (fun d => d.parameters.length) = some 0 := by decide +kernel
def f_X4_spell  (S : vS) : Option (Int32 × vS) := if (S 0 2) = (20 : Int32) then b2 (f_X4_no (-6 : Int32) S) fun r12 S11 => some (r12, S11) else b2 (f_X4_reads  S) fun r4 S3 => lt (upk S3 0 (upd (S3 0) 0 (0 : Int32))) fun S5 => if r4 = 0 then some (((-20 : Int32) - (S5 0 1)), S5) else if inb (S5 0 2) 21 = true then lt (upk S5 9 (upd (S5 9) ((S5 0 2).toNatClampNeg) (1 : Int32))) fun S8 => lt (upk S8 0 (upd (S8 0) 2 ((S8 0 2) + (1 : Int32)))) fun S9 => some (((S9 0 2) - (1 : Int32)), S9) else none
set_option maxHeartbeats 4000000 in
set_option maxRecDepth 20000 in
theorem c_X4_spell (l : Launch) (D : va_G) (cI cO : ClassId) (ad : Nat → Nat)  (S : vS) (R9 : Int32) (S9 : vS) (hf : f_X4_spell  S = some (R9, S9)) : CI l yX4_spell cX4_spell 2 .int ({ frames := 3, cells := 0, slots := 0, locals := 67 }) [.ref (ad 5)] D cI cO ad S R9 S9 := by
  refine CI.of (by decide +kernel) (Nat.le_of_ble_eq_true rfl) (fun p e s m args below meth c Q ls X hl hw hfin => ?_)
  have hl : lv_has ls 2 [(0, .ref (ad 5))] := hl
  have hx := X.1
  have hb := X.2.1
  unfold f_X4_spell at hf
  refine lv_aload_n hx hb dX4_spell_0 rfl (lv_at hl 0 rfl) ?_
  refine x_get X hw 5 (Nat.le_of_ble_eq_true rfl) ce5 rfl i_X4 15 (by decide) q605 ⟨rfl, rfl, rfl⟩ rfl dX4_spell_1 ?_
  refine lv_bipush (v := 20) hx hb dX4_spell_4 (by decide +kernel) ?_
  refine lv_icmp_ne (tgt := 16) hx hb dX4_spell_6 (by decide) (fun c1 => ?_) (fun c1 => ?_)
  · replace hf := if_f c1 hf
    refine lv_aload_n hx hb dX4_spell_16 rfl (lv_at hl 0 rfl) ?_
    obtain ⟨r4, S3, h2, hf⟩ := b2_s hf
    refine kVi X hw (c_X4_reads l D cI cO ad  S r4 S3 h2) (Nat.le_of_ble_eq_true rfl) ce5 rfl ⟨rfl, rfl⟩ q697 q699 q35 q64 q700 hd_X4_reads ⟨Nat.le_of_ble_eq_true rfl, Nat.le_of_ble_eq_true rfl⟩ rfl hl.1 rfl (Nat.le_of_ble_eq_true rfl) dX4_spell_17 (fun H locs hw => ?_)
    refine lv_istore_n (lv' := [(1, .int r4), (0, .ref (ad 5))]) hx hb dX4_spell_20 rfl hl (by decide) rfl (fun ls hl => ?_)
    refine lv_aload_n hx hb dX4_spell_21 rfl (lv_at hl 1 rfl) ?_
    refine lv_iconst (v := 0) hx hb dX4_spell_22 (by decide) ?_
    refine x_put X hw 5 (Nat.le_of_ble_eq_true rfl) ce5 rfl i_X4 tyX4_ok nmX4 13 (by decide) q603 ⟨rfl, rfl, rfl⟩ rfl pfI rfl rfl (Nat.le_of_ble_eq_true rfl) 0 (ws_0 _) dX4_spell_23 (fun S5 eS5 H locs hw => ?_)
    replace hf := lt_e eS5 hf
    refine lv_iload_n hx hb dX4_spell_26 rfl (lv_at hl 0 rfl) ?_
    refine lv_if_ne (tgt := 38) hx hb dX4_spell_27 (by decide) (fun c6 => ?_) (fun c6 => ?_)
    · replace hf := if_f c6 hf
      refine lv_aload_n hx hb dX4_spell_38 rfl (lv_at hl 1 rfl) ?_
      refine x_get X hw 5 (Nat.le_of_ble_eq_true rfl) ce5 rfl i_X4 8 (by decide) q598 ⟨rfl, rfl, rfl⟩ rfl dX4_spell_39 ?_
      refine lv_aload_n hx hb dX4_spell_42 rfl (lv_at hl 1 rfl) ?_
      refine x_get X hw 5 (Nat.le_of_ble_eq_true rfl) ce5 rfl i_X4 15 (by decide) q605 ⟨rfl, rfl, rfl⟩ rfl dX4_spell_43 ?_
      refine lv_iconst (v := 1) hx hb dX4_spell_46 (by decide) ?_
      obtain ⟨h7, hf⟩ := if_s hf
      refine x_iast X hw 9 ⟨Nat.le_of_ble_eq_true rfl, Nat.le_of_ble_eq_true rfl⟩ rfl h7 ((S5 0 2).toNatClampNeg) rfl dX4_spell_47 (fun S8 eS8 H locs hw => ?_)
      replace hf := lt_e eS8 hf
      refine lv_aload_n hx hb dX4_spell_48 rfl (lv_at hl 1 rfl) ?_
      refine lv_dup hx hb dX4_spell_49 rfl ?_
      refine x_get X hw 5 (Nat.le_of_ble_eq_true rfl) ce5 rfl i_X4 15 (by decide) q605 ⟨rfl, rfl, rfl⟩ rfl dX4_spell_50 ?_
      refine lv_iconst (v := 1) hx hb dX4_spell_53 (by decide) ?_
      refine lv_iadd hx hb dX4_spell_54 ?_
      refine x_put X hw 5 (Nat.le_of_ble_eq_true rfl) ce5 rfl i_X4 tyX4_ok nmX4 15 (by decide) q605 ⟨rfl, rfl, rfl⟩ rfl pfI rfl rfl (Nat.le_of_ble_eq_true rfl) 2 (ws_2 _) dX4_spell_55 (fun S9 eS9 H locs hw => ?_)
      replace hf := lt_e eS9 hf
      refine lv_aload_n hx hb dX4_spell_58 rfl (lv_at hl 1 rfl) ?_
      refine x_get X hw 5 (Nat.le_of_ble_eq_true rfl) ce5 rfl i_X4 15 (by decide) q605 ⟨rfl, rfl, rfl⟩ rfl dX4_spell_59 ?_
      refine lv_iconst (v := 1) hx hb dX4_spell_62 (by decide) ?_
      refine lv_isub hx hb dX4_spell_63 ?_
      exact hfin _ _ _ _ _ _ hw (s2a hf) (s2b hf) (narI _) dX4_spell_64
    · replace hf := if_t c6 hf
      refine lv_bipush (v := -20) hx hb dX4_spell_30 (by decide +kernel) ?_
      refine lv_aload_n hx hb dX4_spell_32 rfl (lv_at hl 1 rfl) ?_
      refine x_get X hw 5 (Nat.le_of_ble_eq_true rfl) ce5 rfl i_X4 14 (by decide) q604 ⟨rfl, rfl, rfl⟩ rfl dX4_spell_33 ?_
      refine lv_isub hx hb dX4_spell_36 ?_
      exact hfin _ _ _ _ _ _ hw (s2a hf) (s2b hf) (narI _) dX4_spell_37
  · replace hf := if_t c1 hf
    refine lv_aload_n hx hb dX4_spell_9 rfl (lv_at hl 0 rfl) ?_
    refine lv_bipush (v := -6) hx hb dX4_spell_10 (by decide +kernel) ?_
    obtain ⟨r12, S11, h10, hf⟩ := b2_s hf
    refine kVi X hw (c_X4_no l D cI cO ad (-6 : Int32) S r12 S11 h10) (Nat.le_of_ble_eq_true rfl) ce5 rfl ⟨rfl, rfl⟩ q688 q690 q34 q64 q691 hd_X4_no ⟨Nat.le_of_ble_eq_true rfl, Nat.le_of_ble_eq_true rfl⟩ rfl hl.1 rfl (Nat.le_of_ble_eq_true rfl) dX4_spell_12 (fun H locs hw => ?_)
    exact hfin _ _ _ _ _ _ hw (s2a hf) (s2b hf) (narI _) dX4_spell_15
/-- NineLandsModel.isSpell(I)Z -/
theorem dX4_isSpell_0 : decode cX4_isSpell 0 = .ok (.iload_n 1, 1) := by decide +kernel
theorem dX4_isSpell_1 : decode cX4_isSpell 1 = .ok (.ifCond .lt 15, 3) := by decide +kernel
theorem dX4_isSpell_4 : decode cX4_isSpell 4 = .ok (.iload_n 1, 1) := by decide +kernel
theorem dX4_isSpell_5 : decode cX4_isSpell 5 = .ok (.aload_n 0, 1) := by decide +kernel
theorem dX4_isSpell_6 : decode cX4_isSpell 6 = .ok (.getfield 102, 3) := by decide +kernel
theorem dX4_isSpell_9 : decode cX4_isSpell 9 = .ok (.if_icmp .ge 7, 3) := by decide +kernel
theorem dX4_isSpell_12 : decode cX4_isSpell 12 = .ok (.iconst 1, 1) := by decide +kernel
theorem dX4_isSpell_13 : decode cX4_isSpell 13 = .ok (.goto 4, 3) := by decide +kernel
theorem dX4_isSpell_16 : decode cX4_isSpell 16 = .ok (.iconst 0, 1) := by decide +kernel
theorem dX4_isSpell_17 : decode cX4_isSpell 17 = .ok (.ireturn, 1) := by decide +kernel
theorem hd_X4_isSpell : yX4_isSpell.cls ≠ "java/lang/invoke/MethodHandle" ∧ yX4_isSpell.cls ≠ "java/lang/invoke/VarHandle" ∧ (parseMethodDescriptor yX4_isSpell.desc).map (fun d => d.parameters.length) = some 1 := by decide +kernel
def f_X4_isSpell (a1 : Int32) (S : vS) : Option Int32 := if a1 < 0 then some (0 : Int32) else if (S 0 2) ≤ a1 then some (0 : Int32) else some (1 : Int32)
set_option maxHeartbeats 4000000 in
set_option maxRecDepth 20000 in
theorem c_X4_isSpell (l : Launch) (D : va_G) (cI cO : ClassId) (ad : Nat → Nat) (a1 : Int32) (S : vS) (R9 : Int32) (hf : f_X4_isSpell a1 S = some R9) : CI l yX4_isSpell cX4_isSpell 2 .boolean ({ frames := 0, cells := 0, slots := 0, locals := 0 }) [.ref (ad 5), .int a1] D cI cO ad S R9 S := by
  refine CI.of (by decide +kernel) (Nat.le_of_ble_eq_true rfl) (fun p e s m args below meth c Q ls X hl hw hfin => ?_)
  have hl : lv_has ls 2 [(0, .ref (ad 5)), (1, .int a1)] := hl
  have hx := X.1
  have hb := X.2.1
  unfold f_X4_isSpell at hf
  refine lv_iload_n hx hb dX4_isSpell_0 rfl (lv_at hl 1 rfl) ?_
  refine lv_if_lt (tgt := 16) hx hb dX4_isSpell_1 (by decide) (fun c1 => ?_) (fun c1 => ?_)
  · replace hf := if_t c1 hf
    refine lv_iconst (v := 0) hx hb dX4_isSpell_16 (by decide) ?_
    exact hfin _ _ _ _ _ _ hw (Option.some.inj hf) rfl rfl dX4_isSpell_17
  · replace hf := if_f c1 hf
    refine lv_iload_n hx hb dX4_isSpell_4 rfl (lv_at hl 1 rfl) ?_
    refine lv_aload_n hx hb dX4_isSpell_5 rfl (lv_at hl 0 rfl) ?_
    refine x_get X hw 5 (Nat.le_of_ble_eq_true rfl) ce5 rfl i_X4 15 (by decide) q605 ⟨rfl, rfl, rfl⟩ rfl dX4_isSpell_6 ?_
    refine lv_icmp_ge (tgt := 16) hx hb dX4_isSpell_9 (by decide) (fun c2 => ?_) (fun c2 => ?_)
    · replace hf := if_t c2 hf
      refine lv_iconst (v := 0) hx hb dX4_isSpell_16 (by decide) ?_
      exact hfin _ _ _ _ _ _ hw (Option.some.inj hf) rfl rfl dX4_isSpell_17
    · replace hf := if_f c2 hf
      refine lv_iconst (v := 1) hx hb dX4_isSpell_12 (by decide) ?_
      refine lv_goto (tgt := 17) hx hb dX4_isSpell_13 (by decide) ?_
      exact hfin _ _ _ _ _ _ hw (Option.some.inj hf) rfl rfl dX4_isSpell_17
/-- NineLandsModel.spellOf(II)I -/
theorem dX4_spellOf_0 : decode cX4_spellOf 0 = .ok (.aload_n 0, 1) := by decide +kernel
theorem dX4_spellOf_1 : decode cX4_spellOf 1 = .ok (.iload_n 1, 1) := by decide +kernel
theorem dX4_spellOf_2 : decode cX4_spellOf 2 = .ok (.invokevirtual 119, 3) := by decide +kernel
theorem dX4_spellOf_5 : decode cX4_spellOf 5 = .ok (.ifCond .ne 9, 3) := by decide +kernel
theorem dX4_spellOf_8 : decode cX4_spellOf 8 = .ok (.aload_n 0, 1) := by decide +kernel
theorem dX4_spellOf_9 : decode cX4_spellOf 9 = .ok (.iconst (-1), 1) := by decide +kernel
theorem dX4_spellOf_10 : decode cX4_spellOf 10 = .ok (.invokevirtual 85, 3) := by decide +kernel
theorem dX4_spellOf_13 : decode cX4_spellOf 13 = .ok (.ireturn, 1) := by decide +kernel
theorem dX4_spellOf_14 : decode cX4_spellOf 14 = .ok (.iload_n 2, 1) := by decide +kernel
theorem dX4_spellOf_15 : decode cX4_spellOf 15 = .ok (.tableswitch 90 0 6 #[41, 48, 55, 62, 69, 76, 83], 41) := by decide +kernel
theorem dX4_spellOf_56 : decode cX4_spellOf 56 = .ok (.aload_n 0, 1) := by decide +kernel
theorem dX4_spellOf_57 : decode cX4_spellOf 57 = .ok (.getfield 16, 3) := by decide +kernel
theorem dX4_spellOf_60 : decode cX4_spellOf 60 = .ok (.iload_n 1, 1) := by decide +kernel
theorem dX4_spellOf_61 : decode cX4_spellOf 61 = .ok (.iaload, 1) := by decide +kernel
theorem dX4_spellOf_62 : decode cX4_spellOf 62 = .ok (.ireturn, 1) := by decide +kernel
theorem dX4_spellOf_63 : decode cX4_spellOf 63 = .ok (.aload_n 0, 1) := by decide +kernel
theorem dX4_spellOf_64 : decode cX4_spellOf 64 = .ok (.getfield 19, 3) := by decide +kernel
theorem dX4_spellOf_67 : decode cX4_spellOf 67 = .ok (.iload_n 1, 1) := by decide +kernel
theorem dX4_spellOf_68 : decode cX4_spellOf 68 = .ok (.iaload, 1) := by decide +kernel
theorem dX4_spellOf_69 : decode cX4_spellOf 69 = .ok (.ireturn, 1) := by decide +kernel
theorem dX4_spellOf_70 : decode cX4_spellOf 70 = .ok (.aload_n 0, 1) := by decide +kernel
theorem dX4_spellOf_71 : decode cX4_spellOf 71 = .ok (.getfield 22, 3) := by decide +kernel
theorem dX4_spellOf_74 : decode cX4_spellOf 74 = .ok (.iload_n 1, 1) := by decide +kernel
theorem dX4_spellOf_75 : decode cX4_spellOf 75 = .ok (.iaload, 1) := by decide +kernel
theorem dX4_spellOf_76 : decode cX4_spellOf 76 = .ok (.ireturn, 1) := by decide +kernel
theorem dX4_spellOf_77 : decode cX4_spellOf 77 = .ok (.aload_n 0, 1) := by decide +kernel
theorem dX4_spellOf_78 : decode cX4_spellOf 78 = .ok (.getfield 25, 3) := by decide +kernel
theorem dX4_spellOf_81 : decode cX4_spellOf 81 = .ok (.iload_n 1, 1) := by decide +kernel
theorem dX4_spellOf_82 : decode cX4_spellOf 82 = .ok (.iaload, 1) := by decide +kernel
theorem dX4_spellOf_83 : decode cX4_spellOf 83 = .ok (.ireturn, 1) := by decide +kernel
theorem dX4_spellOf_84 : decode cX4_spellOf 84 = .ok (.aload_n 0, 1) := by decide +kernel
theorem dX4_spellOf_85 : decode cX4_spellOf 85 = .ok (.getfield 28, 3) := by decide +kernel
theorem dX4_spellOf_88 : decode cX4_spellOf 88 = .ok (.iload_n 1, 1) := by decide +kernel
theorem dX4_spellOf_89 : decode cX4_spellOf 89 = .ok (.iaload, 1) := by decide +kernel
theorem dX4_spellOf_90 : decode cX4_spellOf 90 = .ok (.ireturn, 1) := by decide +kernel
theorem dX4_spellOf_91 : decode cX4_spellOf 91 = .ok (.aload_n 0, 1) := by decide +kernel
theorem dX4_spellOf_92 : decode cX4_spellOf 92 = .ok (.getfield 31, 3) := by decide +kernel
theorem dX4_spellOf_95 : decode cX4_spellOf 95 = .ok (.iload_n 1, 1) := by decide +kernel
theorem dX4_spellOf_96 : decode cX4_spellOf 96 = .ok (.iaload, 1) := by decide +kernel
theorem dX4_spellOf_97 : decode cX4_spellOf 97 = .ok (.ireturn, 1) := by decide +kernel
theorem dX4_spellOf_98 : decode cX4_spellOf 98 = .ok (.aload_n 0, 1) := by decide +kernel
theorem dX4_spellOf_99 : decode cX4_spellOf 99 = .ok (.getfield 34, 3) := by decide +kernel
theorem dX4_spellOf_102 : decode cX4_spellOf 102 = .ok (.iload_n 1, 1) := by decide +kernel
theorem dX4_spellOf_103 : decode cX4_spellOf 103 = .ok (.iaload, 1) := by decide +kernel
theorem dX4_spellOf_104 : decode cX4_spellOf 104 = .ok (.ireturn, 1) := by decide +kernel
theorem dX4_spellOf_105 : decode cX4_spellOf 105 = .ok (.aload_n 0, 1) := by decide +kernel
theorem dX4_spellOf_106 : decode cX4_spellOf 106 = .ok (.bipush (-2), 2) := by decide +kernel
theorem dX4_spellOf_108 : decode cX4_spellOf 108 = .ok (.invokevirtual 85, 3) := by decide +kernel
theorem dX4_spellOf_111 : decode cX4_spellOf 111 = .ok (.ireturn, 1) := by decide +kernel
theorem hd_X4_spellOf : yX4_spellOf.cls ≠ "java/lang/invoke/MethodHandle" ∧ yX4_spellOf.cls ≠ "java/lang/invoke/VarHandle" ∧ (parseMethodDescriptor yX4_spellOf.desc).map (fun d => d.parameters.length) = some 2 := by decide +kernel
def f_X4_spellOf (a1 : Int32) (a2 : Int32) (S : vS) : Option (Int32 × vS) := b1 (f_X4_isSpell a1 S) fun r2 => if r2 = 0 then b2 (f_X4_no (-1 : Int32) S) fun r23 S22 => some (r23, S22) else if a2 = (0 : Int32) then if inb a1 21 = true then some ((S 3 (a1.toNatClampNeg)), S) else none else if a2 = (1 : Int32) then if inb a1 21 = true then some ((S 4 (a1.toNatClampNeg)), S) else none else if a2 = (2 : Int32) then if inb a1 21 = true then some ((S 5 (a1.toNatClampNeg)), S) else none else if a2 = (3 : Int32) then if inb a1 21 = true then some ((S 6 (a1.toNatClampNeg)), S) else none else if a2 = (4 : Int32) then if inb a1 21 = true then some ((S 7 (a1.toNatClampNeg)), S) else none else if a2 = (5 : Int32) then if inb a1 21 = true then some ((S 8 (a1.toNatClampNeg)), S) else none else if a2 = (6 : Int32) then if inb a1 21 = true then some ((S 9 (a1.toNatClampNeg)), S) else none else b2 (f_X4_no (-2 : Int32) S) fun r20 S19 => some (r20, S19)
set_option maxHeartbeats 4000000 in
set_option maxRecDepth 20000 in
theorem c_X4_spellOf (l : Launch) (D : va_G) (cI cO : ClassId) (ad : Nat → Nat) (a1 : Int32) (a2 : Int32) (S : vS) (R9 : Int32) (S9 : vS) (hf : f_X4_spellOf a1 a2 S = some (R9, S9)) : CI l yX4_spellOf cX4_spellOf 3 .int ({ frames := 1, cells := 0, slots := 0, locals := 21 }) [.ref (ad 5), .int a1, .int a2] D cI cO ad S R9 S9 := by
  refine CI.of (by decide +kernel) (Nat.le_of_ble_eq_true rfl) (fun p e s m args below meth c Q ls X hl hw hfin => ?_)
  have hl : lv_has ls 3 [(0, .ref (ad 5)), (1, .int a1), (2, .int a2)] := hl
  have hx := X.1
  have hb := X.2.1
  unfold f_X4_spellOf at hf
  refine lv_aload_n hx hb dX4_spellOf_0 rfl (lv_at hl 0 rfl) ?_
  refine lv_iload_n hx hb dX4_spellOf_1 rfl (lv_at hl 1 rfl) ?_
  obtain ⟨r2, h1, hf⟩ := b1_s hf
  refine kVi X hw (c_X4_isSpell l D cI cO ad a1 S r2 h1) (Nat.le_of_ble_eq_true rfl) ce5 rfl ⟨rfl, rfl⟩ q723 q725 q39 q64 q726 hd_X4_isSpell ⟨Nat.le_of_ble_eq_true rfl, Nat.le_of_ble_eq_true rfl⟩ rfl hl.1 rfl (Nat.le_of_ble_eq_true rfl) dX4_spellOf_2 (fun H locs hw => ?_)
  refine lv_if_ne (tgt := 14) hx hb dX4_spellOf_5 (by decide) (fun c3 => ?_) (fun c3 => ?_)
  · replace hf := if_f c3 hf
    refine lv_iload_n hx hb dX4_spellOf_14 rfl (lv_at hl 2 rfl) ?_
    by_cases c4 : a2 = (0 : Int32)
    · replace hf := if_t c4 hf
      refine lv_tableIn (off := 41) (tgt := 56) hx hb dX4_spellOf_15 (by rw [c4]; decide) (by rw [c4]; decide) (by rw [c4]; rfl) (by decide) ?_
      refine lv_aload_n hx hb dX4_spellOf_56 rfl (lv_at hl 0 rfl) ?_
      refine x_get X hw 5 (Nat.le_of_ble_eq_true rfl) ce5 rfl i_X4 2 (by decide) q592 ⟨rfl, rfl, rfl⟩ rfl dX4_spellOf_57 ?_
      refine lv_iload_n hx hb dX4_spellOf_60 rfl (lv_at hl 1 rfl) ?_
      obtain ⟨h5, hf⟩ := if_s hf
      refine x_iald X hw 3 ⟨Nat.le_of_ble_eq_true rfl, Nat.le_of_ble_eq_true rfl⟩ rfl h5 (a1.toNatClampNeg) rfl dX4_spellOf_61 ?_
      exact hfin _ _ _ _ _ _ hw (s2a hf) (s2b hf) (narI _) dX4_spellOf_62
    · replace hf := if_f c4 hf
      by_cases c6 : a2 = (1 : Int32)
      · replace hf := if_t c6 hf
        refine lv_tableIn (off := 48) (tgt := 63) hx hb dX4_spellOf_15 (by rw [c6]; decide) (by rw [c6]; decide) (by rw [c6]; rfl) (by decide) ?_
        refine lv_aload_n hx hb dX4_spellOf_63 rfl (lv_at hl 0 rfl) ?_
        refine x_get X hw 5 (Nat.le_of_ble_eq_true rfl) ce5 rfl i_X4 3 (by decide) q593 ⟨rfl, rfl, rfl⟩ rfl dX4_spellOf_64 ?_
        refine lv_iload_n hx hb dX4_spellOf_67 rfl (lv_at hl 1 rfl) ?_
        obtain ⟨h7, hf⟩ := if_s hf
        refine x_iald X hw 4 ⟨Nat.le_of_ble_eq_true rfl, Nat.le_of_ble_eq_true rfl⟩ rfl h7 (a1.toNatClampNeg) rfl dX4_spellOf_68 ?_
        exact hfin _ _ _ _ _ _ hw (s2a hf) (s2b hf) (narI _) dX4_spellOf_69
      · replace hf := if_f c6 hf
        by_cases c8 : a2 = (2 : Int32)
        · replace hf := if_t c8 hf
          refine lv_tableIn (off := 55) (tgt := 70) hx hb dX4_spellOf_15 (by rw [c8]; decide) (by rw [c8]; decide) (by rw [c8]; rfl) (by decide) ?_
          refine lv_aload_n hx hb dX4_spellOf_70 rfl (lv_at hl 0 rfl) ?_
          refine x_get X hw 5 (Nat.le_of_ble_eq_true rfl) ce5 rfl i_X4 4 (by decide) q594 ⟨rfl, rfl, rfl⟩ rfl dX4_spellOf_71 ?_
          refine lv_iload_n hx hb dX4_spellOf_74 rfl (lv_at hl 1 rfl) ?_
          obtain ⟨h9, hf⟩ := if_s hf
          refine x_iald X hw 5 ⟨Nat.le_of_ble_eq_true rfl, Nat.le_of_ble_eq_true rfl⟩ rfl h9 (a1.toNatClampNeg) rfl dX4_spellOf_75 ?_
          exact hfin _ _ _ _ _ _ hw (s2a hf) (s2b hf) (narI _) dX4_spellOf_76
        · replace hf := if_f c8 hf
          by_cases c10 : a2 = (3 : Int32)
          · replace hf := if_t c10 hf
            refine lv_tableIn (off := 62) (tgt := 77) hx hb dX4_spellOf_15 (by rw [c10]; decide) (by rw [c10]; decide) (by rw [c10]; rfl) (by decide) ?_
            refine lv_aload_n hx hb dX4_spellOf_77 rfl (lv_at hl 0 rfl) ?_
            refine x_get X hw 5 (Nat.le_of_ble_eq_true rfl) ce5 rfl i_X4 5 (by decide) q595 ⟨rfl, rfl, rfl⟩ rfl dX4_spellOf_78 ?_
            refine lv_iload_n hx hb dX4_spellOf_81 rfl (lv_at hl 1 rfl) ?_
            obtain ⟨h11, hf⟩ := if_s hf
            refine x_iald X hw 6 ⟨Nat.le_of_ble_eq_true rfl, Nat.le_of_ble_eq_true rfl⟩ rfl h11 (a1.toNatClampNeg) rfl dX4_spellOf_82 ?_
            exact hfin _ _ _ _ _ _ hw (s2a hf) (s2b hf) (narI _) dX4_spellOf_83
          · replace hf := if_f c10 hf
            by_cases c12 : a2 = (4 : Int32)
            · replace hf := if_t c12 hf
              refine lv_tableIn (off := 69) (tgt := 84) hx hb dX4_spellOf_15 (by rw [c12]; decide) (by rw [c12]; decide) (by rw [c12]; rfl) (by decide) ?_
              refine lv_aload_n hx hb dX4_spellOf_84 rfl (lv_at hl 0 rfl) ?_
              refine x_get X hw 5 (Nat.le_of_ble_eq_true rfl) ce5 rfl i_X4 6 (by decide) q596 ⟨rfl, rfl, rfl⟩ rfl dX4_spellOf_85 ?_
              refine lv_iload_n hx hb dX4_spellOf_88 rfl (lv_at hl 1 rfl) ?_
              obtain ⟨h13, hf⟩ := if_s hf
              refine x_iald X hw 7 ⟨Nat.le_of_ble_eq_true rfl, Nat.le_of_ble_eq_true rfl⟩ rfl h13 (a1.toNatClampNeg) rfl dX4_spellOf_89 ?_
              exact hfin _ _ _ _ _ _ hw (s2a hf) (s2b hf) (narI _) dX4_spellOf_90
            · replace hf := if_f c12 hf
              by_cases c14 : a2 = (5 : Int32)
              · replace hf := if_t c14 hf
                refine lv_tableIn (off := 76) (tgt := 91) hx hb dX4_spellOf_15 (by rw [c14]; decide) (by rw [c14]; decide) (by rw [c14]; rfl) (by decide) ?_
                refine lv_aload_n hx hb dX4_spellOf_91 rfl (lv_at hl 0 rfl) ?_
                refine x_get X hw 5 (Nat.le_of_ble_eq_true rfl) ce5 rfl i_X4 7 (by decide) q597 ⟨rfl, rfl, rfl⟩ rfl dX4_spellOf_92 ?_
                refine lv_iload_n hx hb dX4_spellOf_95 rfl (lv_at hl 1 rfl) ?_
                obtain ⟨h15, hf⟩ := if_s hf
                refine x_iald X hw 8 ⟨Nat.le_of_ble_eq_true rfl, Nat.le_of_ble_eq_true rfl⟩ rfl h15 (a1.toNatClampNeg) rfl dX4_spellOf_96 ?_
                exact hfin _ _ _ _ _ _ hw (s2a hf) (s2b hf) (narI _) dX4_spellOf_97
              · replace hf := if_f c14 hf
                by_cases c16 : a2 = (6 : Int32)
                · replace hf := if_t c16 hf
                  refine lv_tableIn (off := 83) (tgt := 98) hx hb dX4_spellOf_15 (by rw [c16]; decide) (by rw [c16]; decide) (by rw [c16]; rfl) (by decide) ?_
                  refine lv_aload_n hx hb dX4_spellOf_98 rfl (lv_at hl 0 rfl) ?_
                  refine x_get X hw 5 (Nat.le_of_ble_eq_true rfl) ce5 rfl i_X4 8 (by decide) q598 ⟨rfl, rfl, rfl⟩ rfl dX4_spellOf_99 ?_
                  refine lv_iload_n hx hb dX4_spellOf_102 rfl (lv_at hl 1 rfl) ?_
                  obtain ⟨h17, hf⟩ := if_s hf
                  refine x_iald X hw 9 ⟨Nat.le_of_ble_eq_true rfl, Nat.le_of_ble_eq_true rfl⟩ rfl h17 (a1.toNatClampNeg) rfl dX4_spellOf_103 ?_
                  exact hfin _ _ _ _ _ _ hw (s2a hf) (s2b hf) (narI _) dX4_spellOf_104
                · replace hf := if_f c16 hf
                  have nc4 : ¬ (a2).toInt = 0 := lv_neT c4 (by decide)
                  have nc6 : ¬ (a2).toInt = 1 := lv_neT c6 (by decide)
                  have nc8 : ¬ (a2).toInt = 2 := lv_neT c8 (by decide)
                  have nc10 : ¬ (a2).toInt = 3 := lv_neT c10 (by decide)
                  have nc12 : ¬ (a2).toInt = 4 := lv_neT c12 (by decide)
                  have nc14 : ¬ (a2).toInt = 5 := lv_neT c14 (by decide)
                  have nc16 : ¬ (a2).toInt = 6 := lv_neT c16 (by decide)
                  refine lv_tableOut (tgt := 105) hx hb dX4_spellOf_15 (by omega) (by decide) ?_
                  refine lv_aload_n hx hb dX4_spellOf_105 rfl (lv_at hl 0 rfl) ?_
                  refine lv_bipush (v := -2) hx hb dX4_spellOf_106 (by decide +kernel) ?_
                  obtain ⟨r20, S19, h18, hf⟩ := b2_s hf
                  refine kVi X hw (c_X4_no l D cI cO ad (-2 : Int32) S r20 S19 h18) (Nat.le_of_ble_eq_true rfl) ce5 rfl ⟨rfl, rfl⟩ q688 q690 q34 q64 q691 hd_X4_no ⟨Nat.le_of_ble_eq_true rfl, Nat.le_of_ble_eq_true rfl⟩ rfl hl.1 rfl (Nat.le_of_ble_eq_true rfl) dX4_spellOf_108 (fun H locs hw => ?_)
                  exact hfin _ _ _ _ _ _ hw (s2a hf) (s2b hf) (narI _) dX4_spellOf_111
  · replace hf := if_t c3 hf
    refine lv_aload_n hx hb dX4_spellOf_8 rfl (lv_at hl 0 rfl) ?_
    refine lv_iconst (v := -1) hx hb dX4_spellOf_9 (by decide) ?_
    obtain ⟨r23, S22, h21, hf⟩ := b2_s hf
    refine kVi X hw (c_X4_no l D cI cO ad (-1 : Int32) S r23 S22 h21) (Nat.le_of_ble_eq_true rfl) ce5 rfl ⟨rfl, rfl⟩ q688 q690 q34 q64 q691 hd_X4_no ⟨Nat.le_of_ble_eq_true rfl, Nat.le_of_ble_eq_true rfl⟩ rfl hl.1 rfl (Nat.le_of_ble_eq_true rfl) dX4_spellOf_10 (fun H locs hw => ?_)
    exact hfin _ _ _ _ _ _ hw (s2a hf) (s2b hf) (narI _) dX4_spellOf_13
/-- NineLandsModel.show(IZ)I -/
theorem dX4_show_0 : decode cX4_show 0 = .ok (.aload_n 0, 1) := by decide +kernel
theorem dX4_show_1 : decode cX4_show 1 = .ok (.iload_n 1, 1) := by decide +kernel
theorem dX4_show_2 : decode cX4_show 2 = .ok (.invokevirtual 119, 3) := by decide +kernel
theorem dX4_show_5 : decode cX4_show 5 = .ok (.ifCond .ne 9, 3) := by decide +kernel
theorem dX4_show_8 : decode cX4_show 8 = .ok (.aload_n 0, 1) := by decide +kernel
theorem dX4_show_9 : decode cX4_show 9 = .ok (.iconst (-1), 1) := by decide +kernel
theorem dX4_show_10 : decode cX4_show 10 = .ok (.invokevirtual 85, 3) := by decide +kernel
theorem dX4_show_13 : decode cX4_show 13 = .ok (.ireturn, 1) := by decide +kernel
theorem dX4_show_14 : decode cX4_show 14 = .ok (.aload_n 0, 1) := by decide +kernel
theorem dX4_show_15 : decode cX4_show 15 = .ok (.getfield 34, 3) := by decide +kernel
theorem dX4_show_18 : decode cX4_show 18 = .ok (.iload_n 1, 1) := by decide +kernel
theorem dX4_show_19 : decode cX4_show 19 = .ok (.iaload, 1) := by decide +kernel
theorem dX4_show_20 : decode cX4_show 20 = .ok (.iconst 1, 1) := by decide +kernel
theorem dX4_show_21 : decode cX4_show 21 = .ok (.if_icmp .ne 7, 3) := by decide +kernel
theorem dX4_show_24 : decode cX4_show 24 = .ok (.iconst 1, 1) := by decide +kernel
theorem dX4_show_25 : decode cX4_show 25 = .ok (.goto 4, 3) := by decide +kernel
theorem dX4_show_28 : decode cX4_show 28 = .ok (.iconst 0, 1) := by decide +kernel
theorem dX4_show_29 : decode cX4_show 29 = .ok (.iload_n 2, 1) := by decide +kernel
theorem dX4_show_30 : decode cX4_show 30 = .ok (.if_icmp .ne 5, 3) := by decide +kernel
theorem dX4_show_33 : decode cX4_show 33 = .ok (.iconst 0, 1) := by decide +kernel
theorem dX4_show_34 : decode cX4_show 34 = .ok (.ireturn, 1) := by decide +kernel
theorem dX4_show_35 : decode cX4_show 35 = .ok (.aload_n 0, 1) := by decide +kernel
theorem dX4_show_36 : decode cX4_show 36 = .ok (.getfield 34, 3) := by decide +kernel
theorem dX4_show_39 : decode cX4_show 39 = .ok (.iload_n 1, 1) := by decide +kernel
theorem dX4_show_40 : decode cX4_show 40 = .ok (.iload_n 2, 1) := by decide +kernel
theorem dX4_show_41 : decode cX4_show 41 = .ok (.ifCond .eq 7, 3) := by decide +kernel
theorem dX4_show_44 : decode cX4_show 44 = .ok (.iconst 1, 1) := by decide +kernel
theorem dX4_show_45 : decode cX4_show 45 = .ok (.goto 4, 3) := by decide +kernel
theorem dX4_show_48 : decode cX4_show 48 = .ok (.iconst 0, 1) := by decide +kernel
theorem dX4_show_49 : decode cX4_show 49 = .ok (.iastore, 1) := by decide +kernel
theorem dX4_show_50 : decode cX4_show 50 = .ok (.iconst 1, 1) := by decide +kernel
theorem dX4_show_51 : decode cX4_show 51 = .ok (.ireturn, 1) := by decide +kernel
theorem hd_X4_show : yX4_show.cls ≠ "java/lang/invoke/MethodHandle" ∧ yX4_show.cls ≠ "java/lang/invoke/VarHandle" ∧ (parseMethodDescriptor yX4_show.desc).map (fun d => d.parameters.length) = some 2 := by decide +kernel
def f_X4_show_J29 (x1 : Int32) (x2 : Int32) (k0 : Int32) (S : vS) : Option (Int32 × vS) := if k0 = x2 then some ((0 : Int32), S) else if x2 = 0 then if inb x1 21 = true then lt (upk S 9 (upd (S 9) (x1.toNatClampNeg) (0 : Int32))) fun S9 => some ((1 : Int32), S9) else none else if inb x1 21 = true then lt (upk S 9 (upd (S 9) (x1.toNatClampNeg) (1 : Int32))) fun S11 => some ((1 : Int32), S11) else none
def f_X4_show (a1 : Int32) (a2 : Int32) (S : vS) : Option (Int32 × vS) := b1 (f_X4_isSpell a1 S) fun r2 => if r2 = 0 then b2 (f_X4_no (-1 : Int32) S) fun r14 S13 => some (r14, S13) else if inb a1 21 = true then if (S 9 (a1.toNatClampNeg)) = (1 : Int32) then f_X4_show_J29 a1 a2 (1 : Int32) S else f_X4_show_J29 a1 a2 (0 : Int32) S else none
set_option maxHeartbeats 4000000 in
set_option maxRecDepth 20000 in
theorem c_X4_show (l : Launch) (D : va_G) (cI cO : ClassId) (ad : Nat → Nat) (a1 : Int32) (a2 : Int32) (S : vS) (R9 : Int32) (S9 : vS) (hf : f_X4_show a1 a2 S = some (R9, S9)) : CI l yX4_show cX4_show 3 .int ({ frames := 1, cells := 0, slots := 0, locals := 21 }) [.ref (ad 5), .int a1, .int a2] D cI cO ad S R9 S9 := by
  refine CI.of (by decide +kernel) (Nat.le_of_ble_eq_true rfl) (fun p e s m args below meth c Q ls X hl hw hfin => ?_)
  have hl : lv_has ls 3 [(0, .ref (ad 5)), (1, .int a1), (2, .int a2)] := hl
  have hx := X.1
  have hb := X.2.1
  have J29 : ∀ (x1 : Int32) (x2 : Int32) (k0 : Int32) (S : vS), f_X4_show_J29 x1 x2 k0 S = some (R9, S9) → ∀ (H : Heap) (locs : List Loc) (ls : Array Slot), WD D cI cO ad s S H locs → lv_has ls 3 [(0, .ref (ad 5)), (1, .int x1), (2, .int x2)] → W p l e ({ frames := 1, cells := 0, slots := 0, locals := 21 }) s m args below meth c H locs 0 0 Q (F0 m 29 ls [.int k0]) := by
    intro x1 x2 k0 S hf H locs ls hw hl
    unfold f_X4_show_J29 at hf
    refine lv_iload_n hx hb dX4_show_29 rfl (lv_at hl 2 rfl) ?_
    refine lv_icmp_ne (tgt := 35) hx hb dX4_show_30 (by decide) (fun c6 => ?_) (fun c6 => ?_)
    · replace hf := if_f c6 hf
      refine lv_aload_n hx hb dX4_show_35 rfl (lv_at hl 0 rfl) ?_
      refine x_get X hw 5 (Nat.le_of_ble_eq_true rfl) ce5 rfl i_X4 8 (by decide) q598 ⟨rfl, rfl, rfl⟩ rfl dX4_show_36 ?_
      refine lv_iload_n hx hb dX4_show_39 rfl (lv_at hl 1 rfl) ?_
      refine lv_iload_n hx hb dX4_show_40 rfl (lv_at hl 2 rfl) ?_
      refine lv_if_eq (tgt := 48) hx hb dX4_show_41 (by decide) (fun c7 => ?_) (fun c7 => ?_)
      · replace hf := if_t c7 hf
        refine lv_iconst (v := 0) hx hb dX4_show_48 (by decide) ?_
        obtain ⟨h8, hf⟩ := if_s hf
        refine x_iast X hw 9 ⟨Nat.le_of_ble_eq_true rfl, Nat.le_of_ble_eq_true rfl⟩ rfl h8 (x1.toNatClampNeg) rfl dX4_show_49 (fun S9 eS9 H locs hw => ?_)
        replace hf := lt_e eS9 hf
        refine lv_iconst (v := 1) hx hb dX4_show_50 (by decide) ?_
        exact hfin _ _ _ _ _ _ hw (s2a hf) (s2b hf) (narI _) dX4_show_51
      · replace hf := if_f c7 hf
        refine lv_iconst (v := 1) hx hb dX4_show_44 (by decide) ?_
        refine lv_goto (tgt := 49) hx hb dX4_show_45 (by decide) ?_
        obtain ⟨h10, hf⟩ := if_s hf
        refine x_iast X hw 9 ⟨Nat.le_of_ble_eq_true rfl, Nat.le_of_ble_eq_true rfl⟩ rfl h10 (x1.toNatClampNeg) rfl dX4_show_49 (fun S11 eS11 H locs hw => ?_)
        replace hf := lt_e eS11 hf
        refine lv_iconst (v := 1) hx hb dX4_show_50 (by decide) ?_
        exact hfin _ _ _ _ _ _ hw (s2a hf) (s2b hf) (narI _) dX4_show_51
    · replace hf := if_t c6 hf
      refine lv_iconst (v := 0) hx hb dX4_show_33 (by decide) ?_
      exact hfin _ _ _ _ _ _ hw (s2a hf) (s2b hf) (narI _) dX4_show_34
  unfold f_X4_show at hf
  refine lv_aload_n hx hb dX4_show_0 rfl (lv_at hl 0 rfl) ?_
  refine lv_iload_n hx hb dX4_show_1 rfl (lv_at hl 1 rfl) ?_
  obtain ⟨r2, h1, hf⟩ := b1_s hf
  refine kVi X hw (c_X4_isSpell l D cI cO ad a1 S r2 h1) (Nat.le_of_ble_eq_true rfl) ce5 rfl ⟨rfl, rfl⟩ q723 q725 q39 q64 q726 hd_X4_isSpell ⟨Nat.le_of_ble_eq_true rfl, Nat.le_of_ble_eq_true rfl⟩ rfl hl.1 rfl (Nat.le_of_ble_eq_true rfl) dX4_show_2 (fun H locs hw => ?_)
  refine lv_if_ne (tgt := 14) hx hb dX4_show_5 (by decide) (fun c3 => ?_) (fun c3 => ?_)
  · replace hf := if_f c3 hf
    refine lv_aload_n hx hb dX4_show_14 rfl (lv_at hl 0 rfl) ?_
    refine x_get X hw 5 (Nat.le_of_ble_eq_true rfl) ce5 rfl i_X4 8 (by decide) q598 ⟨rfl, rfl, rfl⟩ rfl dX4_show_15 ?_
    refine lv_iload_n hx hb dX4_show_18 rfl (lv_at hl 1 rfl) ?_
    obtain ⟨h4, hf⟩ := if_s hf
    refine x_iald X hw 9 ⟨Nat.le_of_ble_eq_true rfl, Nat.le_of_ble_eq_true rfl⟩ rfl h4 (a1.toNatClampNeg) rfl dX4_show_19 ?_
    refine lv_iconst (v := 1) hx hb dX4_show_20 (by decide) ?_
    refine lv_icmp_ne (tgt := 28) hx hb dX4_show_21 (by decide) (fun c5 => ?_) (fun c5 => ?_)
    · replace hf := if_f c5 hf
      refine lv_iconst (v := 0) hx hb dX4_show_28 (by decide) ?_
      exact J29 a1 a2 (0 : Int32) S hf _ _ _ hw hl
    · replace hf := if_t c5 hf
      refine lv_iconst (v := 1) hx hb dX4_show_24 (by decide) ?_
      refine lv_goto (tgt := 29) hx hb dX4_show_25 (by decide) ?_
      exact J29 a1 a2 (1 : Int32) S hf _ _ _ hw hl
  · replace hf := if_t c3 hf
    refine lv_aload_n hx hb dX4_show_8 rfl (lv_at hl 0 rfl) ?_
    refine lv_iconst (v := -1) hx hb dX4_show_9 (by decide) ?_
    obtain ⟨r14, S13, h12, hf⟩ := b2_s hf
    refine kVi X hw (c_X4_no l D cI cO ad (-1 : Int32) S r14 S13 h12) (Nat.le_of_ble_eq_true rfl) ce5 rfl ⟨rfl, rfl⟩ q688 q690 q34 q64 q691 hd_X4_no ⟨Nat.le_of_ble_eq_true rfl, Nat.le_of_ble_eq_true rfl⟩ rfl hl.1 rfl (Nat.le_of_ble_eq_true rfl) dX4_show_10 (fun H locs hw => ?_)
    exact hfin _ _ _ _ _ _ hw (s2a hf) (s2b hf) (narI _) dX4_show_13
/-- NineLandsModel.law(III)I -/
theorem dX4_law_0 : decode cX4_law 0 = .ok (.iload_n 1, 1) := by decide +kernel
theorem dX4_law_1 : decode cX4_law 1 = .ok (.invokestatic 105, 3) := by decide +kernel
theorem dX4_law_4 : decode cX4_law 4 = .ok (.ifCond .eq 13, 3) := by decide +kernel
theorem dX4_law_7 : decode cX4_law 7 = .ok (.iload_n 2, 1) := by decide +kernel
theorem dX4_law_8 : decode cX4_law 8 = .ok (.iconst 0, 1) := by decide +kernel
theorem dX4_law_9 : decode cX4_law 9 = .ok (.bipush 8, 2) := by decide +kernel
theorem dX4_law_11 : decode cX4_law 11 = .ok (.invokestatic 98, 3) := by decide +kernel
theorem dX4_law_14 : decode cX4_law 14 = .ok (.ifCond .ne 9, 3) := by decide +kernel
theorem dX4_law_17 : decode cX4_law 17 = .ok (.aload_n 0, 1) := by decide +kernel
theorem dX4_law_18 : decode cX4_law 18 = .ok (.iconst (-1), 1) := by decide +kernel
theorem dX4_law_19 : decode cX4_law 19 = .ok (.invokevirtual 85, 3) := by decide +kernel
theorem dX4_law_22 : decode cX4_law 22 = .ok (.ireturn, 1) := by decide +kernel
theorem dX4_law_23 : decode cX4_law 23 = .ok (.iload_n 3, 1) := by decide +kernel
theorem dX4_law_24 : decode cX4_law 24 = .ok (.iconst 0, 1) := by decide +kernel
theorem dX4_law_25 : decode cX4_law 25 = .ok (.aload_n 0, 1) := by decide +kernel
theorem dX4_law_26 : decode cX4_law 26 = .ok (.getfield 46, 3) := by decide +kernel
theorem dX4_law_29 : decode cX4_law 29 = .ok (.iload_n 2, 1) := by decide +kernel
theorem dX4_law_30 : decode cX4_law 30 = .ok (.iaload, 1) := by decide +kernel
theorem dX4_law_31 : decode cX4_law 31 = .ok (.invokestatic 78, 3) := by decide +kernel
theorem dX4_law_34 : decode cX4_law 34 = .ok (.istore 4, 2) := by decide +kernel
theorem dX4_law_36 : decode cX4_law 36 = .ok (.iload 4, 2) := by decide +kernel
theorem dX4_law_38 : decode cX4_law 38 = .ok (.ifCond .eq 10, 3) := by decide +kernel
theorem dX4_law_41 : decode cX4_law 41 = .ok (.aload_n 0, 1) := by decide +kernel
theorem dX4_law_42 : decode cX4_law 42 = .ok (.iload 4, 2) := by decide +kernel
theorem dX4_law_44 : decode cX4_law 44 = .ok (.invokevirtual 85, 3) := by decide +kernel
theorem dX4_law_47 : decode cX4_law 47 = .ok (.ireturn, 1) := by decide +kernel
theorem dX4_law_48 : decode cX4_law 48 = .ok (.aload_n 0, 1) := by decide +kernel
theorem dX4_law_49 : decode cX4_law 49 = .ok (.getfield 37, 3) := by decide +kernel
theorem dX4_law_52 : decode cX4_law 52 = .ok (.bipush 9, 2) := by decide +kernel
theorem dX4_law_54 : decode cX4_law 54 = .ok (.iload_n 1, 1) := by decide +kernel
theorem dX4_law_55 : decode cX4_law 55 = .ok (.imul, 1) := by decide +kernel
theorem dX4_law_56 : decode cX4_law 56 = .ok (.iload_n 2, 1) := by decide +kernel
theorem dX4_law_57 : decode cX4_law 57 = .ok (.iadd, 1) := by decide +kernel
theorem dX4_law_58 : decode cX4_law 58 = .ok (.iaload, 1) := by decide +kernel
theorem dX4_law_59 : decode cX4_law 59 = .ok (.istore 5, 2) := by decide +kernel
theorem dX4_law_61 : decode cX4_law 61 = .ok (.aload_n 0, 1) := by decide +kernel
theorem dX4_law_62 : decode cX4_law 62 = .ok (.getfield 37, 3) := by decide +kernel
theorem dX4_law_65 : decode cX4_law 65 = .ok (.bipush 9, 2) := by decide +kernel
theorem dX4_law_67 : decode cX4_law 67 = .ok (.iload_n 1, 1) := by decide +kernel
theorem dX4_law_68 : decode cX4_law 68 = .ok (.imul, 1) := by decide +kernel
theorem dX4_law_69 : decode cX4_law 69 = .ok (.iload_n 2, 1) := by decide +kernel
theorem dX4_law_70 : decode cX4_law 70 = .ok (.iadd, 1) := by decide +kernel
theorem dX4_law_71 : decode cX4_law 71 = .ok (.iload_n 3, 1) := by decide +kernel
theorem dX4_law_72 : decode cX4_law 72 = .ok (.iastore, 1) := by decide +kernel
theorem dX4_law_73 : decode cX4_law 73 = .ok (.iload 5, 2) := by decide +kernel
theorem dX4_law_75 : decode cX4_law 75 = .ok (.ireturn, 1) := by decide +kernel
theorem hd_X4_law : yX4_law.cls ≠ "java/lang/invoke/MethodHandle" ∧ yX4_law.cls ≠ "java/lang/invoke/VarHandle" ∧ (parseMethodDescriptor yX4_law.desc).map (fun d => d.parameters.length) = some 3 := by decide +kernel
def f_X4_law (a1 : Int32) (a2 : Int32) (a3 : Int32) (S : vS) : Option (Int32 × vS) := b1 (f_X4_isLand a1 S) fun r2 => if r2 = 0 then b2 (f_X4_no (-1 : Int32) S) fun r6 S5 => some (r6, S5) else b1 (f_X4_isIn a2 (0 : Int32) (8 : Int32) S) fun r8 => if r8 = 0 then b2 (f_X4_no (-1 : Int32) S) fun r22 S21 => some (r22, S21) else if inb a2 9 = true then b1 (f_X4_out a3 (0 : Int32) (S 13 (a2.toNatClampNeg)) S) fun r12 => if r12 = 0 then if inb (((9 : Int32) * a1) + a2) 54 = true then lt ((S 10 ((((9 : Int32) * a1) + a2).toNatClampNeg))) fun v15 => lt (upk S 10 (upd (S 10) ((((9 : Int32) * a1) + a2).toNatClampNeg) a3)) fun S16 => some (v15, S16) else none else b2 (f_X4_no r12 S) fun r19 S18 => some (r19, S18) else none
set_option maxHeartbeats 4000000 in
set_option maxRecDepth 20000 in
theorem c_X4_law (l : Launch) (D : va_G) (cI cO : ClassId) (ad : Nat → Nat) (a1 : Int32) (a2 : Int32) (a3 : Int32) (S : vS) (R9 : Int32) (S9 : vS) (hf : f_X4_law a1 a2 a3 S = some (R9, S9)) : CI l yX4_law cX4_law 6 .int ({ frames := 1, cells := 0, slots := 0, locals := 22 }) [.ref (ad 5), .int a1, .int a2, .int a3] D cI cO ad S R9 S9 := by
  refine CI.of (by decide +kernel) (Nat.le_of_ble_eq_true rfl) (fun p e s m args below meth c Q ls X hl hw hfin => ?_)
  have hl : lv_has ls 6 [(0, .ref (ad 5)), (1, .int a1), (2, .int a2), (3, .int a3)] := hl
  have hx := X.1
  have hb := X.2.1
  unfold f_X4_law at hf
  refine lv_iload_n hx hb dX4_law_0 rfl (lv_at hl 1 rfl) ?_
  obtain ⟨r2, h1, hf⟩ := b1_s hf
  refine kSi X hw (c_X4_isLand l D cI cO ad a1 S r2 h1) ⟨rfl, rfl⟩ q705 q706 q64 q707 hd_X4_isLand ⟨Nat.le_of_ble_eq_true rfl, Nat.le_of_ble_eq_true rfl⟩ rfl hl.1 rfl (Nat.le_of_ble_eq_true rfl) dX4_law_1 (fun H locs hw => ?_)
  refine lv_if_eq (tgt := 17) hx hb dX4_law_4 (by decide) (fun c3 => ?_) (fun c3 => ?_)
  · replace hf := if_t c3 hf
    refine lv_aload_n hx hb dX4_law_17 rfl (lv_at hl 0 rfl) ?_
    refine lv_iconst (v := -1) hx hb dX4_law_18 (by decide) ?_
    obtain ⟨r6, S5, h4, hf⟩ := b2_s hf
    refine kVi X hw (c_X4_no l D cI cO ad (-1 : Int32) S r6 S5 h4) (Nat.le_of_ble_eq_true rfl) ce5 rfl ⟨rfl, rfl⟩ q688 q690 q34 q64 q691 hd_X4_no ⟨Nat.le_of_ble_eq_true rfl, Nat.le_of_ble_eq_true rfl⟩ rfl hl.1 rfl (Nat.le_of_ble_eq_true rfl) dX4_law_19 (fun H locs hw => ?_)
    exact hfin _ _ _ _ _ _ hw (s2a hf) (s2b hf) (narI _) dX4_law_22
  · replace hf := if_f c3 hf
    refine lv_iload_n hx hb dX4_law_7 rfl (lv_at hl 2 rfl) ?_
    refine lv_iconst (v := 0) hx hb dX4_law_8 (by decide) ?_
    refine lv_bipush (v := 8) hx hb dX4_law_9 (by decide +kernel) ?_
    obtain ⟨r8, h7, hf⟩ := b1_s hf
    refine kSi X hw (c_X4_isIn l D cI cO ad a2 (0 : Int32) (8 : Int32) S r8 h7) ⟨rfl, rfl⟩ q712 q713 q64 q714 hd_X4_isIn ⟨Nat.le_of_ble_eq_true rfl, Nat.le_of_ble_eq_true rfl⟩ rfl hl.1 rfl (Nat.le_of_ble_eq_true rfl) dX4_law_11 (fun H locs hw => ?_)
    refine lv_if_ne (tgt := 23) hx hb dX4_law_14 (by decide) (fun c9 => ?_) (fun c9 => ?_)
    · replace hf := if_f c9 hf
      refine lv_iload_n hx hb dX4_law_23 rfl (lv_at hl 3 rfl) ?_
      refine lv_iconst (v := 0) hx hb dX4_law_24 (by decide) ?_
      refine lv_aload_n hx hb dX4_law_25 rfl (lv_at hl 0 rfl) ?_
      refine x_get X hw 5 (Nat.le_of_ble_eq_true rfl) ce5 rfl i_X4 12 (by decide) q602 ⟨rfl, rfl, rfl⟩ rfl dX4_law_26 ?_
      refine lv_iload_n hx hb dX4_law_29 rfl (lv_at hl 2 rfl) ?_
      obtain ⟨h10, hf⟩ := if_s hf
      refine x_iald X hw 13 ⟨Nat.le_of_ble_eq_true rfl, Nat.le_of_ble_eq_true rfl⟩ rfl h10 (a2.toNatClampNeg) rfl dX4_law_30 ?_
      obtain ⟨r12, h11, hf⟩ := b1_s hf
      refine kSi X hw (c_X4_out l D cI cO ad a3 (0 : Int32) (S 13 (a2.toNatClampNeg)) S r12 h11) ⟨rfl, rfl⟩ q685 q686 q64 q687 hd_X4_out ⟨Nat.le_of_ble_eq_true rfl, Nat.le_of_ble_eq_true rfl⟩ rfl hl.1 rfl (Nat.le_of_ble_eq_true rfl) dX4_law_31 (fun H locs hw => ?_)
      refine lv_istore (lv' := [(4, .int r12), (0, .ref (ad 5)), (1, .int a1), (2, .int a2), (3, .int a3)]) hx hb dX4_law_34 hl (by decide) rfl (fun ls hl => ?_)
      refine lv_iload hx hb dX4_law_36 (lv_at hl 0 rfl) ?_
      refine lv_if_eq (tgt := 48) hx hb dX4_law_38 (by decide) (fun c13 => ?_) (fun c13 => ?_)
      · replace hf := if_t c13 hf
        refine lv_aload_n hx hb dX4_law_48 rfl (lv_at hl 1 rfl) ?_
        refine x_get X hw 5 (Nat.le_of_ble_eq_true rfl) ce5 rfl i_X4 9 (by decide) q599 ⟨rfl, rfl, rfl⟩ rfl dX4_law_49 ?_
        refine lv_bipush (v := 9) hx hb dX4_law_52 (by decide +kernel) ?_
        refine lv_iload_n hx hb dX4_law_54 rfl (lv_at hl 2 rfl) ?_
        refine lv_imul hx hb dX4_law_55 ?_
        refine lv_iload_n hx hb dX4_law_56 rfl (lv_at hl 3 rfl) ?_
        refine lv_iadd hx hb dX4_law_57 ?_
        obtain ⟨h14, hf⟩ := if_s hf
        refine x_iald X hw 10 ⟨Nat.le_of_ble_eq_true rfl, Nat.le_of_ble_eq_true rfl⟩ rfl h14 ((((9 : Int32) * a1) + a2).toNatClampNeg) rfl dX4_law_58 ?_
        refine lv_topi (fun v15 ev15 => ?_)
        replace hf := lt_e ev15 hf
        refine lv_istore (lv' := [(5, .int v15), (4, .int r12), (0, .ref (ad 5)), (1, .int a1), (2, .int a2), (3, .int a3)]) hx hb dX4_law_59 hl (by decide) rfl (fun ls hl => ?_)
        refine lv_aload_n hx hb dX4_law_61 rfl (lv_at hl 2 rfl) ?_
        refine x_get X hw 5 (Nat.le_of_ble_eq_true rfl) ce5 rfl i_X4 9 (by decide) q599 ⟨rfl, rfl, rfl⟩ rfl dX4_law_62 ?_
        refine lv_bipush (v := 9) hx hb dX4_law_65 (by decide +kernel) ?_
        refine lv_iload_n hx hb dX4_law_67 rfl (lv_at hl 3 rfl) ?_
        refine lv_imul hx hb dX4_law_68 ?_
        refine lv_iload_n hx hb dX4_law_69 rfl (lv_at hl 4 rfl) ?_
        refine lv_iadd hx hb dX4_law_70 ?_
        refine lv_iload_n hx hb dX4_law_71 rfl (lv_at hl 5 rfl) ?_
        refine x_iast X hw 10 ⟨Nat.le_of_ble_eq_true rfl, Nat.le_of_ble_eq_true rfl⟩ rfl h14 ((((9 : Int32) * a1) + a2).toNatClampNeg) rfl dX4_law_72 (fun S16 eS16 H locs hw => ?_)
        replace hf := lt_e eS16 hf
        refine lv_iload hx hb dX4_law_73 (lv_at hl 0 rfl) ?_
        exact hfin _ _ _ _ _ _ hw (s2a hf) (s2b hf) (narI _) dX4_law_75
      · replace hf := if_f c13 hf
        refine lv_aload_n hx hb dX4_law_41 rfl (lv_at hl 1 rfl) ?_
        refine lv_iload hx hb dX4_law_42 (lv_at hl 0 rfl) ?_
        obtain ⟨r19, S18, h17, hf⟩ := b2_s hf
        refine kVi X hw (c_X4_no l D cI cO ad r12 S r19 S18 h17) (Nat.le_of_ble_eq_true rfl) ce5 rfl ⟨rfl, rfl⟩ q688 q690 q34 q64 q691 hd_X4_no ⟨Nat.le_of_ble_eq_true rfl, Nat.le_of_ble_eq_true rfl⟩ rfl hl.1 rfl (Nat.le_of_ble_eq_true rfl) dX4_law_44 (fun H locs hw => ?_)
        exact hfin _ _ _ _ _ _ hw (s2a hf) (s2b hf) (narI _) dX4_law_47
    · replace hf := if_t c9 hf
      refine lv_aload_n hx hb dX4_law_17 rfl (lv_at hl 0 rfl) ?_
      refine lv_iconst (v := -1) hx hb dX4_law_18 (by decide) ?_
      obtain ⟨r22, S21, h20, hf⟩ := b2_s hf
      refine kVi X hw (c_X4_no l D cI cO ad (-1 : Int32) S r22 S21 h20) (Nat.le_of_ble_eq_true rfl) ce5 rfl ⟨rfl, rfl⟩ q688 q690 q34 q64 q691 hd_X4_no ⟨Nat.le_of_ble_eq_true rfl, Nat.le_of_ble_eq_true rfl⟩ rfl hl.1 rfl (Nat.le_of_ble_eq_true rfl) dX4_law_19 (fun H locs hw => ?_)
      exact hfin _ _ _ _ _ _ hw (s2a hf) (s2b hf) (narI _) dX4_law_22
/-- NineLandsModel.lawOf(II)I -/
theorem dX4_lawOf_0 : decode cX4_lawOf 0 = .ok (.aload_n 0, 1) := by decide +kernel
theorem dX4_lawOf_1 : decode cX4_lawOf 1 = .ok (.getfield 37, 3) := by decide +kernel
theorem dX4_lawOf_4 : decode cX4_lawOf 4 = .ok (.bipush 9, 2) := by decide +kernel
theorem dX4_lawOf_6 : decode cX4_lawOf 6 = .ok (.iload_n 1, 1) := by decide +kernel
theorem dX4_lawOf_7 : decode cX4_lawOf 7 = .ok (.imul, 1) := by decide +kernel
theorem dX4_lawOf_8 : decode cX4_lawOf 8 = .ok (.iload_n 2, 1) := by decide +kernel
theorem dX4_lawOf_9 : decode cX4_lawOf 9 = .ok (.iadd, 1) := by decide +kernel
theorem dX4_lawOf_10 : decode cX4_lawOf 10 = .ok (.iaload, 1) := by decide +kernel
theorem dX4_lawOf_11 : decode cX4_lawOf 11 = .ok (.ireturn, 1) := by decide +kernel
theorem hd_X4_lawOf : yX4_lawOf.cls ≠ "java/lang/invoke/MethodHandle" ∧ yX4_lawOf.cls ≠ "java/lang/invoke/VarHandle" ∧ (parseMethodDescriptor yX4_lawOf.desc).map (fun d => d.parameters.length) = some 2 := by decide +kernel
def f_X4_lawOf (a1 : Int32) (a2 : Int32) (S : vS) : Option Int32 := if inb (((9 : Int32) * a1) + a2) 54 = true then some (S 10 ((((9 : Int32) * a1) + a2).toNatClampNeg)) else none
set_option maxHeartbeats 4000000 in
set_option maxRecDepth 20000 in
theorem c_X4_lawOf (l : Launch) (D : va_G) (cI cO : ClassId) (ad : Nat → Nat) (a1 : Int32) (a2 : Int32) (S : vS) (R9 : Int32) (hf : f_X4_lawOf a1 a2 S = some R9) : CI l yX4_lawOf cX4_lawOf 3 .int ({ frames := 0, cells := 0, slots := 0, locals := 0 }) [.ref (ad 5), .int a1, .int a2] D cI cO ad S R9 S := by
  refine CI.of (by decide +kernel) (Nat.le_of_ble_eq_true rfl) (fun p e s m args below meth c Q ls X hl hw hfin => ?_)
  have hl : lv_has ls 3 [(0, .ref (ad 5)), (1, .int a1), (2, .int a2)] := hl
  have hx := X.1
  have hb := X.2.1
  unfold f_X4_lawOf at hf
  refine lv_aload_n hx hb dX4_lawOf_0 rfl (lv_at hl 0 rfl) ?_
  refine x_get X hw 5 (Nat.le_of_ble_eq_true rfl) ce5 rfl i_X4 9 (by decide) q599 ⟨rfl, rfl, rfl⟩ rfl dX4_lawOf_1 ?_
  refine lv_bipush (v := 9) hx hb dX4_lawOf_4 (by decide +kernel) ?_
  refine lv_iload_n hx hb dX4_lawOf_6 rfl (lv_at hl 1 rfl) ?_
  refine lv_imul hx hb dX4_lawOf_7 ?_
  refine lv_iload_n hx hb dX4_lawOf_8 rfl (lv_at hl 2 rfl) ?_
  refine lv_iadd hx hb dX4_lawOf_9 ?_
  obtain ⟨h1, hf⟩ := if_s hf
  refine x_iald X hw 10 ⟨Nat.le_of_ble_eq_true rfl, Nat.le_of_ble_eq_true rfl⟩ rfl h1 ((((9 : Int32) * a1) + a2).toNatClampNeg) rfl dX4_lawOf_10 ?_
  exact hfin _ _ _ _ _ _ hw (Option.some.inj hf) rfl (narI _) dX4_lawOf_11
/-- NineLandsModel.kind(II)I -/
theorem dX4_kind_0 : decode cX4_kind 0 = .ok (.iload_n 1, 1) := by decide +kernel
theorem dX4_kind_1 : decode cX4_kind 1 = .ok (.invokestatic 105, 3) := by decide +kernel
theorem dX4_kind_4 : decode cX4_kind 4 = .ok (.ifCond .ne 9, 3) := by decide +kernel
theorem dX4_kind_7 : decode cX4_kind 7 = .ok (.aload_n 0, 1) := by decide +kernel
theorem dX4_kind_8 : decode cX4_kind 8 = .ok (.iconst (-1), 1) := by decide +kernel
theorem dX4_kind_9 : decode cX4_kind 9 = .ok (.invokevirtual 85, 3) := by decide +kernel
theorem dX4_kind_12 : decode cX4_kind 12 = .ok (.ireturn, 1) := by decide +kernel
theorem dX4_kind_13 : decode cX4_kind 13 = .ok (.iload_n 2, 1) := by decide +kernel
theorem dX4_kind_14 : decode cX4_kind 14 = .ok (.iconst 0, 1) := by decide +kernel
theorem dX4_kind_15 : decode cX4_kind 15 = .ok (.iconst 5, 1) := by decide +kernel
theorem dX4_kind_16 : decode cX4_kind 16 = .ok (.invokestatic 98, 3) := by decide +kernel
theorem dX4_kind_19 : decode cX4_kind 19 = .ok (.ifCond .ne 10, 3) := by decide +kernel
theorem dX4_kind_22 : decode cX4_kind 22 = .ok (.aload_n 0, 1) := by decide +kernel
theorem dX4_kind_23 : decode cX4_kind 23 = .ok (.bipush (-2), 2) := by decide +kernel
theorem dX4_kind_25 : decode cX4_kind 25 = .ok (.invokevirtual 85, 3) := by decide +kernel
theorem dX4_kind_28 : decode cX4_kind 28 = .ok (.ireturn, 1) := by decide +kernel
theorem dX4_kind_29 : decode cX4_kind 29 = .ok (.aload_n 0, 1) := by decide +kernel
theorem dX4_kind_30 : decode cX4_kind 30 = .ok (.getfield 40, 3) := by decide +kernel
theorem dX4_kind_33 : decode cX4_kind 33 = .ok (.iload_n 1, 1) := by decide +kernel
theorem dX4_kind_34 : decode cX4_kind 34 = .ok (.iaload, 1) := by decide +kernel
theorem dX4_kind_35 : decode cX4_kind 35 = .ok (.istore_n 3, 1) := by decide +kernel
theorem dX4_kind_36 : decode cX4_kind 36 = .ok (.aload_n 0, 1) := by decide +kernel
theorem dX4_kind_37 : decode cX4_kind 37 = .ok (.getfield 40, 3) := by decide +kernel
theorem dX4_kind_40 : decode cX4_kind 40 = .ok (.iload_n 1, 1) := by decide +kernel
theorem dX4_kind_41 : decode cX4_kind 41 = .ok (.iload_n 2, 1) := by decide +kernel
theorem dX4_kind_42 : decode cX4_kind 42 = .ok (.iastore, 1) := by decide +kernel
theorem dX4_kind_43 : decode cX4_kind 43 = .ok (.iload_n 3, 1) := by decide +kernel
theorem dX4_kind_44 : decode cX4_kind 44 = .ok (.ireturn, 1) := by decide +kernel
theorem hd_X4_kind : yX4_kind.cls ≠ "java/lang/invoke/MethodHandle" ∧ yX4_kind.cls ≠ "java/lang/invoke/VarHandle" ∧ (parseMethodDescriptor yX4_kind.desc).map (fun d => d.parameters.length) = some 2 := by decide +kernel
def f_X4_kind (a1 : Int32) (a2 : Int32) (S : vS) : Option (Int32 × vS) := b1 (f_X4_isLand a1 S) fun r2 => if r2 = 0 then b2 (f_X4_no (-1 : Int32) S) fun r15 S14 => some (r15, S14) else b1 (f_X4_isIn a2 (0 : Int32) (5 : Int32) S) fun r5 => if r5 = 0 then b2 (f_X4_no (-2 : Int32) S) fun r12 S11 => some (r12, S11) else if inb a1 6 = true then lt ((S 11 (a1.toNatClampNeg))) fun v8 => lt (upk S 11 (upd (S 11) (a1.toNatClampNeg) a2)) fun S9 => some (v8, S9) else none
set_option maxHeartbeats 4000000 in
set_option maxRecDepth 20000 in
theorem c_X4_kind (l : Launch) (D : va_G) (cI cO : ClassId) (ad : Nat → Nat) (a1 : Int32) (a2 : Int32) (S : vS) (R9 : Int32) (S9 : vS) (hf : f_X4_kind a1 a2 S = some (R9, S9)) : CI l yX4_kind cX4_kind 4 .int ({ frames := 1, cells := 0, slots := 0, locals := 22 }) [.ref (ad 5), .int a1, .int a2] D cI cO ad S R9 S9 := by
  refine CI.of (by decide +kernel) (Nat.le_of_ble_eq_true rfl) (fun p e s m args below meth c Q ls X hl hw hfin => ?_)
  have hl : lv_has ls 4 [(0, .ref (ad 5)), (1, .int a1), (2, .int a2)] := hl
  have hx := X.1
  have hb := X.2.1
  unfold f_X4_kind at hf
  refine lv_iload_n hx hb dX4_kind_0 rfl (lv_at hl 1 rfl) ?_
  obtain ⟨r2, h1, hf⟩ := b1_s hf
  refine kSi X hw (c_X4_isLand l D cI cO ad a1 S r2 h1) ⟨rfl, rfl⟩ q705 q706 q64 q707 hd_X4_isLand ⟨Nat.le_of_ble_eq_true rfl, Nat.le_of_ble_eq_true rfl⟩ rfl hl.1 rfl (Nat.le_of_ble_eq_true rfl) dX4_kind_1 (fun H locs hw => ?_)
  refine lv_if_ne (tgt := 13) hx hb dX4_kind_4 (by decide) (fun c3 => ?_) (fun c3 => ?_)
  · replace hf := if_f c3 hf
    refine lv_iload_n hx hb dX4_kind_13 rfl (lv_at hl 2 rfl) ?_
    refine lv_iconst (v := 0) hx hb dX4_kind_14 (by decide) ?_
    refine lv_iconst (v := 5) hx hb dX4_kind_15 (by decide) ?_
    obtain ⟨r5, h4, hf⟩ := b1_s hf
    refine kSi X hw (c_X4_isIn l D cI cO ad a2 (0 : Int32) (5 : Int32) S r5 h4) ⟨rfl, rfl⟩ q712 q713 q64 q714 hd_X4_isIn ⟨Nat.le_of_ble_eq_true rfl, Nat.le_of_ble_eq_true rfl⟩ rfl hl.1 rfl (Nat.le_of_ble_eq_true rfl) dX4_kind_16 (fun H locs hw => ?_)
    refine lv_if_ne (tgt := 29) hx hb dX4_kind_19 (by decide) (fun c6 => ?_) (fun c6 => ?_)
    · replace hf := if_f c6 hf
      refine lv_aload_n hx hb dX4_kind_29 rfl (lv_at hl 0 rfl) ?_
      refine x_get X hw 5 (Nat.le_of_ble_eq_true rfl) ce5 rfl i_X4 10 (by decide) q600 ⟨rfl, rfl, rfl⟩ rfl dX4_kind_30 ?_
      refine lv_iload_n hx hb dX4_kind_33 rfl (lv_at hl 1 rfl) ?_
      obtain ⟨h7, hf⟩ := if_s hf
      refine x_iald X hw 11 ⟨Nat.le_of_ble_eq_true rfl, Nat.le_of_ble_eq_true rfl⟩ rfl h7 (a1.toNatClampNeg) rfl dX4_kind_34 ?_
      refine lv_topi (fun v8 ev8 => ?_)
      replace hf := lt_e ev8 hf
      refine lv_istore_n (lv' := [(3, .int v8), (0, .ref (ad 5)), (1, .int a1), (2, .int a2)]) hx hb dX4_kind_35 rfl hl (by decide) rfl (fun ls hl => ?_)
      refine lv_aload_n hx hb dX4_kind_36 rfl (lv_at hl 1 rfl) ?_
      refine x_get X hw 5 (Nat.le_of_ble_eq_true rfl) ce5 rfl i_X4 10 (by decide) q600 ⟨rfl, rfl, rfl⟩ rfl dX4_kind_37 ?_
      refine lv_iload_n hx hb dX4_kind_40 rfl (lv_at hl 2 rfl) ?_
      refine lv_iload_n hx hb dX4_kind_41 rfl (lv_at hl 3 rfl) ?_
      refine x_iast X hw 11 ⟨Nat.le_of_ble_eq_true rfl, Nat.le_of_ble_eq_true rfl⟩ rfl h7 (a1.toNatClampNeg) rfl dX4_kind_42 (fun S9 eS9 H locs hw => ?_)
      replace hf := lt_e eS9 hf
      refine lv_iload_n hx hb dX4_kind_43 rfl (lv_at hl 0 rfl) ?_
      exact hfin _ _ _ _ _ _ hw (s2a hf) (s2b hf) (narI _) dX4_kind_44
    · replace hf := if_t c6 hf
      refine lv_aload_n hx hb dX4_kind_22 rfl (lv_at hl 0 rfl) ?_
      refine lv_bipush (v := -2) hx hb dX4_kind_23 (by decide +kernel) ?_
      obtain ⟨r12, S11, h10, hf⟩ := b2_s hf
      refine kVi X hw (c_X4_no l D cI cO ad (-2 : Int32) S r12 S11 h10) (Nat.le_of_ble_eq_true rfl) ce5 rfl ⟨rfl, rfl⟩ q688 q690 q34 q64 q691 hd_X4_no ⟨Nat.le_of_ble_eq_true rfl, Nat.le_of_ble_eq_true rfl⟩ rfl hl.1 rfl (Nat.le_of_ble_eq_true rfl) dX4_kind_25 (fun H locs hw => ?_)
      exact hfin _ _ _ _ _ _ hw (s2a hf) (s2b hf) (narI _) dX4_kind_28
  · replace hf := if_t c3 hf
    refine lv_aload_n hx hb dX4_kind_7 rfl (lv_at hl 0 rfl) ?_
    refine lv_iconst (v := -1) hx hb dX4_kind_8 (by decide) ?_
    obtain ⟨r15, S14, h13, hf⟩ := b2_s hf
    refine kVi X hw (c_X4_no l D cI cO ad (-1 : Int32) S r15 S14 h13) (Nat.le_of_ble_eq_true rfl) ce5 rfl ⟨rfl, rfl⟩ q688 q690 q34 q64 q691 hd_X4_no ⟨Nat.le_of_ble_eq_true rfl, Nat.le_of_ble_eq_true rfl⟩ rfl hl.1 rfl (Nat.le_of_ble_eq_true rfl) dX4_kind_9 (fun H locs hw => ?_)
    exact hfin _ _ _ _ _ _ hw (s2a hf) (s2b hf) (narI _) dX4_kind_12
/-- NineLandsModel.pact(IIZ)I -/
theorem dX4_pact_0 : decode cX4_pact 0 = .ok (.iload_n 1, 1) := by decide +kernel
theorem dX4_pact_1 : decode cX4_pact 1 = .ok (.invokestatic 105, 3) := by decide +kernel
theorem dX4_pact_4 : decode cX4_pact 4 = .ok (.ifCond .eq 15, 3) := by decide +kernel
theorem dX4_pact_7 : decode cX4_pact 7 = .ok (.iload_n 2, 1) := by decide +kernel
theorem dX4_pact_8 : decode cX4_pact 8 = .ok (.invokestatic 105, 3) := by decide +kernel
theorem dX4_pact_11 : decode cX4_pact 11 = .ok (.ifCond .eq 8, 3) := by decide +kernel
theorem dX4_pact_14 : decode cX4_pact 14 = .ok (.iload_n 1, 1) := by decide +kernel
theorem dX4_pact_15 : decode cX4_pact 15 = .ok (.iload_n 2, 1) := by decide +kernel
theorem dX4_pact_16 : decode cX4_pact 16 = .ok (.if_icmp .ne 9, 3) := by decide +kernel
theorem dX4_pact_19 : decode cX4_pact 19 = .ok (.aload_n 0, 1) := by decide +kernel
theorem dX4_pact_20 : decode cX4_pact 20 = .ok (.iconst (-1), 1) := by decide +kernel
theorem dX4_pact_21 : decode cX4_pact 21 = .ok (.invokevirtual 85, 3) := by decide +kernel
theorem dX4_pact_24 : decode cX4_pact 24 = .ok (.ireturn, 1) := by decide +kernel
theorem dX4_pact_25 : decode cX4_pact 25 = .ok (.aload_n 0, 1) := by decide +kernel
theorem dX4_pact_26 : decode cX4_pact 26 = .ok (.getfield 43, 3) := by decide +kernel
theorem dX4_pact_29 : decode cX4_pact 29 = .ok (.bipush 6, 2) := by decide +kernel
theorem dX4_pact_31 : decode cX4_pact 31 = .ok (.iload_n 1, 1) := by decide +kernel
theorem dX4_pact_32 : decode cX4_pact 32 = .ok (.imul, 1) := by decide +kernel
theorem dX4_pact_33 : decode cX4_pact 33 = .ok (.iload_n 2, 1) := by decide +kernel
theorem dX4_pact_34 : decode cX4_pact 34 = .ok (.iadd, 1) := by decide +kernel
theorem dX4_pact_35 : decode cX4_pact 35 = .ok (.iaload, 1) := by decide +kernel
theorem dX4_pact_36 : decode cX4_pact 36 = .ok (.iconst 1, 1) := by decide +kernel
theorem dX4_pact_37 : decode cX4_pact 37 = .ok (.if_icmp .ne 7, 3) := by decide +kernel
theorem dX4_pact_40 : decode cX4_pact 40 = .ok (.iconst 1, 1) := by decide +kernel
theorem dX4_pact_41 : decode cX4_pact 41 = .ok (.goto 4, 3) := by decide +kernel
theorem dX4_pact_44 : decode cX4_pact 44 = .ok (.iconst 0, 1) := by decide +kernel
theorem dX4_pact_45 : decode cX4_pact 45 = .ok (.iload_n 3, 1) := by decide +kernel
theorem dX4_pact_46 : decode cX4_pact 46 = .ok (.if_icmp .ne 5, 3) := by decide +kernel
theorem dX4_pact_49 : decode cX4_pact 49 = .ok (.iconst 0, 1) := by decide +kernel
theorem dX4_pact_50 : decode cX4_pact 50 = .ok (.ireturn, 1) := by decide +kernel
theorem dX4_pact_51 : decode cX4_pact 51 = .ok (.aload_n 0, 1) := by decide +kernel
theorem dX4_pact_52 : decode cX4_pact 52 = .ok (.getfield 43, 3) := by decide +kernel
theorem dX4_pact_55 : decode cX4_pact 55 = .ok (.bipush 6, 2) := by decide +kernel
theorem dX4_pact_57 : decode cX4_pact 57 = .ok (.iload_n 1, 1) := by decide +kernel
theorem dX4_pact_58 : decode cX4_pact 58 = .ok (.imul, 1) := by decide +kernel
theorem dX4_pact_59 : decode cX4_pact 59 = .ok (.iload_n 2, 1) := by decide +kernel
theorem dX4_pact_60 : decode cX4_pact 60 = .ok (.iadd, 1) := by decide +kernel
theorem dX4_pact_61 : decode cX4_pact 61 = .ok (.iload_n 3, 1) := by decide +kernel
theorem dX4_pact_62 : decode cX4_pact 62 = .ok (.ifCond .eq 7, 3) := by decide +kernel
theorem dX4_pact_65 : decode cX4_pact 65 = .ok (.iconst 1, 1) := by decide +kernel
theorem dX4_pact_66 : decode cX4_pact 66 = .ok (.goto 4, 3) := by decide +kernel
theorem dX4_pact_69 : decode cX4_pact 69 = .ok (.iconst 0, 1) := by decide +kernel
theorem dX4_pact_70 : decode cX4_pact 70 = .ok (.iastore, 1) := by decide +kernel
theorem dX4_pact_71 : decode cX4_pact 71 = .ok (.aload_n 0, 1) := by decide +kernel
theorem dX4_pact_72 : decode cX4_pact 72 = .ok (.getfield 43, 3) := by decide +kernel
theorem dX4_pact_75 : decode cX4_pact 75 = .ok (.bipush 6, 2) := by decide +kernel
theorem dX4_pact_77 : decode cX4_pact 77 = .ok (.iload_n 2, 1) := by decide +kernel
theorem dX4_pact_78 : decode cX4_pact 78 = .ok (.imul, 1) := by decide +kernel
theorem dX4_pact_79 : decode cX4_pact 79 = .ok (.iload_n 1, 1) := by decide +kernel
theorem dX4_pact_80 : decode cX4_pact 80 = .ok (.iadd, 1) := by decide +kernel
theorem dX4_pact_81 : decode cX4_pact 81 = .ok (.iload_n 3, 1) := by decide +kernel
theorem dX4_pact_82 : decode cX4_pact 82 = .ok (.ifCond .eq 7, 3) := by decide +kernel
theorem dX4_pact_85 : decode cX4_pact 85 = .ok (.iconst 1, 1) := by decide +kernel
theorem dX4_pact_86 : decode cX4_pact 86 = .ok (.goto 4, 3) := by decide +kernel
theorem dX4_pact_89 : decode cX4_pact 89 = .ok (.iconst 0, 1) := by decide +kernel
theorem dX4_pact_90 : decode cX4_pact 90 = .ok (.iastore, 1) := by decide +kernel
theorem dX4_pact_91 : decode cX4_pact 91 = .ok (.iconst 1, 1) := by decide +kernel
theorem dX4_pact_92 : decode cX4_pact 92 = .ok (.ireturn, 1) := by decide +kernel
theorem hd_X4_pact : yX4_pact.cls ≠ "java/lang/invoke/MethodHandle" ∧ yX4_pact.cls ≠ "java/lang/invoke/VarHandle" ∧ (parseMethodDescriptor yX4_pact.desc).map (fun d => d.parameters.length) = some 3 := by decide +kernel
def f_X4_pact_J70 (x1 : Int32) (x2 : Int32) (x3 : Int32) (k1 : Int32) (k2 : Int32) (S : vS) : Option (Int32 × vS) := if inb k1 36 = true then lt (upk S 12 (upd (S 12) (k1.toNatClampNeg) k2)) fun S19 => if x3 = 0 then if inb (((6 : Int32) * x2) + x1) 36 = true then lt (upk S19 12 (upd (S19 12) ((((6 : Int32) * x2) + x1).toNatClampNeg) (0 : Int32))) fun S22 => some ((1 : Int32), S22) else none else if inb (((6 : Int32) * x2) + x1) 36 = true then lt (upk S19 12 (upd (S19 12) ((((6 : Int32) * x2) + x1).toNatClampNeg) (1 : Int32))) fun S24 => some ((1 : Int32), S24) else none else none
def f_X4_pact_J45 (x1 : Int32) (x2 : Int32) (x3 : Int32) (k0 : Int32) (S : vS) : Option (Int32 × vS) := if k0 = x3 then some ((0 : Int32), S) else if x3 = 0 then f_X4_pact_J70 x1 x2 x3 (((6 : Int32) * x1) + x2) (0 : Int32) S else f_X4_pact_J70 x1 x2 x3 (((6 : Int32) * x1) + x2) (1 : Int32) S
def f_X4_pact (a1 : Int32) (a2 : Int32) (a3 : Int32) (S : vS) : Option (Int32 × vS) := b1 (f_X4_isLand a1 S) fun r2 => if r2 = 0 then b2 (f_X4_no (-1 : Int32) S) fun r6 S5 => some (r6, S5) else b1 (f_X4_isLand a2 S) fun r8 => if r8 = 0 then b2 (f_X4_no (-1 : Int32) S) fun r12 S11 => some (r12, S11) else if a1 = a2 then b2 (f_X4_no (-1 : Int32) S) fun r27 S26 => some (r27, S26) else if inb (((6 : Int32) * a1) + a2) 36 = true then if (S 12 ((((6 : Int32) * a1) + a2).toNatClampNeg)) = (1 : Int32) then f_X4_pact_J45 a1 a2 a3 (1 : Int32) S else f_X4_pact_J45 a1 a2 a3 (0 : Int32) S else none
set_option maxHeartbeats 4000000 in
set_option maxRecDepth 20000 in
theorem c_X4_pact (l : Launch) (D : va_G) (cI cO : ClassId) (ad : Nat → Nat) (a1 : Int32) (a2 : Int32) (a3 : Int32) (S : vS) (R9 : Int32) (S9 : vS) (hf : f_X4_pact a1 a2 a3 S = some (R9, S9)) : CI l yX4_pact cX4_pact 4 .int ({ frames := 1, cells := 0, slots := 0, locals := 21 }) [.ref (ad 5), .int a1, .int a2, .int a3] D cI cO ad S R9 S9 := by
  refine CI.of (by decide +kernel) (Nat.le_of_ble_eq_true rfl) (fun p e s m args below meth c Q ls X hl hw hfin => ?_)
  have hl : lv_has ls 4 [(0, .ref (ad 5)), (1, .int a1), (2, .int a2), (3, .int a3)] := hl
  have hx := X.1
  have hb := X.2.1
  have J70 : ∀ (x1 : Int32) (x2 : Int32) (x3 : Int32) (k1 : Int32) (k2 : Int32) (S : vS), f_X4_pact_J70 x1 x2 x3 k1 k2 S = some (R9, S9) → ∀ (H : Heap) (locs : List Loc) (ls : Array Slot), WD D cI cO ad s S H locs → lv_has ls 4 [(0, .ref (ad 5)), (1, .int x1), (2, .int x2), (3, .int x3)] → W p l e ({ frames := 1, cells := 0, slots := 0, locals := 21 }) s m args below meth c H locs 0 0 Q (F0 m 70 ls [.int k2, .int k1, .ref (ar ad 12)]) := by
    intro x1 x2 x3 k1 k2 S hf H locs ls hw hl
    unfold f_X4_pact_J70 at hf
    obtain ⟨h18, hf⟩ := if_s hf
    refine x_iast X hw 12 ⟨Nat.le_of_ble_eq_true rfl, Nat.le_of_ble_eq_true rfl⟩ rfl h18 (k1.toNatClampNeg) rfl dX4_pact_70 (fun S19 eS19 H locs hw => ?_)
    replace hf := lt_e eS19 hf
    refine lv_aload_n hx hb dX4_pact_71 rfl (lv_at hl 0 rfl) ?_
    refine x_get X hw 5 (Nat.le_of_ble_eq_true rfl) ce5 rfl i_X4 11 (by decide) q601 ⟨rfl, rfl, rfl⟩ rfl dX4_pact_72 ?_
    refine lv_bipush (v := 6) hx hb dX4_pact_75 (by decide +kernel) ?_
    refine lv_iload_n hx hb dX4_pact_77 rfl (lv_at hl 2 rfl) ?_
    refine lv_imul hx hb dX4_pact_78 ?_
    refine lv_iload_n hx hb dX4_pact_79 rfl (lv_at hl 1 rfl) ?_
    refine lv_iadd hx hb dX4_pact_80 ?_
    refine lv_iload_n hx hb dX4_pact_81 rfl (lv_at hl 3 rfl) ?_
    refine lv_if_eq (tgt := 89) hx hb dX4_pact_82 (by decide) (fun c20 => ?_) (fun c20 => ?_)
    · replace hf := if_t c20 hf
      refine lv_iconst (v := 0) hx hb dX4_pact_89 (by decide) ?_
      obtain ⟨h21, hf⟩ := if_s hf
      refine x_iast X hw 12 ⟨Nat.le_of_ble_eq_true rfl, Nat.le_of_ble_eq_true rfl⟩ rfl h21 ((((6 : Int32) * x2) + x1).toNatClampNeg) rfl dX4_pact_90 (fun S22 eS22 H locs hw => ?_)
      replace hf := lt_e eS22 hf
      refine lv_iconst (v := 1) hx hb dX4_pact_91 (by decide) ?_
      exact hfin _ _ _ _ _ _ hw (s2a hf) (s2b hf) (narI _) dX4_pact_92
    · replace hf := if_f c20 hf
      refine lv_iconst (v := 1) hx hb dX4_pact_85 (by decide) ?_
      refine lv_goto (tgt := 90) hx hb dX4_pact_86 (by decide) ?_
      obtain ⟨h23, hf⟩ := if_s hf
      refine x_iast X hw 12 ⟨Nat.le_of_ble_eq_true rfl, Nat.le_of_ble_eq_true rfl⟩ rfl h23 ((((6 : Int32) * x2) + x1).toNatClampNeg) rfl dX4_pact_90 (fun S24 eS24 H locs hw => ?_)
      replace hf := lt_e eS24 hf
      refine lv_iconst (v := 1) hx hb dX4_pact_91 (by decide) ?_
      exact hfin _ _ _ _ _ _ hw (s2a hf) (s2b hf) (narI _) dX4_pact_92
  have J45 : ∀ (x1 : Int32) (x2 : Int32) (x3 : Int32) (k0 : Int32) (S : vS), f_X4_pact_J45 x1 x2 x3 k0 S = some (R9, S9) → ∀ (H : Heap) (locs : List Loc) (ls : Array Slot), WD D cI cO ad s S H locs → lv_has ls 4 [(0, .ref (ad 5)), (1, .int x1), (2, .int x2), (3, .int x3)] → W p l e ({ frames := 1, cells := 0, slots := 0, locals := 21 }) s m args below meth c H locs 0 0 Q (F0 m 45 ls [.int k0]) := by
    intro x1 x2 x3 k0 S hf H locs ls hw hl
    unfold f_X4_pact_J45 at hf
    refine lv_iload_n hx hb dX4_pact_45 rfl (lv_at hl 3 rfl) ?_
    refine lv_icmp_ne (tgt := 51) hx hb dX4_pact_46 (by decide) (fun c16 => ?_) (fun c16 => ?_)
    · replace hf := if_f c16 hf
      refine lv_aload_n hx hb dX4_pact_51 rfl (lv_at hl 0 rfl) ?_
      refine x_get X hw 5 (Nat.le_of_ble_eq_true rfl) ce5 rfl i_X4 11 (by decide) q601 ⟨rfl, rfl, rfl⟩ rfl dX4_pact_52 ?_
      refine lv_bipush (v := 6) hx hb dX4_pact_55 (by decide +kernel) ?_
      refine lv_iload_n hx hb dX4_pact_57 rfl (lv_at hl 1 rfl) ?_
      refine lv_imul hx hb dX4_pact_58 ?_
      refine lv_iload_n hx hb dX4_pact_59 rfl (lv_at hl 2 rfl) ?_
      refine lv_iadd hx hb dX4_pact_60 ?_
      refine lv_iload_n hx hb dX4_pact_61 rfl (lv_at hl 3 rfl) ?_
      refine lv_if_eq (tgt := 69) hx hb dX4_pact_62 (by decide) (fun c17 => ?_) (fun c17 => ?_)
      · replace hf := if_t c17 hf
        refine lv_iconst (v := 0) hx hb dX4_pact_69 (by decide) ?_
        exact J70 x1 x2 x3 (((6 : Int32) * x1) + x2) (0 : Int32) S hf _ _ _ hw hl
      · replace hf := if_f c17 hf
        refine lv_iconst (v := 1) hx hb dX4_pact_65 (by decide) ?_
        refine lv_goto (tgt := 70) hx hb dX4_pact_66 (by decide) ?_
        exact J70 x1 x2 x3 (((6 : Int32) * x1) + x2) (1 : Int32) S hf _ _ _ hw hl
    · replace hf := if_t c16 hf
      refine lv_iconst (v := 0) hx hb dX4_pact_49 (by decide) ?_
      exact hfin _ _ _ _ _ _ hw (s2a hf) (s2b hf) (narI _) dX4_pact_50
  unfold f_X4_pact at hf
  refine lv_iload_n hx hb dX4_pact_0 rfl (lv_at hl 1 rfl) ?_
  obtain ⟨r2, h1, hf⟩ := b1_s hf
  refine kSi X hw (c_X4_isLand l D cI cO ad a1 S r2 h1) ⟨rfl, rfl⟩ q705 q706 q64 q707 hd_X4_isLand ⟨Nat.le_of_ble_eq_true rfl, Nat.le_of_ble_eq_true rfl⟩ rfl hl.1 rfl (Nat.le_of_ble_eq_true rfl) dX4_pact_1 (fun H locs hw => ?_)
  refine lv_if_eq (tgt := 19) hx hb dX4_pact_4 (by decide) (fun c3 => ?_) (fun c3 => ?_)
  · replace hf := if_t c3 hf
    refine lv_aload_n hx hb dX4_pact_19 rfl (lv_at hl 0 rfl) ?_
    refine lv_iconst (v := -1) hx hb dX4_pact_20 (by decide) ?_
    obtain ⟨r6, S5, h4, hf⟩ := b2_s hf
    refine kVi X hw (c_X4_no l D cI cO ad (-1 : Int32) S r6 S5 h4) (Nat.le_of_ble_eq_true rfl) ce5 rfl ⟨rfl, rfl⟩ q688 q690 q34 q64 q691 hd_X4_no ⟨Nat.le_of_ble_eq_true rfl, Nat.le_of_ble_eq_true rfl⟩ rfl hl.1 rfl (Nat.le_of_ble_eq_true rfl) dX4_pact_21 (fun H locs hw => ?_)
    exact hfin _ _ _ _ _ _ hw (s2a hf) (s2b hf) (narI _) dX4_pact_24
  · replace hf := if_f c3 hf
    refine lv_iload_n hx hb dX4_pact_7 rfl (lv_at hl 2 rfl) ?_
    obtain ⟨r8, h7, hf⟩ := b1_s hf
    refine kSi X hw (c_X4_isLand l D cI cO ad a2 S r8 h7) ⟨rfl, rfl⟩ q705 q706 q64 q707 hd_X4_isLand ⟨Nat.le_of_ble_eq_true rfl, Nat.le_of_ble_eq_true rfl⟩ rfl hl.1 rfl (Nat.le_of_ble_eq_true rfl) dX4_pact_8 (fun H locs hw => ?_)
    refine lv_if_eq (tgt := 19) hx hb dX4_pact_11 (by decide) (fun c9 => ?_) (fun c9 => ?_)
    · replace hf := if_t c9 hf
      refine lv_aload_n hx hb dX4_pact_19 rfl (lv_at hl 0 rfl) ?_
      refine lv_iconst (v := -1) hx hb dX4_pact_20 (by decide) ?_
      obtain ⟨r12, S11, h10, hf⟩ := b2_s hf
      refine kVi X hw (c_X4_no l D cI cO ad (-1 : Int32) S r12 S11 h10) (Nat.le_of_ble_eq_true rfl) ce5 rfl ⟨rfl, rfl⟩ q688 q690 q34 q64 q691 hd_X4_no ⟨Nat.le_of_ble_eq_true rfl, Nat.le_of_ble_eq_true rfl⟩ rfl hl.1 rfl (Nat.le_of_ble_eq_true rfl) dX4_pact_21 (fun H locs hw => ?_)
      exact hfin _ _ _ _ _ _ hw (s2a hf) (s2b hf) (narI _) dX4_pact_24
    · replace hf := if_f c9 hf
      refine lv_iload_n hx hb dX4_pact_14 rfl (lv_at hl 1 rfl) ?_
      refine lv_iload_n hx hb dX4_pact_15 rfl (lv_at hl 2 rfl) ?_
      refine lv_icmp_ne (tgt := 25) hx hb dX4_pact_16 (by decide) (fun c13 => ?_) (fun c13 => ?_)
      · replace hf := if_f c13 hf
        refine lv_aload_n hx hb dX4_pact_25 rfl (lv_at hl 0 rfl) ?_
        refine x_get X hw 5 (Nat.le_of_ble_eq_true rfl) ce5 rfl i_X4 11 (by decide) q601 ⟨rfl, rfl, rfl⟩ rfl dX4_pact_26 ?_
        refine lv_bipush (v := 6) hx hb dX4_pact_29 (by decide +kernel) ?_
        refine lv_iload_n hx hb dX4_pact_31 rfl (lv_at hl 1 rfl) ?_
        refine lv_imul hx hb dX4_pact_32 ?_
        refine lv_iload_n hx hb dX4_pact_33 rfl (lv_at hl 2 rfl) ?_
        refine lv_iadd hx hb dX4_pact_34 ?_
        obtain ⟨h14, hf⟩ := if_s hf
        refine x_iald X hw 12 ⟨Nat.le_of_ble_eq_true rfl, Nat.le_of_ble_eq_true rfl⟩ rfl h14 ((((6 : Int32) * a1) + a2).toNatClampNeg) rfl dX4_pact_35 ?_
        refine lv_iconst (v := 1) hx hb dX4_pact_36 (by decide) ?_
        refine lv_icmp_ne (tgt := 44) hx hb dX4_pact_37 (by decide) (fun c15 => ?_) (fun c15 => ?_)
        · replace hf := if_f c15 hf
          refine lv_iconst (v := 0) hx hb dX4_pact_44 (by decide) ?_
          exact J45 a1 a2 a3 (0 : Int32) S hf _ _ _ hw hl
        · replace hf := if_t c15 hf
          refine lv_iconst (v := 1) hx hb dX4_pact_40 (by decide) ?_
          refine lv_goto (tgt := 45) hx hb dX4_pact_41 (by decide) ?_
          exact J45 a1 a2 a3 (1 : Int32) S hf _ _ _ hw hl
      · replace hf := if_t c13 hf
        refine lv_aload_n hx hb dX4_pact_19 rfl (lv_at hl 0 rfl) ?_
        refine lv_iconst (v := -1) hx hb dX4_pact_20 (by decide) ?_
        obtain ⟨r27, S26, h25, hf⟩ := b2_s hf
        refine kVi X hw (c_X4_no l D cI cO ad (-1 : Int32) S r27 S26 h25) (Nat.le_of_ble_eq_true rfl) ce5 rfl ⟨rfl, rfl⟩ q688 q690 q34 q64 q691 hd_X4_no ⟨Nat.le_of_ble_eq_true rfl, Nat.le_of_ble_eq_true rfl⟩ rfl hl.1 rfl (Nat.le_of_ble_eq_true rfl) dX4_pact_21 (fun H locs hw => ?_)
        exact hfin _ _ _ _ _ _ hw (s2a hf) (s2b hf) (narI _) dX4_pact_24
