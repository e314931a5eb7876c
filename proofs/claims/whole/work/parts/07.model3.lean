/-- NineLandsModel.alone(II)I -/
theorem dX4_alone_0 : decode cX4_alone 0 = .ok (.iload_n 1, 1) := by decide +kernel
theorem dX4_alone_1 : decode cX4_alone 1 = .ok (.invokestatic 105, 3) := by decide +kernel
theorem dX4_alone_4 : decode cX4_alone 4 = .ok (.ifCond .ne 9, 3) := by decide +kernel
theorem dX4_alone_7 : decode cX4_alone 7 = .ok (.aload_n 0, 1) := by decide +kernel
theorem dX4_alone_8 : decode cX4_alone 8 = .ok (.iconst (-1), 1) := by decide +kernel
theorem dX4_alone_9 : decode cX4_alone 9 = .ok (.invokevirtual 85, 3) := by decide +kernel
theorem dX4_alone_12 : decode cX4_alone 12 = .ok (.ireturn, 1) := by decide +kernel
theorem dX4_alone_13 : decode cX4_alone 13 = .ok (.iload_n 2, 1) := by decide +kernel
theorem dX4_alone_14 : decode cX4_alone 14 = .ok (.iconst 0, 1) := by decide +kernel
theorem dX4_alone_15 : decode cX4_alone 15 = .ok (.iconst 5, 1) := by decide +kernel
theorem dX4_alone_16 : decode cX4_alone 16 = .ok (.invokestatic 98, 3) := by decide +kernel
theorem dX4_alone_19 : decode cX4_alone 19 = .ok (.ifCond .ne 10, 3) := by decide +kernel
theorem dX4_alone_22 : decode cX4_alone 22 = .ok (.aload_n 0, 1) := by decide +kernel
theorem dX4_alone_23 : decode cX4_alone 23 = .ok (.bipush (-2), 2) := by decide +kernel
theorem dX4_alone_25 : decode cX4_alone 25 = .ok (.invokevirtual 85, 3) := by decide +kernel
theorem dX4_alone_28 : decode cX4_alone 28 = .ok (.ireturn, 1) := by decide +kernel
theorem dX4_alone_29 : decode cX4_alone 29 = .ok (.aload_n 0, 1) := by decide +kernel
theorem dX4_alone_30 : decode cX4_alone 30 = .ok (.aload_n 0, 1) := by decide +kernel
theorem dX4_alone_31 : decode cX4_alone 31 = .ok (.getfield 102, 3) := by decide +kernel
theorem dX4_alone_34 : decode cX4_alone 34 = .ok (.invokevirtual 133, 3) := by decide +kernel
theorem dX4_alone_37 : decode cX4_alone 37 = .ok (.aload_n 0, 1) := by decide +kernel
theorem dX4_alone_38 : decode cX4_alone 38 = .ok (.iload_n 1, 1) := by decide +kernel
theorem dX4_alone_39 : decode cX4_alone 39 = .ok (.iload_n 2, 1) := by decide +kernel
theorem dX4_alone_40 : decode cX4_alone 40 = .ok (.iconst 0, 1) := by decide +kernel
theorem dX4_alone_41 : decode cX4_alone 41 = .ok (.invokevirtual 160, 3) := by decide +kernel
theorem dX4_alone_44 : decode cX4_alone 44 = .ok (.ireturn, 1) := by decide +kernel
theorem hd_X4_alone : yX4_alone.cls ≠ "java/lang/invoke/MethodHandle" ∧ yX4_alone.cls ≠ "java/lang/invoke/VarHandle" ∧ (parseMethodDescriptor yX4_alone.desc).map (fun d => d.parameters.length) = some 2 := by decide +kernel
def f_X4_alone (a1 : Int32) (a2 : Int32) (S : vS) : Option (Int32 × vS) := b1 (f_X4_isLand a1 S) fun r2 => if r2 = 0 then b2 (f_X4_no (-1 : Int32) S) fun r16 S15 => some (r16, S15) else b1 (f_X4_isIn a2 (0 : Int32) (5 : Int32) S) fun r5 => if r5 = 0 then b2 (f_X4_no (-2 : Int32) S) fun r13 S12 => some (r13, S12) else b1 (f_X4_findMonths (S 0 2) S) fun S8 => b1 (f_X4_says a1 a2 (0 : Int32) S8) fun r10 => some (r10, S8)
set_option maxHeartbeats 4000000 in
set_option maxRecDepth 20000 in
theorem c_X4_alone (l : Launch) (D : va_G) (cI cO : ClassId) (ad : Nat → Nat) (a1 : Int32) (a2 : Int32) (S : vS) (R9 : Int32) (S9 : vS) (hf : f_X4_alone a1 a2 S = some (R9, S9)) : CI l yX4_alone cX4_alone 3 .int ({ frames := 4, cells := 0, slots := 0, locals := 90 }) [.ref (ad 5), .int a1, .int a2] D cI cO ad S R9 S9 := by
  refine CI.of (by decide +kernel) (Nat.le_of_ble_eq_true rfl) (fun p e s m args below meth c Q ls X hl hw hfin => ?_)
  have hl : lv_has ls 3 [(0, .ref (ad 5)), (1, .int a1), (2, .int a2)] := hl
  have hx := X.1
  have hb := X.2.1
  unfold f_X4_alone at hf
  refine lv_iload_n hx hb dX4_alone_0 rfl (lv_at hl 1 rfl) ?_
  obtain ⟨r2, h1, hf⟩ := b1_s hf
  refine kSi X hw (c_X4_isLand l D cI cO ad a1 S r2 h1) ⟨rfl, rfl⟩ q705 q706 q64 q707 hd_X4_isLand ⟨Nat.le_of_ble_eq_true rfl, Nat.le_of_ble_eq_true rfl⟩ rfl hl.1 rfl (Nat.le_of_ble_eq_true rfl) dX4_alone_1 (fun H locs hw => ?_)
  refine lv_if_ne (tgt := 13) hx hb dX4_alone_4 (by decide) (fun c3 => ?_) (fun c3 => ?_)
  · replace hf := if_f c3 hf
    refine lv_iload_n hx hb dX4_alone_13 rfl (lv_at hl 2 rfl) ?_
    refine lv_iconst (v := 0) hx hb dX4_alone_14 (by decide) ?_
    refine lv_iconst (v := 5) hx hb dX4_alone_15 (by decide) ?_
    obtain ⟨r5, h4, hf⟩ := b1_s hf
    refine kSi X hw (c_X4_isIn l D cI cO ad a2 (0 : Int32) (5 : Int32) S r5 h4) ⟨rfl, rfl⟩ q712 q713 q64 q714 hd_X4_isIn ⟨Nat.le_of_ble_eq_true rfl, Nat.le_of_ble_eq_true rfl⟩ rfl hl.1 rfl (Nat.le_of_ble_eq_true rfl) dX4_alone_16 (fun H locs hw => ?_)
    refine lv_if_ne (tgt := 29) hx hb dX4_alone_19 (by decide) (fun c6 => ?_) (fun c6 => ?_)
    · replace hf := if_f c6 hf
      refine lv_aload_n hx hb dX4_alone_29 rfl (lv_at hl 0 rfl) ?_
      refine lv_aload_n hx hb dX4_alone_30 rfl (lv_at hl 0 rfl) ?_
      refine x_get X hw 5 (Nat.le_of_ble_eq_true rfl) ce5 rfl i_X4 15 (by decide) q605 ⟨rfl, rfl, rfl⟩ rfl dX4_alone_31 ?_
      obtain ⟨S8, h7, hf⟩ := b1_s hf
      refine kVv X hw (c_X4_findMonths l D cI cO ad (S 0 2) S S8 h7) (Nat.le_of_ble_eq_true rfl) ce5 rfl ⟨rfl, rfl⟩ q747 q749 q40 q64 q750 hd_X4_findMonths ⟨Nat.le_of_ble_eq_true rfl, Nat.le_of_ble_eq_true rfl⟩ rfl hl.1 rfl (Nat.le_of_ble_eq_true rfl) dX4_alone_34 (fun H locs hw => ?_)
      refine lv_aload_n hx hb dX4_alone_37 rfl (lv_at hl 0 rfl) ?_
      refine lv_iload_n hx hb dX4_alone_38 rfl (lv_at hl 1 rfl) ?_
      refine lv_iload_n hx hb dX4_alone_39 rfl (lv_at hl 2 rfl) ?_
      refine lv_iconst (v := 0) hx hb dX4_alone_40 (by decide) ?_
      obtain ⟨r10, h9, hf⟩ := b1_s hf
      refine kVi X hw (c_X4_says l D cI cO ad a1 a2 (0 : Int32) S8 r10 h9) (Nat.le_of_ble_eq_true rfl) ce5 rfl ⟨rfl, rfl⟩ q775 q777 q44 q64 q778 hd_X4_says ⟨Nat.le_of_ble_eq_true rfl, Nat.le_of_ble_eq_true rfl⟩ rfl hl.1 rfl (Nat.le_of_ble_eq_true rfl) dX4_alone_41 (fun H locs hw => ?_)
      exact hfin _ _ _ _ _ _ hw (s2a hf) (s2b hf) (narI _) dX4_alone_44
    · replace hf := if_t c6 hf
      refine lv_aload_n hx hb dX4_alone_22 rfl (lv_at hl 0 rfl) ?_
      refine lv_bipush (v := -2) hx hb dX4_alone_23 (by decide +kernel) ?_
      obtain ⟨r13, S12, h11, hf⟩ := b2_s hf
      refine kVi X hw (c_X4_no l D cI cO ad (-2 : Int32) S r13 S12 h11) (Nat.le_of_ble_eq_true rfl) ce5 rfl ⟨rfl, rfl⟩ q688 q690 q34 q64 q691 hd_X4_no ⟨Nat.le_of_ble_eq_true rfl, Nat.le_of_ble_eq_true rfl⟩ rfl hl.1 rfl (Nat.le_of_ble_eq_true rfl) dX4_alone_25 (fun H locs hw => ?_)
      exact hfin _ _ _ _ _ _ hw (s2a hf) (s2b hf) (narI _) dX4_alone_28
  · replace hf := if_t c3 hf
    refine lv_aload_n hx hb dX4_alone_7 rfl (lv_at hl 0 rfl) ?_
    refine lv_iconst (v := -1) hx hb dX4_alone_8 (by decide) ?_
    obtain ⟨r16, S15, h14, hf⟩ := b2_s hf
    refine kVi X hw (c_X4_no l D cI cO ad (-1 : Int32) S r16 S15 h14) (Nat.le_of_ble_eq_true rfl) ce5 rfl ⟨rfl, rfl⟩ q688 q690 q34 q64 q691 hd_X4_no ⟨Nat.le_of_ble_eq_true rfl, Nat.le_of_ble_eq_true rfl⟩ rfl hl.1 rfl (Nat.le_of_ble_eq_true rfl) dX4_alone_9 (fun H locs hw => ?_)
    exact hfin _ _ _ _ _ _ hw (s2a hf) (s2b hf) (narI _) dX4_alone_12
/-- NineLandsModel.lacks(IZ)I -/
theorem dX4_lacks_0 : decode cX4_lacks 0 = .ok (.iload_n 1, 1) := by decide +kernel
theorem dX4_lacks_1 : decode cX4_lacks 1 = .ok (.invokestatic 105, 3) := by decide +kernel
theorem dX4_lacks_4 : decode cX4_lacks 4 = .ok (.ifCond .ne 9, 3) := by decide +kernel
theorem dX4_lacks_7 : decode cX4_lacks 7 = .ok (.aload_n 0, 1) := by decide +kernel
theorem dX4_lacks_8 : decode cX4_lacks 8 = .ok (.iconst (-1), 1) := by decide +kernel
theorem dX4_lacks_9 : decode cX4_lacks 9 = .ok (.invokevirtual 85, 3) := by decide +kernel
theorem dX4_lacks_12 : decode cX4_lacks 12 = .ok (.ireturn, 1) := by decide +kernel
theorem dX4_lacks_13 : decode cX4_lacks 13 = .ok (.aload_n 0, 1) := by decide +kernel
theorem dX4_lacks_14 : decode cX4_lacks 14 = .ok (.aload_n 0, 1) := by decide +kernel
theorem dX4_lacks_15 : decode cX4_lacks 15 = .ok (.getfield 102, 3) := by decide +kernel
theorem dX4_lacks_18 : decode cX4_lacks 18 = .ok (.invokevirtual 133, 3) := by decide +kernel
theorem dX4_lacks_21 : decode cX4_lacks 21 = .ok (.aload_n 0, 1) := by decide +kernel
theorem dX4_lacks_22 : decode cX4_lacks 22 = .ok (.iload_n 1, 1) := by decide +kernel
theorem dX4_lacks_23 : decode cX4_lacks 23 = .ok (.iconst 0, 1) := by decide +kernel
theorem dX4_lacks_24 : decode cX4_lacks 24 = .ok (.invokevirtual 122, 3) := by decide +kernel
theorem dX4_lacks_27 : decode cX4_lacks 27 = .ok (.iconst 1, 1) := by decide +kernel
theorem dX4_lacks_28 : decode cX4_lacks 28 = .ok (.invokestatic 143, 3) := by decide +kernel
theorem dX4_lacks_31 : decode cX4_lacks 31 = .ok (.iload_n 2, 1) := by decide +kernel
theorem dX4_lacks_32 : decode cX4_lacks 32 = .ok (.ifCond .eq 12, 3) := by decide +kernel
theorem dX4_lacks_35 : decode cX4_lacks 35 = .ok (.aload_n 0, 1) := by decide +kernel
theorem dX4_lacks_36 : decode cX4_lacks 36 = .ok (.getfield 62, 3) := by decide +kernel
theorem dX4_lacks_39 : decode cX4_lacks 39 = .ok (.iload_n 1, 1) := by decide +kernel
theorem dX4_lacks_40 : decode cX4_lacks 40 = .ok (.iaload, 1) := by decide +kernel
theorem dX4_lacks_41 : decode cX4_lacks 41 = .ok (.goto 9, 3) := by decide +kernel
theorem dX4_lacks_44 : decode cX4_lacks 44 = .ok (.aload_n 0, 1) := by decide +kernel
theorem dX4_lacks_45 : decode cX4_lacks 45 = .ok (.getfield 56, 3) := by decide +kernel
theorem dX4_lacks_48 : decode cX4_lacks 48 = .ok (.iload_n 1, 1) := by decide +kernel
theorem dX4_lacks_49 : decode cX4_lacks 49 = .ok (.iaload, 1) := by decide +kernel
theorem dX4_lacks_50 : decode cX4_lacks 50 = .ok (.isub, 1) := by decide +kernel
theorem dX4_lacks_51 : decode cX4_lacks 51 = .ok (.iconst 0, 1) := by decide +kernel
theorem dX4_lacks_52 : decode cX4_lacks 52 = .ok (.invokestatic 143, 3) := by decide +kernel
theorem dX4_lacks_55 : decode cX4_lacks 55 = .ok (.ireturn, 1) := by decide +kernel
theorem hd_X4_lacks : yX4_lacks.cls ≠ "java/lang/invoke/MethodHandle" ∧ yX4_lacks.cls ≠ "java/lang/invoke/VarHandle" ∧ (parseMethodDescriptor yX4_lacks.desc).map (fun d => d.parameters.length) = some 2 := by decide +kernel
def f_X4_lacks (a1 : Int32) (a2 : Int32) (S : vS) : Option (Int32 × vS) := b1 (f_X4_isLand a1 S) fun r2 => if r2 = 0 then b2 (f_X4_no (-1 : Int32) S) fun r19 S18 => some (r19, S18) else b1 (f_X4_findMonths (S 0 2) S) fun S5 => b1 (f_X4_lawOf a1 (0 : Int32) S5) fun r7 => b1 (f_X4_greater r7 (1 : Int32) S5) fun r9 => if a2 = 0 then if inb a1 6 = true then b1 (f_X4_greater (r9 - (S5 15 (a1.toNatClampNeg))) (0 : Int32) S5) fun r13 => some (r13, S5) else none else if inb a1 6 = true then b1 (f_X4_greater (r9 - (S5 17 (a1.toNatClampNeg))) (0 : Int32) S5) fun r16 => some (r16, S5) else none
set_option maxHeartbeats 4000000 in
set_option maxRecDepth 20000 in
theorem c_X4_lacks (l : Launch) (D : va_G) (cI cO : ClassId) (ad : Nat → Nat) (a1 : Int32) (a2 : Int32) (S : vS) (R9 : Int32) (S9 : vS) (hf : f_X4_lacks a1 a2 S = some (R9, S9)) : CI l yX4_lacks cX4_lacks 3 .int ({ frames := 3, cells := 0, slots := 0, locals := 71 }) [.ref (ad 5), .int a1, .int a2] D cI cO ad S R9 S9 := by
  refine CI.of (by decide +kernel) (Nat.le_of_ble_eq_true rfl) (fun p e s m args below meth c Q ls X hl hw hfin => ?_)
  have hl : lv_has ls 3 [(0, .ref (ad 5)), (1, .int a1), (2, .int a2)] := hl
  have hx := X.1
  have hb := X.2.1
  unfold f_X4_lacks at hf
  refine lv_iload_n hx hb dX4_lacks_0 rfl (lv_at hl 1 rfl) ?_
  obtain ⟨r2, h1, hf⟩ := b1_s hf
  refine kSi X hw (c_X4_isLand l D cI cO ad a1 S r2 h1) ⟨rfl, rfl⟩ q705 q706 q64 q707 hd_X4_isLand ⟨Nat.le_of_ble_eq_true rfl, Nat.le_of_ble_eq_true rfl⟩ rfl hl.1 rfl (Nat.le_of_ble_eq_true rfl) dX4_lacks_1 (fun H locs hw => ?_)
  refine lv_if_ne (tgt := 13) hx hb dX4_lacks_4 (by decide) (fun c3 => ?_) (fun c3 => ?_)
  · replace hf := if_f c3 hf
    refine lv_aload_n hx hb dX4_lacks_13 rfl (lv_at hl 0 rfl) ?_
    refine lv_aload_n hx hb dX4_lacks_14 rfl (lv_at hl 0 rfl) ?_
    refine x_get X hw 5 (Nat.le_of_ble_eq_true rfl) ce5 rfl i_X4 15 (by decide) q605 ⟨rfl, rfl, rfl⟩ rfl dX4_lacks_15 ?_
    obtain ⟨S5, h4, hf⟩ := b1_s hf
    refine kVv X hw (c_X4_findMonths l D cI cO ad (S 0 2) S S5 h4) (Nat.le_of_ble_eq_true rfl) ce5 rfl ⟨rfl, rfl⟩ q747 q749 q40 q64 q750 hd_X4_findMonths ⟨Nat.le_of_ble_eq_true rfl, Nat.le_of_ble_eq_true rfl⟩ rfl hl.1 rfl (Nat.le_of_ble_eq_true rfl) dX4_lacks_18 (fun H locs hw => ?_)
    refine lv_aload_n hx hb dX4_lacks_21 rfl (lv_at hl 0 rfl) ?_
    refine lv_iload_n hx hb dX4_lacks_22 rfl (lv_at hl 1 rfl) ?_
    refine lv_iconst (v := 0) hx hb dX4_lacks_23 (by decide) ?_
    obtain ⟨r7, h6, hf⟩ := b1_s hf
    refine kVi X hw (c_X4_lawOf l D cI cO ad a1 (0 : Int32) S5 r7 h6) (Nat.le_of_ble_eq_true rfl) ce5 rfl ⟨rfl, rfl⟩ q751 q753 q41 q64 q754 hd_X4_lawOf ⟨Nat.le_of_ble_eq_true rfl, Nat.le_of_ble_eq_true rfl⟩ rfl hl.1 rfl (Nat.le_of_ble_eq_true rfl) dX4_lacks_24 (fun H locs hw => ?_)
    refine lv_iconst (v := 1) hx hb dX4_lacks_27 (by decide) ?_
    obtain ⟨r9, h8, hf⟩ := b1_s hf
    refine kSi X hw (c_X4_greater l D cI cO ad r7 (1 : Int32) S5 r9 h8) ⟨rfl, rfl⟩ q791 q792 q64 q793 hd_X4_greater ⟨Nat.le_of_ble_eq_true rfl, Nat.le_of_ble_eq_true rfl⟩ rfl hl.1 rfl (Nat.le_of_ble_eq_true rfl) dX4_lacks_28 (fun H locs hw => ?_)
    refine lv_iload_n hx hb dX4_lacks_31 rfl (lv_at hl 2 rfl) ?_
    refine lv_if_eq (tgt := 44) hx hb dX4_lacks_32 (by decide) (fun c10 => ?_) (fun c10 => ?_)
    · replace hf := if_t c10 hf
      refine lv_aload_n hx hb dX4_lacks_44 rfl (lv_at hl 0 rfl) ?_
      refine x_get X hw 5 (Nat.le_of_ble_eq_true rfl) ce5 rfl i_X4 18 (by decide) q608 ⟨rfl, rfl, rfl⟩ rfl dX4_lacks_45 ?_
      refine lv_iload_n hx hb dX4_lacks_48 rfl (lv_at hl 1 rfl) ?_
      obtain ⟨h11, hf⟩ := if_s hf
      refine x_iald X hw 15 ⟨Nat.le_of_ble_eq_true rfl, Nat.le_of_ble_eq_true rfl⟩ rfl h11 (a1.toNatClampNeg) rfl dX4_lacks_49 ?_
      refine lv_isub hx hb dX4_lacks_50 ?_
      refine lv_iconst (v := 0) hx hb dX4_lacks_51 (by decide) ?_
      obtain ⟨r13, h12, hf⟩ := b1_s hf
      refine kSi X hw (c_X4_greater l D cI cO ad (r9 - (S5 15 (a1.toNatClampNeg))) (0 : Int32) S5 r13 h12) ⟨rfl, rfl⟩ q791 q792 q64 q793 hd_X4_greater ⟨Nat.le_of_ble_eq_true rfl, Nat.le_of_ble_eq_true rfl⟩ rfl hl.1 rfl (Nat.le_of_ble_eq_true rfl) dX4_lacks_52 (fun H locs hw => ?_)
      exact hfin _ _ _ _ _ _ hw (s2a hf) (s2b hf) (narI _) dX4_lacks_55
    · replace hf := if_f c10 hf
      refine lv_aload_n hx hb dX4_lacks_35 rfl (lv_at hl 0 rfl) ?_
      refine x_get X hw 5 (Nat.le_of_ble_eq_true rfl) ce5 rfl i_X4 20 (by decide) q610 ⟨rfl, rfl, rfl⟩ rfl dX4_lacks_36 ?_
      refine lv_iload_n hx hb dX4_lacks_39 rfl (lv_at hl 1 rfl) ?_
      obtain ⟨h14, hf⟩ := if_s hf
      refine x_iald X hw 17 ⟨Nat.le_of_ble_eq_true rfl, Nat.le_of_ble_eq_true rfl⟩ rfl h14 (a1.toNatClampNeg) rfl dX4_lacks_40 ?_
      refine lv_goto (tgt := 50) hx hb dX4_lacks_41 (by decide) ?_
      refine lv_isub hx hb dX4_lacks_50 ?_
      refine lv_iconst (v := 0) hx hb dX4_lacks_51 (by decide) ?_
      obtain ⟨r16, h15, hf⟩ := b1_s hf
      refine kSi X hw (c_X4_greater l D cI cO ad (r9 - (S5 17 (a1.toNatClampNeg))) (0 : Int32) S5 r16 h15) ⟨rfl, rfl⟩ q791 q792 q64 q793 hd_X4_greater ⟨Nat.le_of_ble_eq_true rfl, Nat.le_of_ble_eq_true rfl⟩ rfl hl.1 rfl (Nat.le_of_ble_eq_true rfl) dX4_lacks_52 (fun H locs hw => ?_)
      exact hfin _ _ _ _ _ _ hw (s2a hf) (s2b hf) (narI _) dX4_lacks_55
  · replace hf := if_t c3 hf
    refine lv_aload_n hx hb dX4_lacks_7 rfl (lv_at hl 0 rfl) ?_
    refine lv_iconst (v := -1) hx hb dX4_lacks_8 (by decide) ?_
    obtain ⟨r19, S18, h17, hf⟩ := b2_s hf
    refine kVi X hw (c_X4_no l D cI cO ad (-1 : Int32) S r19 S18 h17) (Nat.le_of_ble_eq_true rfl) ce5 rfl ⟨rfl, rfl⟩ q688 q690 q34 q64 q691 hd_X4_no ⟨Nat.le_of_ble_eq_true rfl, Nat.le_of_ble_eq_true rfl⟩ rfl hl.1 rfl (Nat.le_of_ble_eq_true rfl) dX4_lacks_9 (fun H locs hw => ?_)
    exact hfin _ _ _ _ _ _ hw (s2a hf) (s2b hf) (narI _) dX4_lacks_12
/-- NineLandsModel.owed(I)I -/
theorem dX4_owed_0 : decode cX4_owed 0 = .ok (.iload_n 1, 1) := by decide +kernel
theorem dX4_owed_1 : decode cX4_owed 1 = .ok (.invokestatic 105, 3) := by decide +kernel
theorem dX4_owed_4 : decode cX4_owed 4 = .ok (.ifCond .ne 9, 3) := by decide +kernel
theorem dX4_owed_7 : decode cX4_owed 7 = .ok (.aload_n 0, 1) := by decide +kernel
theorem dX4_owed_8 : decode cX4_owed 8 = .ok (.iconst (-1), 1) := by decide +kernel
theorem dX4_owed_9 : decode cX4_owed 9 = .ok (.invokevirtual 85, 3) := by decide +kernel
theorem dX4_owed_12 : decode cX4_owed 12 = .ok (.ireturn, 1) := by decide +kernel
theorem dX4_owed_13 : decode cX4_owed 13 = .ok (.aload_n 0, 1) := by decide +kernel
theorem dX4_owed_14 : decode cX4_owed 14 = .ok (.aload_n 0, 1) := by decide +kernel
theorem dX4_owed_15 : decode cX4_owed 15 = .ok (.getfield 102, 3) := by decide +kernel
theorem dX4_owed_18 : decode cX4_owed 18 = .ok (.invokevirtual 163, 3) := by decide +kernel
theorem dX4_owed_21 : decode cX4_owed 21 = .ok (.aload_n 0, 1) := by decide +kernel
theorem dX4_owed_22 : decode cX4_owed 22 = .ok (.getfield 68, 3) := by decide +kernel
theorem dX4_owed_25 : decode cX4_owed 25 = .ok (.iload_n 1, 1) := by decide +kernel
theorem dX4_owed_26 : decode cX4_owed 26 = .ok (.iaload, 1) := by decide +kernel
theorem dX4_owed_27 : decode cX4_owed 27 = .ok (.ireturn, 1) := by decide +kernel
theorem hd_X4_owed : yX4_owed.cls ≠ "java/lang/invoke/MethodHandle" ∧ yX4_owed.cls ≠ "java/lang/invoke/VarHandle" ∧ (parseMethodDescriptor yX4_owed.desc).map (fun d => d.parameters.length) = some 1 := by decide +kernel
def f_X4_owed (a1 : Int32) (S : vS) : Option (Int32 × vS) := b1 (f_X4_isLand a1 S) fun r2 => if r2 = 0 then b2 (f_X4_no (-1 : Int32) S) fun r9 S8 => some (r9, S8) else b1 (f_X4_finds (S 0 2) S) fun S5 => if inb a1 6 = true then some ((S5 19 (a1.toNatClampNeg)), S5) else none
set_option maxHeartbeats 4000000 in
set_option maxRecDepth 20000 in
theorem c_X4_owed (l : Launch) (D : va_G) (cI cO : ClassId) (ad : Nat → Nat) (a1 : Int32) (S : vS) (R9 : Int32) (S9 : vS) (hf : f_X4_owed a1 S = some (R9, S9)) : CI l yX4_owed cX4_owed 2 .int ({ frames := 5, cells := 0, slots := 0, locals := 114 }) [.ref (ad 5), .int a1] D cI cO ad S R9 S9 := by
  refine CI.of (by decide +kernel) (Nat.le_of_ble_eq_true rfl) (fun p e s m args below meth c Q ls X hl hw hfin => ?_)
  have hl : lv_has ls 2 [(0, .ref (ad 5)), (1, .int a1)] := hl
  have hx := X.1
  have hb := X.2.1
  unfold f_X4_owed at hf
  refine lv_iload_n hx hb dX4_owed_0 rfl (lv_at hl 1 rfl) ?_
  obtain ⟨r2, h1, hf⟩ := b1_s hf
  refine kSi X hw (c_X4_isLand l D cI cO ad a1 S r2 h1) ⟨rfl, rfl⟩ q705 q706 q64 q707 hd_X4_isLand ⟨Nat.le_of_ble_eq_true rfl, Nat.le_of_ble_eq_true rfl⟩ rfl hl.1 rfl (Nat.le_of_ble_eq_true rfl) dX4_owed_1 (fun H locs hw => ?_)
  refine lv_if_ne (tgt := 13) hx hb dX4_owed_4 (by decide) (fun c3 => ?_) (fun c3 => ?_)
  · replace hf := if_f c3 hf
    refine lv_aload_n hx hb dX4_owed_13 rfl (lv_at hl 0 rfl) ?_
    refine lv_aload_n hx hb dX4_owed_14 rfl (lv_at hl 0 rfl) ?_
    refine x_get X hw 5 (Nat.le_of_ble_eq_true rfl) ce5 rfl i_X4 15 (by decide) q605 ⟨rfl, rfl, rfl⟩ rfl dX4_owed_15 ?_
    obtain ⟨S5, h4, hf⟩ := b1_s hf
    refine kVv X hw (c_X4_finds l D cI cO ad (S 0 2) S S5 h4) (Nat.le_of_ble_eq_true rfl) ce5 rfl ⟨rfl, rfl⟩ q806 q808 q49 q64 q809 hd_X4_finds ⟨Nat.le_of_ble_eq_true rfl, Nat.le_of_ble_eq_true rfl⟩ rfl hl.1 rfl (Nat.le_of_ble_eq_true rfl) dX4_owed_18 (fun H locs hw => ?_)
    refine lv_aload_n hx hb dX4_owed_21 rfl (lv_at hl 0 rfl) ?_
    refine x_get X hw 5 (Nat.le_of_ble_eq_true rfl) ce5 rfl i_X4 22 (by decide) q612 ⟨rfl, rfl, rfl⟩ rfl dX4_owed_22 ?_
    refine lv_iload_n hx hb dX4_owed_25 rfl (lv_at hl 1 rfl) ?_
    obtain ⟨h6, hf⟩ := if_s hf
    refine x_iald X hw 19 ⟨Nat.le_of_ble_eq_true rfl, Nat.le_of_ble_eq_true rfl⟩ rfl h6 (a1.toNatClampNeg) rfl dX4_owed_26 ?_
    exact hfin _ _ _ _ _ _ hw (s2a hf) (s2b hf) (narI _) dX4_owed_27
  · replace hf := if_t c3 hf
    refine lv_aload_n hx hb dX4_owed_7 rfl (lv_at hl 0 rfl) ?_
    refine lv_iconst (v := -1) hx hb dX4_owed_8 (by decide) ?_
    obtain ⟨r9, S8, h7, hf⟩ := b2_s hf
    refine kVi X hw (c_X4_no l D cI cO ad (-1 : Int32) S r9 S8 h7) (Nat.le_of_ble_eq_true rfl) ce5 rfl ⟨rfl, rfl⟩ q688 q690 q34 q64 q691 hd_X4_no ⟨Nat.le_of_ble_eq_true rfl, Nat.le_of_ble_eq_true rfl⟩ rfl hl.1 rfl (Nat.le_of_ble_eq_true rfl) dX4_owed_9 (fun H locs hw => ?_)
    exact hfin _ _ _ _ _ _ hw (s2a hf) (s2b hf) (narI _) dX4_owed_12
/-- NineLandsModel.rests()I -/
theorem dX4_rests_0 : decode cX4_rests 0 = .ok (.aload_n 0, 1) := by decide +kernel
theorem dX4_rests_1 : decode cX4_rests 1 = .ok (.aload_n 0, 1) := by decide +kernel
theorem dX4_rests_2 : decode cX4_rests 2 = .ok (.getfield 102, 3) := by decide +kernel
theorem dX4_rests_5 : decode cX4_rests 5 = .ok (.invokevirtual 163, 3) := by decide +kernel
theorem dX4_rests_8 : decode cX4_rests 8 = .ok (.aload_n 0, 1) := by decide +kernel
theorem dX4_rests_9 : decode cX4_rests 9 = .ok (.getfield 152, 3) := by decide +kernel
theorem dX4_rests_12 : decode cX4_rests 12 = .ok (.ifCond .eq 7, 3) := by decide +kernel
theorem dX4_rests_15 : decode cX4_rests 15 = .ok (.iconst 1, 1) := by decide +kernel
theorem dX4_rests_16 : decode cX4_rests 16 = .ok (.goto 4, 3) := by decide +kernel
theorem dX4_rests_19 : decode cX4_rests 19 = .ok (.iconst 0, 1) := by decide +kernel
theorem dX4_rests_20 : decode cX4_rests 20 = .ok (.ireturn, 1) := by decide +kernel
theorem hd_X4_rests : yX4_rests.cls ≠ "java/lang/invoke/MethodHandle" ∧ yX4_rests.cls ≠ "java/lang/invoke/VarHandle" ∧ (parseMethodDescriptor yX4_rests.desc).map (fun d => d.parameters.length) = some 0 := by decide +kernel
def f_X4_rests  (S : vS) : Option (Int32 × vS) := b1 (f_X4_finds (S 0 2) S) fun S2 => if (S2 0 4) = 0 then some ((0 : Int32), S2) else some ((1 : Int32), S2)
set_option maxHeartbeats 4000000 in
set_option maxRecDepth 20000 in
theorem c_X4_rests (l : Launch) (D : va_G) (cI cO : ClassId) (ad : Nat → Nat)  (S : vS) (R9 : Int32) (S9 : vS) (hf : f_X4_rests  S = some (R9, S9)) : CI l yX4_rests cX4_rests 1 .int ({ frames := 5, cells := 0, slots := 0, locals := 114 }) [.ref (ad 5)] D cI cO ad S R9 S9 := by
  refine CI.of (by decide +kernel) (Nat.le_of_ble_eq_true rfl) (fun p e s m args below meth c Q ls X hl hw hfin => ?_)
  have hl : lv_has ls 1 [(0, .ref (ad 5))] := hl
  have hx := X.1
  have hb := X.2.1
  unfold f_X4_rests at hf
  refine lv_aload_n hx hb dX4_rests_0 rfl (lv_at hl 0 rfl) ?_
  refine lv_aload_n hx hb dX4_rests_1 rfl (lv_at hl 0 rfl) ?_
  refine x_get X hw 5 (Nat.le_of_ble_eq_true rfl) ce5 rfl i_X4 15 (by decide) q605 ⟨rfl, rfl, rfl⟩ rfl dX4_rests_2 ?_
  obtain ⟨S2, h1, hf⟩ := b1_s hf
  refine kVv X hw (c_X4_finds l D cI cO ad (S 0 2) S S2 h1) (Nat.le_of_ble_eq_true rfl) ce5 rfl ⟨rfl, rfl⟩ q806 q808 q49 q64 q809 hd_X4_finds ⟨Nat.le_of_ble_eq_true rfl, Nat.le_of_ble_eq_true rfl⟩ rfl hl.1 rfl (Nat.le_of_ble_eq_true rfl) dX4_rests_5 (fun H locs hw => ?_)
  refine lv_aload_n hx hb dX4_rests_8 rfl (lv_at hl 0 rfl) ?_
  refine x_get X hw 5 (Nat.le_of_ble_eq_true rfl) ce5 rfl i_X4 23 (by decide) q613 ⟨rfl, rfl, rfl⟩ rfl dX4_rests_9 ?_
  refine lv_if_eq (tgt := 19) hx hb dX4_rests_12 (by decide) (fun c3 => ?_) (fun c3 => ?_)
  · replace hf := if_t c3 hf
    refine lv_iconst (v := 0) hx hb dX4_rests_19 (by decide) ?_
    exact hfin _ _ _ _ _ _ hw (s2a hf) (s2b hf) (narI _) dX4_rests_20
  · replace hf := if_f c3 hf
    refine lv_iconst (v := 1) hx hb dX4_rests_15 (by decide) ?_
    refine lv_goto (tgt := 20) hx hb dX4_rests_16 (by decide) ?_
    exact hfin _ _ _ _ _ _ hw (s2a hf) (s2b hf) (narI _) dX4_rests_20
/-- NineLandsModel.all()I -/
theorem dX4_all_0 : decode cX4_all 0 = .ok (.aload_n 0, 1) := by decide +kernel
theorem dX4_all_1 : decode cX4_all 1 = .ok (.aload_n 0, 1) := by decide +kernel
theorem dX4_all_2 : decode cX4_all 2 = .ok (.getfield 102, 3) := by decide +kernel
theorem dX4_all_5 : decode cX4_all 5 = .ok (.invokevirtual 163, 3) := by decide +kernel
theorem dX4_all_8 : decode cX4_all 8 = .ok (.aload_n 0, 1) := by decide +kernel
theorem dX4_all_9 : decode cX4_all 9 = .ok (.aload_n 0, 1) := by decide +kernel
theorem dX4_all_10 : decode cX4_all 10 = .ok (.getfield 68, 3) := by decide +kernel
theorem dX4_all_13 : decode cX4_all 13 = .ok (.invokevirtual 156, 3) := by decide +kernel
theorem dX4_all_16 : decode cX4_all 16 = .ok (.ireturn, 1) := by decide +kernel
theorem hd_X4_all : yX4_all.cls ≠ "java/lang/invoke/MethodHandle" ∧ yX4_all.cls ≠ "java/lang/invoke/VarHandle" ∧ (parseMethodDescriptor yX4_all.desc).map (fun d => d.parameters.length) = some 0 := by decide +kernel
def f_X4_all  (S : vS) : Option (Int32 × vS) := b1 (f_X4_finds (S 0 2) S) fun S2 => b1 (f_X4_sumOf 19 S2) fun r4 => some (r4, S2)
set_option maxHeartbeats 4000000 in
set_option maxRecDepth 20000 in
theorem c_X4_all (l : Launch) (D : va_G) (cI cO : ClassId) (ad : Nat → Nat)  (S : vS) (R9 : Int32) (S9 : vS) (hf : f_X4_all  S = some (R9, S9)) : CI l yX4_all cX4_all 1 .int ({ frames := 5, cells := 0, slots := 0, locals := 114 }) [.ref (ad 5)] D cI cO ad S R9 S9 := by
  refine CI.of (by decide +kernel) (Nat.le_of_ble_eq_true rfl) (fun p e s m args below meth c Q ls X hl hw hfin => ?_)
  have hl : lv_has ls 1 [(0, .ref (ad 5))] := hl
  have hx := X.1
  have hb := X.2.1
  unfold f_X4_all at hf
  refine lv_aload_n hx hb dX4_all_0 rfl (lv_at hl 0 rfl) ?_
  refine lv_aload_n hx hb dX4_all_1 rfl (lv_at hl 0 rfl) ?_
  refine x_get X hw 5 (Nat.le_of_ble_eq_true rfl) ce5 rfl i_X4 15 (by decide) q605 ⟨rfl, rfl, rfl⟩ rfl dX4_all_2 ?_
  obtain ⟨S2, h1, hf⟩ := b1_s hf
  refine kVv X hw (c_X4_finds l D cI cO ad (S 0 2) S S2 h1) (Nat.le_of_ble_eq_true rfl) ce5 rfl ⟨rfl, rfl⟩ q806 q808 q49 q64 q809 hd_X4_finds ⟨Nat.le_of_ble_eq_true rfl, Nat.le_of_ble_eq_true rfl⟩ rfl hl.1 rfl (Nat.le_of_ble_eq_true rfl) dX4_all_5 (fun H locs hw => ?_)
  refine lv_aload_n hx hb dX4_all_8 rfl (lv_at hl 0 rfl) ?_
  refine lv_aload_n hx hb dX4_all_9 rfl (lv_at hl 0 rfl) ?_
  refine x_get X hw 5 (Nat.le_of_ble_eq_true rfl) ce5 rfl i_X4 22 (by decide) q612 ⟨rfl, rfl, rfl⟩ rfl dX4_all_10 ?_
  obtain ⟨r4, h3, hf⟩ := b1_s hf
  refine kVi X hw (c_X4_sumOf l D cI cO ad 19 S2 r4 h3) (Nat.le_of_ble_eq_true rfl) ce5 rfl ⟨rfl, rfl⟩ q810 q812 q50 q64 q813 hd_X4_sumOf ⟨Nat.le_of_ble_eq_true rfl, Nat.le_of_ble_eq_true rfl⟩ rfl hl.1 rfl (Nat.le_of_ble_eq_true rfl) dX4_all_13 (fun H locs hw => ?_)
  exact hfin _ _ _ _ _ _ hw (s2a hf) (s2b hf) (narI _) dX4_all_16
/-- NineLandsModel.paid(III)I -/
theorem dX4_paid_0 : decode cX4_paid 0 = .ok (.aload_n 0, 1) := by decide +kernel
theorem dX4_paid_1 : decode cX4_paid 1 = .ok (.getfield 68, 3) := by decide +kernel
theorem dX4_paid_4 : decode cX4_paid 4 = .ok (.iload_n 1, 1) := by decide +kernel
theorem dX4_paid_5 : decode cX4_paid 5 = .ok (.iaload, 1) := by decide +kernel
theorem dX4_paid_6 : decode cX4_paid 6 = .ok (.bipush 100, 2) := by decide +kernel
theorem dX4_paid_8 : decode cX4_paid 8 = .ok (.aload_n 0, 1) := by decide +kernel
theorem dX4_paid_9 : decode cX4_paid 9 = .ok (.iload_n 1, 1) := by decide +kernel
theorem dX4_paid_10 : decode cX4_paid 10 = .ok (.bipush 7, 2) := by decide +kernel
theorem dX4_paid_12 : decode cX4_paid 12 = .ok (.invokevirtual 122, 3) := by decide +kernel
theorem dX4_paid_15 : decode cX4_paid 15 = .ok (.iload_n 2, 1) := by decide +kernel
theorem dX4_paid_16 : decode cX4_paid 16 = .ok (.aload_n 0, 1) := by decide +kernel
theorem dX4_paid_17 : decode cX4_paid 17 = .ok (.iload_n 1, 1) := by decide +kernel
theorem dX4_paid_18 : decode cX4_paid 18 = .ok (.iconst 1, 1) := by decide +kernel
theorem dX4_paid_19 : decode cX4_paid 19 = .ok (.invokevirtual 122, 3) := by decide +kernel
theorem dX4_paid_22 : decode cX4_paid 22 = .ok (.isub, 1) := by decide +kernel
theorem dX4_paid_23 : decode cX4_paid 23 = .ok (.bipush 12, 2) := by decide +kernel
theorem dX4_paid_25 : decode cX4_paid 25 = .ok (.idiv, 1) := by decide +kernel
theorem dX4_paid_26 : decode cX4_paid 26 = .ok (.imul, 1) := by decide +kernel
theorem dX4_paid_27 : decode cX4_paid 27 = .ok (.iadd, 1) := by decide +kernel
theorem dX4_paid_28 : decode cX4_paid 28 = .ok (.imul, 1) := by decide +kernel
theorem dX4_paid_29 : decode cX4_paid 29 = .ok (.bipush 100, 2) := by decide +kernel
theorem dX4_paid_31 : decode cX4_paid 31 = .ok (.idiv, 1) := by decide +kernel
theorem dX4_paid_32 : decode cX4_paid 32 = .ok (.istore 4, 2) := by decide +kernel
theorem dX4_paid_34 : decode cX4_paid 34 = .ok (.iload_n 3, 1) := by decide +kernel
theorem dX4_paid_35 : decode cX4_paid 35 = .ok (.iload_n 2, 1) := by decide +kernel
theorem dX4_paid_36 : decode cX4_paid 36 = .ok (.if_icmp .ge 7, 3) := by decide +kernel
theorem dX4_paid_39 : decode cX4_paid 39 = .ok (.iconst 0, 1) := by decide +kernel
theorem dX4_paid_40 : decode cX4_paid 40 = .ok (.goto 11, 3) := by decide +kernel
theorem dX4_paid_43 : decode cX4_paid 43 = .ok (.iload 4, 2) := by decide +kernel
theorem dX4_paid_45 : decode cX4_paid 45 = .ok (.iload_n 3, 1) := by decide +kernel
theorem dX4_paid_46 : decode cX4_paid 46 = .ok (.iload_n 2, 1) := by decide +kernel
theorem dX4_paid_47 : decode cX4_paid 47 = .ok (.isub, 1) := by decide +kernel
theorem dX4_paid_48 : decode cX4_paid 48 = .ok (.iconst 1, 1) := by decide +kernel
theorem dX4_paid_49 : decode cX4_paid 49 = .ok (.iadd, 1) := by decide +kernel
theorem dX4_paid_50 : decode cX4_paid 50 = .ok (.imul, 1) := by decide +kernel
theorem dX4_paid_51 : decode cX4_paid 51 = .ok (.ireturn, 1) := by decide +kernel
theorem hd_X4_paid : yX4_paid.cls ≠ "java/lang/invoke/MethodHandle" ∧ yX4_paid.cls ≠ "java/lang/invoke/VarHandle" ∧ (parseMethodDescriptor yX4_paid.desc).map (fun d => d.parameters.length) = some 3 := by decide +kernel
def f_X4_paid (a1 : Int32) (a2 : Int32) (a3 : Int32) (S : vS) : Option Int32 := if inb a1 6 = true then b1 (f_X4_lawOf a1 (7 : Int32) S) fun r3 => b1 (f_X4_lawOf a1 (1 : Int32) S) fun r5 => lt ((((S 19 (a1.toNatClampNeg)) * ((100 : Int32) + (r3 * ((a2 - r5) / (12 : Int32))))) / (100 : Int32))) fun v6 => if a2 ≤ a3 then some (v6 * ((a3 - a2) + (1 : Int32))) else some (0 : Int32) else none
set_option maxHeartbeats 4000000 in
set_option maxRecDepth 20000 in
theorem c_X4_paid (l : Launch) (D : va_G) (cI cO : ClassId) (ad : Nat → Nat) (a1 : Int32) (a2 : Int32) (a3 : Int32) (S : vS) (R9 : Int32) (hf : f_X4_paid a1 a2 a3 S = some R9) : CI l yX4_paid cX4_paid 5 .int ({ frames := 1, cells := 0, slots := 0, locals := 22 }) [.ref (ad 5), .int a1, .int a2, .int a3] D cI cO ad S R9 S := by
  refine CI.of (by decide +kernel) (Nat.le_of_ble_eq_true rfl) (fun p e s m args below meth c Q ls X hl hw hfin => ?_)
  have hl : lv_has ls 5 [(0, .ref (ad 5)), (1, .int a1), (2, .int a2), (3, .int a3)] := hl
  have hx := X.1
  have hb := X.2.1
  unfold f_X4_paid at hf
  refine lv_aload_n hx hb dX4_paid_0 rfl (lv_at hl 0 rfl) ?_
  refine x_get X hw 5 (Nat.le_of_ble_eq_true rfl) ce5 rfl i_X4 22 (by decide) q612 ⟨rfl, rfl, rfl⟩ rfl dX4_paid_1 ?_
  refine lv_iload_n hx hb dX4_paid_4 rfl (lv_at hl 1 rfl) ?_
  obtain ⟨h1, hf⟩ := if_s hf
  refine x_iald X hw 19 ⟨Nat.le_of_ble_eq_true rfl, Nat.le_of_ble_eq_true rfl⟩ rfl h1 (a1.toNatClampNeg) rfl dX4_paid_5 ?_
  refine lv_bipush (v := 100) hx hb dX4_paid_6 (by decide +kernel) ?_
  refine lv_aload_n hx hb dX4_paid_8 rfl (lv_at hl 0 rfl) ?_
  refine lv_iload_n hx hb dX4_paid_9 rfl (lv_at hl 1 rfl) ?_
  refine lv_bipush (v := 7) hx hb dX4_paid_10 (by decide +kernel) ?_
  obtain ⟨r3, h2, hf⟩ := b1_s hf
  refine kVi X hw (c_X4_lawOf l D cI cO ad a1 (7 : Int32) S r3 h2) (Nat.le_of_ble_eq_true rfl) ce5 rfl ⟨rfl, rfl⟩ q751 q753 q41 q64 q754 hd_X4_lawOf ⟨Nat.le_of_ble_eq_true rfl, Nat.le_of_ble_eq_true rfl⟩ rfl hl.1 rfl (Nat.le_of_ble_eq_true rfl) dX4_paid_12 (fun H locs hw => ?_)
  refine lv_iload_n hx hb dX4_paid_15 rfl (lv_at hl 2 rfl) ?_
  refine lv_aload_n hx hb dX4_paid_16 rfl (lv_at hl 0 rfl) ?_
  refine lv_iload_n hx hb dX4_paid_17 rfl (lv_at hl 1 rfl) ?_
  refine lv_iconst (v := 1) hx hb dX4_paid_18 (by decide) ?_
  obtain ⟨r5, h4, hf⟩ := b1_s hf
  refine kVi X hw (c_X4_lawOf l D cI cO ad a1 (1 : Int32) S r5 h4) (Nat.le_of_ble_eq_true rfl) ce5 rfl ⟨rfl, rfl⟩ q751 q753 q41 q64 q754 hd_X4_lawOf ⟨Nat.le_of_ble_eq_true rfl, Nat.le_of_ble_eq_true rfl⟩ rfl hl.1 rfl (Nat.le_of_ble_eq_true rfl) dX4_paid_19 (fun H locs hw => ?_)
  refine lv_isub hx hb dX4_paid_22 ?_
  refine lv_bipush (v := 12) hx hb dX4_paid_23 (by decide +kernel) ?_
  refine lv_idiv hx hb dX4_paid_25 (by decide) ?_
  refine lv_imul hx hb dX4_paid_26 ?_
  refine lv_iadd hx hb dX4_paid_27 ?_
  refine lv_imul hx hb dX4_paid_28 ?_
  refine lv_bipush (v := 100) hx hb dX4_paid_29 (by decide +kernel) ?_
  refine lv_idiv hx hb dX4_paid_31 (by decide) ?_
  refine lv_topi (fun v6 ev6 => ?_)
  replace hf := lt_e ev6 hf
  refine lv_istore (lv' := [(4, .int v6), (0, .ref (ad 5)), (1, .int a1), (2, .int a2), (3, .int a3)]) hx hb dX4_paid_32 hl (by decide) rfl (fun ls hl => ?_)
  refine lv_iload_n hx hb dX4_paid_34 rfl (lv_at hl 4 rfl) ?_
  refine lv_iload_n hx hb dX4_paid_35 rfl (lv_at hl 3 rfl) ?_
  refine lv_icmp_ge (tgt := 43) hx hb dX4_paid_36 (by decide) (fun c7 => ?_) (fun c7 => ?_)
  · replace hf := if_t c7 hf
    refine lv_iload hx hb dX4_paid_43 (lv_at hl 0 rfl) ?_
    refine lv_iload_n hx hb dX4_paid_45 rfl (lv_at hl 4 rfl) ?_
    refine lv_iload_n hx hb dX4_paid_46 rfl (lv_at hl 3 rfl) ?_
    refine lv_isub hx hb dX4_paid_47 ?_
    refine lv_iconst (v := 1) hx hb dX4_paid_48 (by decide) ?_
    refine lv_iadd hx hb dX4_paid_49 ?_
    refine lv_imul hx hb dX4_paid_50 ?_
    exact hfin _ _ _ _ _ _ hw (Option.some.inj hf) rfl (narI _) dX4_paid_51
  · replace hf := if_f c7 hf
    refine lv_iconst (v := 0) hx hb dX4_paid_39 (by decide) ?_
    refine lv_goto (tgt := 51) hx hb dX4_paid_40 (by decide) ?_
    exact hfin _ _ _ _ _ _ hw (Option.some.inj hf) rfl (narI _) dX4_paid_51
/-- NineLandsModel.asks(III)I -/
theorem dX4_asks_0 : decode cX4_asks 0 = .ok (.iload_n 1, 1) := by decide +kernel
theorem dX4_asks_1 : decode cX4_asks 1 = .ok (.invokestatic 105, 3) := by decide +kernel
theorem dX4_asks_4 : decode cX4_asks 4 = .ok (.ifCond .ne 9, 3) := by decide +kernel
theorem dX4_asks_7 : decode cX4_asks 7 = .ok (.aload_n 0, 1) := by decide +kernel
theorem dX4_asks_8 : decode cX4_asks 8 = .ok (.iconst (-1), 1) := by decide +kernel
theorem dX4_asks_9 : decode cX4_asks 9 = .ok (.invokevirtual 85, 3) := by decide +kernel
theorem dX4_asks_12 : decode cX4_asks 12 = .ok (.ireturn, 1) := by decide +kernel
theorem dX4_asks_13 : decode cX4_asks 13 = .ok (.iload_n 2, 1) := by decide +kernel
theorem dX4_asks_14 : decode cX4_asks 14 = .ok (.aload_n 0, 1) := by decide +kernel
theorem dX4_asks_15 : decode cX4_asks 15 = .ok (.iload_n 1, 1) := by decide +kernel
theorem dX4_asks_16 : decode cX4_asks 16 = .ok (.iconst 1, 1) := by decide +kernel
theorem dX4_asks_17 : decode cX4_asks 17 = .ok (.invokevirtual 122, 3) := by decide +kernel
theorem dX4_asks_20 : decode cX4_asks 20 = .ok (.if_icmp .lt 7, 3) := by decide +kernel
theorem dX4_asks_23 : decode cX4_asks 23 = .ok (.iload_n 3, 1) := by decide +kernel
theorem dX4_asks_24 : decode cX4_asks 24 = .ok (.ifCond .ge 8, 3) := by decide +kernel
theorem dX4_asks_27 : decode cX4_asks 27 = .ok (.bipush (-4), 2) := by decide +kernel
theorem dX4_asks_29 : decode cX4_asks 29 = .ok (.goto 23, 3) := by decide +kernel
theorem dX4_asks_32 : decode cX4_asks 32 = .ok (.iload_n 2, 1) := by decide +kernel
theorem dX4_asks_33 : decode cX4_asks 33 = .ok (.sipush 900, 3) := by decide +kernel
theorem dX4_asks_36 : decode cX4_asks 36 = .ok (.if_icmp .gt 10, 3) := by decide +kernel
theorem dX4_asks_39 : decode cX4_asks 39 = .ok (.iload_n 3, 1) := by decide +kernel
theorem dX4_asks_40 : decode cX4_asks 40 = .ok (.sipush 1200, 3) := by decide +kernel
theorem dX4_asks_43 : decode cX4_asks 43 = .ok (.if_icmp .le 8, 3) := by decide +kernel
theorem dX4_asks_46 : decode cX4_asks 46 = .ok (.bipush (-6), 2) := by decide +kernel
theorem dX4_asks_48 : decode cX4_asks 48 = .ok (.goto 4, 3) := by decide +kernel
theorem dX4_asks_51 : decode cX4_asks 51 = .ok (.iconst 0, 1) := by decide +kernel
theorem dX4_asks_52 : decode cX4_asks 52 = .ok (.istore 4, 2) := by decide +kernel
theorem dX4_asks_54 : decode cX4_asks 54 = .ok (.iload 4, 2) := by decide +kernel
theorem dX4_asks_56 : decode cX4_asks 56 = .ok (.ifCond .eq 10, 3) := by decide +kernel
theorem dX4_asks_59 : decode cX4_asks 59 = .ok (.aload_n 0, 1) := by decide +kernel
theorem dX4_asks_60 : decode cX4_asks 60 = .ok (.iload 4, 2) := by decide +kernel
theorem dX4_asks_62 : decode cX4_asks 62 = .ok (.invokevirtual 85, 3) := by decide +kernel
theorem dX4_asks_65 : decode cX4_asks 65 = .ok (.ireturn, 1) := by decide +kernel
theorem dX4_asks_66 : decode cX4_asks 66 = .ok (.aload_n 0, 1) := by decide +kernel
theorem dX4_asks_67 : decode cX4_asks 67 = .ok (.aload_n 0, 1) := by decide +kernel
theorem dX4_asks_68 : decode cX4_asks 68 = .ok (.getfield 102, 3) := by decide +kernel
theorem dX4_asks_71 : decode cX4_asks 71 = .ok (.invokevirtual 163, 3) := by decide +kernel
theorem dX4_asks_74 : decode cX4_asks 74 = .ok (.aload_n 0, 1) := by decide +kernel
theorem dX4_asks_75 : decode cX4_asks 75 = .ok (.iload_n 1, 1) := by decide +kernel
theorem dX4_asks_76 : decode cX4_asks 76 = .ok (.iload_n 2, 1) := by decide +kernel
theorem dX4_asks_77 : decode cX4_asks 77 = .ok (.iload_n 3, 1) := by decide +kernel
theorem dX4_asks_78 : decode cX4_asks 78 = .ok (.invokevirtual 166, 3) := by decide +kernel
theorem dX4_asks_81 : decode cX4_asks 81 = .ok (.ireturn, 1) := by decide +kernel
theorem hd_X4_asks : yX4_asks.cls ≠ "java/lang/invoke/MethodHandle" ∧ yX4_asks.cls ≠ "java/lang/invoke/VarHandle" ∧ (parseMethodDescriptor yX4_asks.desc).map (fun d => d.parameters.length) = some 3 := by decide +kernel
def f_X4_asks_J52 (x1 : Int32) (x2 : Int32) (x3 : Int32) (k0 : Int32) (S : vS) : Option (Int32 × vS) := if k0 = 0 then b1 (f_X4_finds (S 0 2) S) fun S9 => b1 (f_X4_paid x1 x2 x3 S9) fun r11 => some (r11, S9) else b2 (f_X4_no k0 S) fun r14 S13 => some (r14, S13)
def f_X4_asks_J27 (x1 : Int32) (x2 : Int32) (x3 : Int32) (S : vS) : Option (Int32 × vS) := f_X4_asks_J52 x1 x2 x3 (-4 : Int32) S
def f_X4_asks_J46 (x1 : Int32) (x2 : Int32) (x3 : Int32) (S : vS) : Option (Int32 × vS) := f_X4_asks_J52 x1 x2 x3 (-6 : Int32) S
def f_X4_asks (a1 : Int32) (a2 : Int32) (a3 : Int32) (S : vS) : Option (Int32 × vS) := b1 (f_X4_isLand a1 S) fun r2 => if r2 = 0 then b2 (f_X4_no (-1 : Int32) S) fun r20 S19 => some (r20, S19) else b1 (f_X4_lawOf a1 (1 : Int32) S) fun r5 => if a2 < r5 then f_X4_asks_J27 a1 a2 a3 S else if 0 ≤ a3 then if (900 : Int32) < a2 then f_X4_asks_J46 a1 a2 a3 S else if a3 ≤ (1200 : Int32) then f_X4_asks_J52 a1 a2 a3 (0 : Int32) S else f_X4_asks_J46 a1 a2 a3 S else f_X4_asks_J27 a1 a2 a3 S
set_option maxHeartbeats 4000000 in
set_option maxRecDepth 20000 in
theorem c_X4_asks (l : Launch) (D : va_G) (cI cO : ClassId) (ad : Nat → Nat) (a1 : Int32) (a2 : Int32) (a3 : Int32) (S : vS) (R9 : Int32) (S9 : vS) (hf : f_X4_asks a1 a2 a3 S = some (R9, S9)) : CI l yX4_asks cX4_asks 5 .int ({ frames := 5, cells := 0, slots := 0, locals := 114 }) [.ref (ad 5), .int a1, .int a2, .int a3] D cI cO ad S R9 S9 := by
  refine CI.of (by decide +kernel) (Nat.le_of_ble_eq_true rfl) (fun p e s m args below meth c Q ls X hl hw hfin => ?_)
  have hl : lv_has ls 5 [(0, .ref (ad 5)), (1, .int a1), (2, .int a2), (3, .int a3)] := hl
  have hx := X.1
  have hb := X.2.1
  have J52 : ∀ (x1 : Int32) (x2 : Int32) (x3 : Int32) (k0 : Int32) (S : vS), f_X4_asks_J52 x1 x2 x3 k0 S = some (R9, S9) → ∀ (H : Heap) (locs : List Loc) (ls : Array Slot), WD D cI cO ad s S H locs → lv_has ls 5 [(0, .ref (ad 5)), (1, .int x1), (2, .int x2), (3, .int x3)] → W p l e ({ frames := 5, cells := 0, slots := 0, locals := 114 }) s m args below meth c H locs 0 0 Q (F0 m 52 ls [.int k0]) := by
    intro x1 x2 x3 k0 S hf H locs ls hw hl
    unfold f_X4_asks_J52 at hf
    refine lv_istore (lv' := [(4, .int k0), (0, .ref (ad 5)), (1, .int x1), (2, .int x2), (3, .int x3)]) hx hb dX4_asks_52 hl (by decide) rfl (fun ls hl => ?_)
    refine lv_iload hx hb dX4_asks_54 (lv_at hl 0 rfl) ?_
    refine lv_if_eq (tgt := 66) hx hb dX4_asks_56 (by decide) (fun c7 => ?_) (fun c7 => ?_)
    · replace hf := if_t c7 hf
      refine lv_aload_n hx hb dX4_asks_66 rfl (lv_at hl 1 rfl) ?_
      refine lv_aload_n hx hb dX4_asks_67 rfl (lv_at hl 1 rfl) ?_
      refine x_get X hw 5 (Nat.le_of_ble_eq_true rfl) ce5 rfl i_X4 15 (by decide) q605 ⟨rfl, rfl, rfl⟩ rfl dX4_asks_68 ?_
      obtain ⟨S9, h8, hf⟩ := b1_s hf
      refine kVv X hw (c_X4_finds l D cI cO ad (S 0 2) S S9 h8) (Nat.le_of_ble_eq_true rfl) ce5 rfl ⟨rfl, rfl⟩ q806 q808 q49 q64 q809 hd_X4_finds ⟨Nat.le_of_ble_eq_true rfl, Nat.le_of_ble_eq_true rfl⟩ rfl hl.1 rfl (Nat.le_of_ble_eq_true rfl) dX4_asks_71 (fun H locs hw => ?_)
      refine lv_aload_n hx hb dX4_asks_74 rfl (lv_at hl 1 rfl) ?_
      refine lv_iload_n hx hb dX4_asks_75 rfl (lv_at hl 2 rfl) ?_
      refine lv_iload_n hx hb dX4_asks_76 rfl (lv_at hl 3 rfl) ?_
      refine lv_iload_n hx hb dX4_asks_77 rfl (lv_at hl 4 rfl) ?_
      obtain ⟨r11, h10, hf⟩ := b1_s hf
      refine kVi X hw (c_X4_paid l D cI cO ad x1 x2 x3 S9 r11 h10) (Nat.le_of_ble_eq_true rfl) ce5 rfl ⟨rfl, rfl⟩ q826 q828 q51 q64 q829 hd_X4_paid ⟨Nat.le_of_ble_eq_true rfl, Nat.le_of_ble_eq_true rfl⟩ rfl hl.1 rfl (Nat.le_of_ble_eq_true rfl) dX4_asks_78 (fun H locs hw => ?_)
      exact hfin _ _ _ _ _ _ hw (s2a hf) (s2b hf) (narI _) dX4_asks_81
    · replace hf := if_f c7 hf
      refine lv_aload_n hx hb dX4_asks_59 rfl (lv_at hl 1 rfl) ?_
      refine lv_iload hx hb dX4_asks_60 (lv_at hl 0 rfl) ?_
      obtain ⟨r14, S13, h12, hf⟩ := b2_s hf
      refine kVi X hw (c_X4_no l D cI cO ad k0 S r14 S13 h12) (Nat.le_of_ble_eq_true rfl) ce5 rfl ⟨rfl, rfl⟩ q688 q690 q34 q64 q691 hd_X4_no ⟨Nat.le_of_ble_eq_true rfl, Nat.le_of_ble_eq_true rfl⟩ rfl hl.1 rfl (Nat.le_of_ble_eq_true rfl) dX4_asks_62 (fun H locs hw => ?_)
      exact hfin _ _ _ _ _ _ hw (s2a hf) (s2b hf) (narI _) dX4_asks_65
  have J46 : ∀ (x1 : Int32) (x2 : Int32) (x3 : Int32) (S : vS), f_X4_asks_J46 x1 x2 x3 S = some (R9, S9) → ∀ (H : Heap) (locs : List Loc) (ls : Array Slot), WD D cI cO ad s S H locs → lv_has ls 5 [(0, .ref (ad 5)), (1, .int x1), (2, .int x2), (3, .int x3)] → W p l e ({ frames := 5, cells := 0, slots := 0, locals := 114 }) s m args below meth c H locs 0 0 Q (F0 m 46 ls []) := by
    intro x1 x2 x3 S hf H locs ls hw hl
    unfold f_X4_asks_J46 at hf
    refine lv_bipush (v := -6) hx hb dX4_asks_46 (by decide +kernel) ?_
    refine lv_goto (tgt := 52) hx hb dX4_asks_48 (by decide) ?_
    exact J52 x1 x2 x3 (-6 : Int32) S hf _ _ _ hw hl
  have J27 : ∀ (x1 : Int32) (x2 : Int32) (x3 : Int32) (S : vS), f_X4_asks_J27 x1 x2 x3 S = some (R9, S9) → ∀ (H : Heap) (locs : List Loc) (ls : Array Slot), WD D cI cO ad s S H locs → lv_has ls 5 [(0, .ref (ad 5)), (1, .int x1), (2, .int x2), (3, .int x3)] → W p l e ({ frames := 5, cells := 0, slots := 0, locals := 114 }) s m args below meth c H locs 0 0 Q (F0 m 27 ls []) := by
    intro x1 x2 x3 S hf H locs ls hw hl
    unfold f_X4_asks_J27 at hf
    refine lv_bipush (v := -4) hx hb dX4_asks_27 (by decide +kernel) ?_
    refine lv_goto (tgt := 52) hx hb dX4_asks_29 (by decide) ?_
    exact J52 x1 x2 x3 (-4 : Int32) S hf _ _ _ hw hl
  unfold f_X4_asks at hf
  refine lv_iload_n hx hb dX4_asks_0 rfl (lv_at hl 1 rfl) ?_
  obtain ⟨r2, h1, hf⟩ := b1_s hf
  refine kSi X hw (c_X4_isLand l D cI cO ad a1 S r2 h1) ⟨rfl, rfl⟩ q705 q706 q64 q707 hd_X4_isLand ⟨Nat.le_of_ble_eq_true rfl, Nat.le_of_ble_eq_true rfl⟩ rfl hl.1 rfl (Nat.le_of_ble_eq_true rfl) dX4_asks_1 (fun H locs hw => ?_)
  refine lv_if_ne (tgt := 13) hx hb dX4_asks_4 (by decide) (fun c3 => ?_) (fun c3 => ?_)
  · replace hf := if_f c3 hf
    refine lv_iload_n hx hb dX4_asks_13 rfl (lv_at hl 2 rfl) ?_
    refine lv_aload_n hx hb dX4_asks_14 rfl (lv_at hl 0 rfl) ?_
    refine lv_iload_n hx hb dX4_asks_15 rfl (lv_at hl 1 rfl) ?_
    refine lv_iconst (v := 1) hx hb dX4_asks_16 (by decide) ?_
    obtain ⟨r5, h4, hf⟩ := b1_s hf
    refine kVi X hw (c_X4_lawOf l D cI cO ad a1 (1 : Int32) S r5 h4) (Nat.le_of_ble_eq_true rfl) ce5 rfl ⟨rfl, rfl⟩ q751 q753 q41 q64 q754 hd_X4_lawOf ⟨Nat.le_of_ble_eq_true rfl, Nat.le_of_ble_eq_true rfl⟩ rfl hl.1 rfl (Nat.le_of_ble_eq_true rfl) dX4_asks_17 (fun H locs hw => ?_)
    refine lv_icmp_lt (tgt := 27) hx hb dX4_asks_20 (by decide) (fun c6 => ?_) (fun c6 => ?_)
    · replace hf := if_t c6 hf
      exact J27 a1 a2 a3 S hf _ _ _ hw hl
    · replace hf := if_f c6 hf
      refine lv_iload_n hx hb dX4_asks_23 rfl (lv_at hl 3 rfl) ?_
      refine lv_if_ge (tgt := 32) hx hb dX4_asks_24 (by decide) (fun c15 => ?_) (fun c15 => ?_)
      · replace hf := if_t c15 hf
        refine lv_iload_n hx hb dX4_asks_32 rfl (lv_at hl 2 rfl) ?_
        refine lv_sipush (v := 900) hx hb dX4_asks_33 (by decide +kernel) ?_
        refine lv_icmp_gt (tgt := 46) hx hb dX4_asks_36 (by decide) (fun c16 => ?_) (fun c16 => ?_)
        · replace hf := if_t c16 hf
          exact J46 a1 a2 a3 S hf _ _ _ hw hl
        · replace hf := if_f c16 hf
          refine lv_iload_n hx hb dX4_asks_39 rfl (lv_at hl 3 rfl) ?_
          refine lv_sipush (v := 1200) hx hb dX4_asks_40 (by decide +kernel) ?_
          refine lv_icmp_le (tgt := 51) hx hb dX4_asks_43 (by decide) (fun c17 => ?_) (fun c17 => ?_)
          · replace hf := if_t c17 hf
            refine lv_iconst (v := 0) hx hb dX4_asks_51 (by decide) ?_
            exact J52 a1 a2 a3 (0 : Int32) S hf _ _ _ hw hl
          · replace hf := if_f c17 hf
            exact J46 a1 a2 a3 S hf _ _ _ hw hl
      · replace hf := if_f c15 hf
        exact J27 a1 a2 a3 S hf _ _ _ hw hl
  · replace hf := if_t c3 hf
    refine lv_aload_n hx hb dX4_asks_7 rfl (lv_at hl 0 rfl) ?_
    refine lv_iconst (v := -1) hx hb dX4_asks_8 (by decide) ?_
    obtain ⟨r20, S19, h18, hf⟩ := b2_s hf
    refine kVi X hw (c_X4_no l D cI cO ad (-1 : Int32) S r20 S19 h18) (Nat.le_of_ble_eq_true rfl) ce5 rfl ⟨rfl, rfl⟩ q688 q690 q34 q64 q691 hd_X4_no ⟨Nat.le_of_ble_eq_true rfl, Nat.le_of_ble_eq_true rfl⟩ rfl hl.1 rfl (Nat.le_of_ble_eq_true rfl) dX4_asks_9 (fun H locs hw => ?_)
    exact hfin _ _ _ _ _ _ hw (s2a hf) (s2b hf) (narI _) dX4_asks_12
/-- NineLandsModel.when(II)I -/
theorem dX4_when_0 : decode cX4_when 0 = .ok (.iload_n 1, 1) := by decide +kernel
theorem dX4_when_1 : decode cX4_when 1 = .ok (.invokestatic 105, 3) := by decide +kernel
theorem dX4_when_4 : decode cX4_when 4 = .ok (.ifCond .ne 9, 3) := by decide +kernel
theorem dX4_when_7 : decode cX4_when 7 = .ok (.aload_n 0, 1) := by decide +kernel
theorem dX4_when_8 : decode cX4_when 8 = .ok (.iconst (-1), 1) := by decide +kernel
theorem dX4_when_9 : decode cX4_when 9 = .ok (.invokevirtual 85, 3) := by decide +kernel
theorem dX4_when_12 : decode cX4_when 12 = .ok (.ireturn, 1) := by decide +kernel
theorem dX4_when_13 : decode cX4_when 13 = .ok (.iload_n 2, 1) := by decide +kernel
theorem dX4_when_14 : decode cX4_when 14 = .ok (.iconst 0, 1) := by decide +kernel
theorem dX4_when_15 : decode cX4_when 15 = .ok (.sipush 1200, 3) := by decide +kernel
theorem dX4_when_18 : decode cX4_when 18 = .ok (.invokestatic 78, 3) := by decide +kernel
theorem dX4_when_21 : decode cX4_when 21 = .ok (.istore_n 3, 1) := by decide +kernel
theorem dX4_when_22 : decode cX4_when 22 = .ok (.iload_n 3, 1) := by decide +kernel
theorem dX4_when_23 : decode cX4_when 23 = .ok (.ifCond .eq 9, 3) := by decide +kernel
theorem dX4_when_26 : decode cX4_when 26 = .ok (.aload_n 0, 1) := by decide +kernel
theorem dX4_when_27 : decode cX4_when 27 = .ok (.iload_n 3, 1) := by decide +kernel
theorem dX4_when_28 : decode cX4_when 28 = .ok (.invokevirtual 85, 3) := by decide +kernel
theorem dX4_when_31 : decode cX4_when 31 = .ok (.ireturn, 1) := by decide +kernel
theorem dX4_when_32 : decode cX4_when 32 = .ok (.aload_n 0, 1) := by decide +kernel
theorem dX4_when_33 : decode cX4_when 33 = .ok (.aload_n 0, 1) := by decide +kernel
theorem dX4_when_34 : decode cX4_when 34 = .ok (.getfield 102, 3) := by decide +kernel
theorem dX4_when_37 : decode cX4_when 37 = .ok (.invokevirtual 163, 3) := by decide +kernel
theorem dX4_when_40 : decode cX4_when 40 = .ok (.bipush (-9), 2) := by decide +kernel
theorem dX4_when_42 : decode cX4_when 42 = .ok (.istore 4, 2) := by decide +kernel
theorem dX4_when_44 : decode cX4_when 44 = .ok (.iconst 0, 1) := by decide +kernel
theorem dX4_when_45 : decode cX4_when 45 = .ok (.istore 5, 2) := by decide +kernel
theorem dX4_when_47 : decode cX4_when 47 = .ok (.aload_n 0, 1) := by decide +kernel
theorem dX4_when_48 : decode cX4_when 48 = .ok (.iload_n 1, 1) := by decide +kernel
theorem dX4_when_49 : decode cX4_when 49 = .ok (.iconst 1, 1) := by decide +kernel
theorem dX4_when_50 : decode cX4_when 50 = .ok (.invokevirtual 122, 3) := by decide +kernel
theorem dX4_when_53 : decode cX4_when 53 = .ok (.istore 6, 2) := by decide +kernel
theorem dX4_when_55 : decode cX4_when 55 = .ok (.iload 6, 2) := by decide +kernel
theorem dX4_when_57 : decode cX4_when 57 = .ok (.istore 7, 2) := by decide +kernel
theorem dX4_when_59 : decode cX4_when 59 = .ok (.iload 7, 2) := by decide +kernel
theorem dX4_when_61 : decode cX4_when 61 = .ok (.iload 6, 2) := by decide +kernel
theorem dX4_when_63 : decode cX4_when 63 = .ok (.bipush 120, 2) := by decide +kernel
theorem dX4_when_65 : decode cX4_when 65 = .ok (.iadd, 1) := by decide +kernel
theorem dX4_when_66 : decode cX4_when 66 = .ok (.if_icmp .gt 45, 3) := by decide +kernel
theorem dX4_when_69 : decode cX4_when 69 = .ok (.iload 7, 2) := by decide +kernel
theorem dX4_when_71 : decode cX4_when 71 = .ok (.sipush 900, 3) := by decide +kernel
theorem dX4_when_74 : decode cX4_when 74 = .ok (.if_icmp .gt 37, 3) := by decide +kernel
theorem dX4_when_77 : decode cX4_when 77 = .ok (.aload_n 0, 1) := by decide +kernel
theorem dX4_when_78 : decode cX4_when 78 = .ok (.iload_n 1, 1) := by decide +kernel
theorem dX4_when_79 : decode cX4_when 79 = .ok (.iload 7, 2) := by decide +kernel
theorem dX4_when_81 : decode cX4_when 81 = .ok (.iload_n 2, 1) := by decide +kernel
theorem dX4_when_82 : decode cX4_when 82 = .ok (.invokevirtual 166, 3) := by decide +kernel
theorem dX4_when_85 : decode cX4_when 85 = .ok (.istore 8, 2) := by decide +kernel
theorem dX4_when_87 : decode cX4_when 87 = .ok (.iload 8, 2) := by decide +kernel
theorem dX4_when_89 : decode cX4_when 89 = .ok (.iload 5, 2) := by decide +kernel
theorem dX4_when_91 : decode cX4_when 91 = .ok (.if_icmp .gt 6, 3) := by decide +kernel
theorem dX4_when_94 : decode cX4_when 94 = .ok (.goto 11, 3) := by decide +kernel
theorem dX4_when_97 : decode cX4_when 97 = .ok (.iload 8, 2) := by decide +kernel
theorem dX4_when_99 : decode cX4_when 99 = .ok (.istore 5, 2) := by decide +kernel
theorem dX4_when_101 : decode cX4_when 101 = .ok (.iload 7, 2) := by decide +kernel
theorem dX4_when_103 : decode cX4_when 103 = .ok (.istore 4, 2) := by decide +kernel
theorem dX4_when_105 : decode cX4_when 105 = .ok (.iinc 7 12, 3) := by decide +kernel
theorem dX4_when_108 : decode cX4_when 108 = .ok (.goto (-49), 3) := by decide +kernel
theorem dX4_when_111 : decode cX4_when 111 = .ok (.iload 4, 2) := by decide +kernel
theorem dX4_when_113 : decode cX4_when 113 = .ok (.ireturn, 1) := by decide +kernel
theorem hd_X4_when : yX4_when.cls ≠ "java/lang/invoke/MethodHandle" ∧ yX4_when.cls ≠ "java/lang/invoke/VarHandle" ∧ (parseMethodDescriptor yX4_when.desc).map (fun d => d.parameters.length) = some 2 := by decide +kernel
def f_X4_when_L59 (S : vS) : Nat → Int32 → Int32 → Int32 → Int32 → Int32 → Int32 →  Option Int32
  | 0, _, _, _, _, _, _ => none
  | n + 1, x1, x2, x4, x5, x6, x7 => if (x6 + (120 : Int32)) < x7 then some x4 else if (900 : Int32) < x7 then some x4 else b1 (f_X4_paid x1 x7 x2 S) fun r14 => if x5 < r14 then (f_X4_when_L59 S n) x1 x2 x7 r14 x6 (x7 + 12) else (f_X4_when_L59 S n) x1 x2 x4 x5 x6 (x7 + 12)
def f_X4_when (a1 : Int32) (a2 : Int32) (S : vS) : Option (Int32 × vS) := b1 (f_X4_isLand a1 S) fun r2 => if r2 = 0 then b2 (f_X4_no (-1 : Int32) S) fun r23 S22 => some (r23, S22) else b1 (f_X4_out a2 (0 : Int32) (1200 : Int32) S) fun r5 => if r5 = 0 then b1 (f_X4_finds (S 0 2) S) fun S8 => b1 (f_X4_lawOf a1 (1 : Int32) S8) fun r10 => b1 (f_X4_when_L59 S8 FU a1 a2 (-9 : Int32) (0 : Int32) r10 r10) fun y16 => some (y16, S8) else b2 (f_X4_no r5 S) fun r20 S19 => some (r20, S19)
set_option maxHeartbeats 4000000 in
set_option maxRecDepth 20000 in
theorem c_X4_when (l : Launch) (D : va_G) (cI cO : ClassId) (ad : Nat → Nat) (a1 : Int32) (a2 : Int32) (S : vS) (R9 : Int32) (S9 : vS) (hf : f_X4_when a1 a2 S = some (R9, S9)) : CI l yX4_when cX4_when 9 .int ({ frames := 5, cells := 0, slots := 0, locals := 114 }) [.ref (ad 5), .int a1, .int a2] D cI cO ad S R9 S9 := by
  refine CI.of (by decide +kernel) (Nat.le_of_ble_eq_true rfl) (fun p e s m args below meth c Q ls X hl hw hfin => ?_)
  have hl : lv_has ls 9 [(0, .ref (ad 5)), (1, .int a1), (2, .int a2)] := hl
  have hx := X.1
  have hb := X.2.1
  have L59 : ∀ (S : vS) (n : Nat) (x1 : Int32) (x2 : Int32) (x4 : Int32) (x5 : Int32) (x6 : Int32) (x7 : Int32) (res : Int32), f_X4_when_L59 S n x1 x2 x4 x5 x6 x7 = some res → (K : ∀ (y4 : Int32), some y4 = some res → ∀ (H : Heap) (locs : List Loc) (ls : Array Slot), WD D cI cO ad s S H locs → lv_has ls 9 [(4, .int y4)] → W p l e ({ frames := 5, cells := 0, slots := 0, locals := 114 }) s m args below meth c H locs 0 0 Q (F0 m 111 ls [])) → ∀ (H : Heap) (locs : List Loc) (ls : Array Slot), WD D cI cO ad s S H locs → lv_has ls 9 [(0, .ref (ad 5)), (1, .int x1), (2, .int x2), (4, .int x4), (5, .int x5), (6, .int x6), (7, .int x7)] → W p l e ({ frames := 5, cells := 0, slots := 0, locals := 114 }) s m args below meth c H locs 0 0 Q (F0 m 59 ls []) := by
    intro S n
    induction n with
    | zero => intro x1 x2 x4 x5 x6 x7 res hf; cases hf
    | succ n ih =>
      intro x1 x2 x4 x5 x6 x7 res hf K H locs ls hw hl
      unfold f_X4_when_L59 at hf
      refine lv_iload hx hb dX4_when_59 (lv_at hl 6 rfl) ?_
      refine lv_iload hx hb dX4_when_61 (lv_at hl 5 rfl) ?_
      refine lv_bipush (v := 120) hx hb dX4_when_63 (by decide +kernel) ?_
      refine lv_iadd hx hb dX4_when_65 ?_
      refine lv_icmp_gt (tgt := 111) hx hb dX4_when_66 (by decide) (fun c11 => ?_) (fun c11 => ?_)
      · replace hf := if_t c11 hf
        exact K x4 hf _ _ _ hw (lv_sub hl [3] rfl)
      · replace hf := if_f c11 hf
        refine lv_iload hx hb dX4_when_69 (lv_at hl 6 rfl) ?_
        refine lv_sipush (v := 900) hx hb dX4_when_71 (by decide +kernel) ?_
        refine lv_icmp_gt (tgt := 111) hx hb dX4_when_74 (by decide) (fun c12 => ?_) (fun c12 => ?_)
        · replace hf := if_t c12 hf
          exact K x4 hf _ _ _ hw (lv_sub hl [3] rfl)
        · replace hf := if_f c12 hf
          refine lv_aload_n hx hb dX4_when_77 rfl (lv_at hl 0 rfl) ?_
          refine lv_iload_n hx hb dX4_when_78 rfl (lv_at hl 1 rfl) ?_
          refine lv_iload hx hb dX4_when_79 (lv_at hl 6 rfl) ?_
          refine lv_iload_n hx hb dX4_when_81 rfl (lv_at hl 2 rfl) ?_
          obtain ⟨r14, h13, hf⟩ := b1_s hf
          refine kVi X hw (c_X4_paid l D cI cO ad x1 x7 x2 S r14 h13) (Nat.le_of_ble_eq_true rfl) ce5 rfl ⟨rfl, rfl⟩ q826 q828 q51 q64 q829 hd_X4_paid ⟨Nat.le_of_ble_eq_true rfl, Nat.le_of_ble_eq_true rfl⟩ rfl hl.1 rfl (Nat.le_of_ble_eq_true rfl) dX4_when_82 (fun H locs hw => ?_)
          refine lv_istore (lv' := [(8, .int r14), (0, .ref (ad 5)), (1, .int x1), (2, .int x2), (4, .int x4), (5, .int x5), (6, .int x6), (7, .int x7)]) hx hb dX4_when_85 hl (by decide) rfl (fun ls hl => ?_)
          refine lv_iload hx hb dX4_when_87 (lv_at hl 0 rfl) ?_
          refine lv_iload hx hb dX4_when_89 (lv_at hl 5 rfl) ?_
          refine lv_icmp_gt (tgt := 97) hx hb dX4_when_91 (by decide) (fun c15 => ?_) (fun c15 => ?_)
          · replace hf := if_t c15 hf
            refine lv_iload hx hb dX4_when_97 (lv_at hl 0 rfl) ?_
            refine lv_istore (lv' := [(5, .int r14), (8, .int r14), (0, .ref (ad 5)), (1, .int x1), (2, .int x2), (4, .int x4), (6, .int x6), (7, .int x7)]) hx hb dX4_when_99 hl (by decide) rfl (fun ls hl => ?_)
            refine lv_iload hx hb dX4_when_101 (lv_at hl 7 rfl) ?_
            refine lv_istore (lv' := [(4, .int x7), (5, .int r14), (8, .int r14), (0, .ref (ad 5)), (1, .int x1), (2, .int x2), (6, .int x6), (7, .int x7)]) hx hb dX4_when_103 hl (by decide) rfl (fun ls hl => ?_)
            refine lv_iinc (v := (x7 + 12)) (lv' := [(7, .int (x7 + 12)), (4, .int x7), (5, .int r14), (8, .int r14), (0, .ref (ad 5)), (1, .int x1), (2, .int x2), (6, .int x6)]) hx hb dX4_when_105 hl (k := 7) rfl rfl (by decide) rfl (fun ls hl => ?_)
            refine lv_goto (tgt := 59) hx hb dX4_when_108 (by decide) ?_
            exact ih x1 x2 x7 r14 x6 (x7 + 12) _ hf K _ _ _ hw (lv_sub hl [4, 5, 6, 1, 2, 7, 0] rfl)
          · replace hf := if_f c15 hf
            refine lv_goto (tgt := 105) hx hb dX4_when_94 (by decide) ?_
            refine lv_iinc (v := (x7 + 12)) (lv' := [(7, .int (x7 + 12)), (8, .int r14), (0, .ref (ad 5)), (1, .int x1), (2, .int x2), (4, .int x4), (5, .int x5), (6, .int x6)]) hx hb dX4_when_105 hl (k := 7) rfl rfl (by decide) rfl (fun ls hl => ?_)
            refine lv_goto (tgt := 59) hx hb dX4_when_108 (by decide) ?_
            exact ih x1 x2 x4 x5 x6 (x7 + 12) _ hf K _ _ _ hw (lv_sub hl [2, 3, 4, 5, 6, 7, 0] rfl)
  unfold f_X4_when at hf
  refine lv_iload_n hx hb dX4_when_0 rfl (lv_at hl 1 rfl) ?_
  obtain ⟨r2, h1, hf⟩ := b1_s hf
  refine kSi X hw (c_X4_isLand l D cI cO ad a1 S r2 h1) ⟨rfl, rfl⟩ q705 q706 q64 q707 hd_X4_isLand ⟨Nat.le_of_ble_eq_true rfl, Nat.le_of_ble_eq_true rfl⟩ rfl hl.1 rfl (Nat.le_of_ble_eq_true rfl) dX4_when_1 (fun H locs hw => ?_)
  refine lv_if_ne (tgt := 13) hx hb dX4_when_4 (by decide) (fun c3 => ?_) (fun c3 => ?_)
  · replace hf := if_f c3 hf
    refine lv_iload_n hx hb dX4_when_13 rfl (lv_at hl 2 rfl) ?_
    refine lv_iconst (v := 0) hx hb dX4_when_14 (by decide) ?_
    refine lv_sipush (v := 1200) hx hb dX4_when_15 (by decide +kernel) ?_
    obtain ⟨r5, h4, hf⟩ := b1_s hf
    refine kSi X hw (c_X4_out l D cI cO ad a2 (0 : Int32) (1200 : Int32) S r5 h4) ⟨rfl, rfl⟩ q685 q686 q64 q687 hd_X4_out ⟨Nat.le_of_ble_eq_true rfl, Nat.le_of_ble_eq_true rfl⟩ rfl hl.1 rfl (Nat.le_of_ble_eq_true rfl) dX4_when_18 (fun H locs hw => ?_)
    refine lv_istore_n (lv' := [(3, .int r5), (0, .ref (ad 5)), (1, .int a1), (2, .int a2)]) hx hb dX4_when_21 rfl hl (by decide) rfl (fun ls hl => ?_)
    refine lv_iload_n hx hb dX4_when_22 rfl (lv_at hl 0 rfl) ?_
    refine lv_if_eq (tgt := 32) hx hb dX4_when_23 (by decide) (fun c6 => ?_) (fun c6 => ?_)
    · replace hf := if_t c6 hf
      refine lv_aload_n hx hb dX4_when_32 rfl (lv_at hl 1 rfl) ?_
      refine lv_aload_n hx hb dX4_when_33 rfl (lv_at hl 1 rfl) ?_
      refine x_get X hw 5 (Nat.le_of_ble_eq_true rfl) ce5 rfl i_X4 15 (by decide) q605 ⟨rfl, rfl, rfl⟩ rfl dX4_when_34 ?_
      obtain ⟨S8, h7, hf⟩ := b1_s hf
      refine kVv X hw (c_X4_finds l D cI cO ad (S 0 2) S S8 h7) (Nat.le_of_ble_eq_true rfl) ce5 rfl ⟨rfl, rfl⟩ q806 q808 q49 q64 q809 hd_X4_finds ⟨Nat.le_of_ble_eq_true rfl, Nat.le_of_ble_eq_true rfl⟩ rfl hl.1 rfl (Nat.le_of_ble_eq_true rfl) dX4_when_37 (fun H locs hw => ?_)
      refine lv_bipush (v := -9) hx hb dX4_when_40 (by decide +kernel) ?_
      refine lv_istore (lv' := [(4, .int (-9 : Int32)), (3, .int r5), (0, .ref (ad 5)), (1, .int a1), (2, .int a2)]) hx hb dX4_when_42 hl (by decide) rfl (fun ls hl => ?_)
      refine lv_iconst (v := 0) hx hb dX4_when_44 (by decide) ?_
      refine lv_istore (lv' := [(5, .int (0 : Int32)), (4, .int (-9 : Int32)), (3, .int r5), (0, .ref (ad 5)), (1, .int a1), (2, .int a2)]) hx hb dX4_when_45 hl (by decide) rfl (fun ls hl => ?_)
      refine lv_aload_n hx hb dX4_when_47 rfl (lv_at hl 3 rfl) ?_
      refine lv_iload_n hx hb dX4_when_48 rfl (lv_at hl 4 rfl) ?_
      refine lv_iconst (v := 1) hx hb dX4_when_49 (by decide) ?_
      obtain ⟨r10, h9, hf⟩ := b1_s hf
      refine kVi X hw (c_X4_lawOf l D cI cO ad a1 (1 : Int32) S8 r10 h9) (Nat.le_of_ble_eq_true rfl) ce5 rfl ⟨rfl, rfl⟩ q751 q753 q41 q64 q754 hd_X4_lawOf ⟨Nat.le_of_ble_eq_true rfl, Nat.le_of_ble_eq_true rfl⟩ rfl hl.1 rfl (Nat.le_of_ble_eq_true rfl) dX4_when_50 (fun H locs hw => ?_)
      refine lv_istore (lv' := [(6, .int r10), (5, .int (0 : Int32)), (4, .int (-9 : Int32)), (3, .int r5), (0, .ref (ad 5)), (1, .int a1), (2, .int a2)]) hx hb dX4_when_53 hl (by decide) rfl (fun ls hl => ?_)
      refine lv_iload hx hb dX4_when_55 (lv_at hl 0 rfl) ?_
      refine lv_istore (lv' := [(7, .int r10), (6, .int r10), (5, .int (0 : Int32)), (4, .int (-9 : Int32)), (3, .int r5), (0, .ref (ad 5)), (1, .int a1), (2, .int a2)]) hx hb dX4_when_57 hl (by decide) rfl (fun ls hl => ?_)
      obtain ⟨y16, h17, hf⟩ := b1_s hf
      refine L59 S8 FU a1 a2 (-9 : Int32) (0 : Int32) r10 r10 _ h17 (fun y16' eK H locs ls hw hl => ?_) _ _ _ hw (lv_sub hl [5, 6, 7, 3, 2, 1, 0] rfl)
      cases eK
      refine lv_iload hx hb dX4_when_111 (lv_at hl 0 rfl) ?_
      exact hfin _ _ _ _ _ _ hw (s2a hf) (s2b hf) (narI _) dX4_when_113
    · replace hf := if_f c6 hf
      refine lv_aload_n hx hb dX4_when_26 rfl (lv_at hl 1 rfl) ?_
      refine lv_iload_n hx hb dX4_when_27 rfl (lv_at hl 0 rfl) ?_
      obtain ⟨r20, S19, h18, hf⟩ := b2_s hf
      refine kVi X hw (c_X4_no l D cI cO ad r5 S r20 S19 h18) (Nat.le_of_ble_eq_true rfl) ce5 rfl ⟨rfl, rfl⟩ q688 q690 q34 q64 q691 hd_X4_no ⟨Nat.le_of_ble_eq_true rfl, Nat.le_of_ble_eq_true rfl⟩ rfl hl.1 rfl (Nat.le_of_ble_eq_true rfl) dX4_when_28 (fun H locs hw => ?_)
      exact hfin _ _ _ _ _ _ hw (s2a hf) (s2b hf) (narI _) dX4_when_31
  · replace hf := if_t c3 hf
    refine lv_aload_n hx hb dX4_when_7 rfl (lv_at hl 0 rfl) ?_
    refine lv_iconst (v := -1) hx hb dX4_when_8 (by decide) ?_
    obtain ⟨r23, S22, h21, hf⟩ := b2_s hf
    refine kVi X hw (c_X4_no l D cI cO ad (-1 : Int32) S r23 S22 h21) (Nat.le_of_ble_eq_true rfl) ce5 rfl ⟨rfl, rfl⟩ q688 q690 q34 q64 q691 hd_X4_no ⟨Nat.le_of_ble_eq_true rfl, Nat.le_of_ble_eq_true rfl⟩ rfl hl.1 rfl (Nat.le_of_ble_eq_true rfl) dX4_when_9 (fun H locs hw => ?_)
    exact hfin _ _ _ _ _ _ hw (s2a hf) (s2b hf) (narI _) dX4_when_12
/-- NineLandsModel.livingIn(I)I -/
theorem dX4_livingIn_0 : decode cX4_livingIn 0 = .ok (.aload_n 0, 1) := by decide +kernel
theorem dX4_livingIn_1 : decode cX4_livingIn 1 = .ok (.getfield 68, 3) := by decide +kernel
theorem dX4_livingIn_4 : decode cX4_livingIn 4 = .ok (.iload_n 1, 1) := by decide +kernel
theorem dX4_livingIn_5 : decode cX4_livingIn 5 = .ok (.iaload, 1) := by decide +kernel
theorem dX4_livingIn_6 : decode cX4_livingIn 6 = .ok (.istore_n 2, 1) := by decide +kernel
theorem dX4_livingIn_7 : decode cX4_livingIn 7 = .ok (.iconst 0, 1) := by decide +kernel
theorem dX4_livingIn_8 : decode cX4_livingIn 8 = .ok (.istore_n 3, 1) := by decide +kernel
theorem dX4_livingIn_9 : decode cX4_livingIn 9 = .ok (.iload_n 3, 1) := by decide +kernel
theorem dX4_livingIn_10 : decode cX4_livingIn 10 = .ok (.bipush 6, 2) := by decide +kernel
theorem dX4_livingIn_12 : decode cX4_livingIn 12 = .ok (.if_icmp .ge 45, 3) := by decide +kernel
theorem dX4_livingIn_15 : decode cX4_livingIn 15 = .ok (.iload_n 2, 1) := by decide +kernel
theorem dX4_livingIn_16 : decode cX4_livingIn 16 = .ok (.iload_n 3, 1) := by decide +kernel
theorem dX4_livingIn_17 : decode cX4_livingIn 17 = .ok (.iload_n 1, 1) := by decide +kernel
theorem dX4_livingIn_18 : decode cX4_livingIn 18 = .ok (.if_icmp .ne 7, 3) := by decide +kernel
theorem dX4_livingIn_21 : decode cX4_livingIn 21 = .ok (.iconst 0, 1) := by decide +kernel
theorem dX4_livingIn_22 : decode cX4_livingIn 22 = .ok (.goto 27, 3) := by decide +kernel
theorem dX4_livingIn_25 : decode cX4_livingIn 25 = .ok (.aload_n 0, 1) := by decide +kernel
theorem dX4_livingIn_26 : decode cX4_livingIn 26 = .ok (.getfield 68, 3) := by decide +kernel
theorem dX4_livingIn_29 : decode cX4_livingIn 29 = .ok (.iload_n 3, 1) := by decide +kernel
theorem dX4_livingIn_30 : decode cX4_livingIn 30 = .ok (.iaload, 1) := by decide +kernel
theorem dX4_livingIn_31 : decode cX4_livingIn 31 = .ok (.aload_n 0, 1) := by decide +kernel
theorem dX4_livingIn_32 : decode cX4_livingIn 32 = .ok (.getfield 68, 3) := by decide +kernel
theorem dX4_livingIn_35 : decode cX4_livingIn 35 = .ok (.iload_n 3, 1) := by decide +kernel
theorem dX4_livingIn_36 : decode cX4_livingIn 36 = .ok (.iaload, 1) := by decide +kernel
theorem dX4_livingIn_37 : decode cX4_livingIn 37 = .ok (.aload_n 0, 1) := by decide +kernel
theorem dX4_livingIn_38 : decode cX4_livingIn 38 = .ok (.iload_n 3, 1) := by decide +kernel
theorem dX4_livingIn_39 : decode cX4_livingIn 39 = .ok (.bipush 6, 2) := by decide +kernel
theorem dX4_livingIn_41 : decode cX4_livingIn 41 = .ok (.invokevirtual 122, 3) := by decide +kernel
theorem dX4_livingIn_44 : decode cX4_livingIn 44 = .ok (.imul, 1) := by decide +kernel
theorem dX4_livingIn_45 : decode cX4_livingIn 45 = .ok (.bipush 100, 2) := by decide +kernel
theorem dX4_livingIn_47 : decode cX4_livingIn 47 = .ok (.idiv, 1) := by decide +kernel
theorem dX4_livingIn_48 : decode cX4_livingIn 48 = .ok (.isub, 1) := by decide +kernel
theorem dX4_livingIn_49 : decode cX4_livingIn 49 = .ok (.iadd, 1) := by decide +kernel
theorem dX4_livingIn_50 : decode cX4_livingIn 50 = .ok (.istore_n 2, 1) := by decide +kernel
theorem dX4_livingIn_51 : decode cX4_livingIn 51 = .ok (.iinc 3 1, 3) := by decide +kernel
theorem dX4_livingIn_54 : decode cX4_livingIn 54 = .ok (.goto (-45), 3) := by decide +kernel
theorem dX4_livingIn_57 : decode cX4_livingIn 57 = .ok (.iload_n 2, 1) := by decide +kernel
theorem dX4_livingIn_58 : decode cX4_livingIn 58 = .ok (.ireturn, 1) := by decide +kernel
theorem hd_X4_livingIn : yX4_livingIn.cls ≠ "java/lang/invoke/MethodHandle" ∧ yX4_livingIn.cls ≠ "java/lang/invoke/VarHandle" ∧ (parseMethodDescriptor yX4_livingIn.desc).map (fun d => d.parameters.length) = some 1 := by decide +kernel
def f_X4_livingIn_L9 (S : vS) : Nat → Int32 → Int32 → Int32 →  Option Int32
  | 0, _, _, _ => none
  | n + 1, x1, x2, x3 => if (6 : Int32) ≤ x3 then some x2 else if x3 = x1 then (f_X4_livingIn_L9 S n) x1 (x2 + (0 : Int32)) (x3 + 1) else if inb x3 6 = true then b1 (f_X4_lawOf x3 (6 : Int32) S) fun r7 => lt ((x2 + ((S 19 (x3.toNatClampNeg)) - (((S 19 (x3.toNatClampNeg)) * r7) / (100 : Int32))))) fun v8 => (f_X4_livingIn_L9 S n) x1 v8 (x3 + 1) else none
def f_X4_livingIn (a1 : Int32) (S : vS) : Option Int32 := if inb a1 6 = true then lt ((S 19 (a1.toNatClampNeg))) fun v2 => b1 (f_X4_livingIn_L9 S FU a1 v2 (0 : Int32)) fun y9 => some y9 else none
set_option maxHeartbeats 4000000 in
set_option maxRecDepth 20000 in
theorem c_X4_livingIn (l : Launch) (D : va_G) (cI cO : ClassId) (ad : Nat → Nat) (a1 : Int32) (S : vS) (R9 : Int32) (hf : f_X4_livingIn a1 S = some R9) : CI l yX4_livingIn cX4_livingIn 4 .int ({ frames := 1, cells := 0, slots := 0, locals := 22 }) [.ref (ad 5), .int a1] D cI cO ad S R9 S := by
  refine CI.of (by decide +kernel) (Nat.le_of_ble_eq_true rfl) (fun p e s m args below meth c Q ls X hl hw hfin => ?_)
  have hl : lv_has ls 4 [(0, .ref (ad 5)), (1, .int a1)] := hl
  have hx := X.1
  have hb := X.2.1
  have L9 : ∀ (n : Nat) (x1 : Int32) (x2 : Int32) (x3 : Int32) (res : Int32), f_X4_livingIn_L9 S n x1 x2 x3 = some res → (K : ∀ (y2 : Int32), some y2 = some res → ∀ (H : Heap) (locs : List Loc) (ls : Array Slot), WD D cI cO ad s S H locs → lv_has ls 4 [(2, .int y2)] → W p l e ({ frames := 1, cells := 0, slots := 0, locals := 22 }) s m args below meth c H locs 0 0 Q (F0 m 57 ls [])) → ∀ (H : Heap) (locs : List Loc) (ls : Array Slot), WD D cI cO ad s S H locs → lv_has ls 4 [(0, .ref (ad 5)), (1, .int x1), (2, .int x2), (3, .int x3)] → W p l e ({ frames := 1, cells := 0, slots := 0, locals := 22 }) s m args below meth c H locs 0 0 Q (F0 m 9 ls []) := by
    intro n
    induction n with
    | zero => intro x1 x2 x3 res hf; cases hf
    | succ n ih =>
      intro x1 x2 x3 res hf K H locs ls hw hl
      unfold f_X4_livingIn_L9 at hf
      refine lv_iload_n hx hb dX4_livingIn_9 rfl (lv_at hl 3 rfl) ?_
      refine lv_bipush (v := 6) hx hb dX4_livingIn_10 (by decide +kernel) ?_
      refine lv_icmp_ge (tgt := 57) hx hb dX4_livingIn_12 (by decide) (fun c3 => ?_) (fun c3 => ?_)
      · replace hf := if_t c3 hf
        exact K x2 hf _ _ _ hw (lv_sub hl [2] rfl)
      · replace hf := if_f c3 hf
        refine lv_iload_n hx hb dX4_livingIn_15 rfl (lv_at hl 2 rfl) ?_
        refine lv_iload_n hx hb dX4_livingIn_16 rfl (lv_at hl 3 rfl) ?_
        refine lv_iload_n hx hb dX4_livingIn_17 rfl (lv_at hl 1 rfl) ?_
        refine lv_icmp_ne (tgt := 25) hx hb dX4_livingIn_18 (by decide) (fun c4 => ?_) (fun c4 => ?_)
        · replace hf := if_f c4 hf
          refine lv_aload_n hx hb dX4_livingIn_25 rfl (lv_at hl 0 rfl) ?_
          refine x_get X hw 5 (Nat.le_of_ble_eq_true rfl) ce5 rfl i_X4 22 (by decide) q612 ⟨rfl, rfl, rfl⟩ rfl dX4_livingIn_26 ?_
          refine lv_iload_n hx hb dX4_livingIn_29 rfl (lv_at hl 3 rfl) ?_
          obtain ⟨h5, hf⟩ := if_s hf
          refine x_iald X hw 19 ⟨Nat.le_of_ble_eq_true rfl, Nat.le_of_ble_eq_true rfl⟩ rfl h5 (x3.toNatClampNeg) rfl dX4_livingIn_30 ?_
          refine lv_aload_n hx hb dX4_livingIn_31 rfl (lv_at hl 0 rfl) ?_
          refine x_get X hw 5 (Nat.le_of_ble_eq_true rfl) ce5 rfl i_X4 22 (by decide) q612 ⟨rfl, rfl, rfl⟩ rfl dX4_livingIn_32 ?_
          refine lv_iload_n hx hb dX4_livingIn_35 rfl (lv_at hl 3 rfl) ?_
          refine x_iald X hw 19 ⟨Nat.le_of_ble_eq_true rfl, Nat.le_of_ble_eq_true rfl⟩ rfl h5 (x3.toNatClampNeg) rfl dX4_livingIn_36 ?_
          refine lv_aload_n hx hb dX4_livingIn_37 rfl (lv_at hl 0 rfl) ?_
          refine lv_iload_n hx hb dX4_livingIn_38 rfl (lv_at hl 3 rfl) ?_
          refine lv_bipush (v := 6) hx hb dX4_livingIn_39 (by decide +kernel) ?_
          obtain ⟨r7, h6, hf⟩ := b1_s hf
          refine kVi X hw (c_X4_lawOf l D cI cO ad x3 (6 : Int32) S r7 h6) (Nat.le_of_ble_eq_true rfl) ce5 rfl ⟨rfl, rfl⟩ q751 q753 q41 q64 q754 hd_X4_lawOf ⟨Nat.le_of_ble_eq_true rfl, Nat.le_of_ble_eq_true rfl⟩ rfl hl.1 rfl (Nat.le_of_ble_eq_true rfl) dX4_livingIn_41 (fun H locs hw => ?_)
          refine lv_imul hx hb dX4_livingIn_44 ?_
          refine lv_bipush (v := 100) hx hb dX4_livingIn_45 (by decide +kernel) ?_
          refine lv_idiv hx hb dX4_livingIn_47 (by decide) ?_
          refine lv_isub hx hb dX4_livingIn_48 ?_
          refine lv_iadd hx hb dX4_livingIn_49 ?_
          refine lv_topi (fun v8 ev8 => ?_)
          replace hf := lt_e ev8 hf
          refine lv_istore_n (lv' := [(2, .int v8), (0, .ref (ad 5)), (1, .int x1), (3, .int x3)]) hx hb dX4_livingIn_50 rfl hl (by decide) rfl (fun ls hl => ?_)
          refine lv_iinc (v := (x3 + 1)) (lv' := [(3, .int (x3 + 1)), (2, .int v8), (0, .ref (ad 5)), (1, .int x1)]) hx hb dX4_livingIn_51 hl (k := 3) rfl rfl (by decide) rfl (fun ls hl => ?_)
          refine lv_goto (tgt := 9) hx hb dX4_livingIn_54 (by decide) ?_
          exact ih x1 v8 (x3 + 1) _ hf K _ _ _ hw (lv_sub hl [2, 3, 1, 0] rfl)
        · replace hf := if_t c4 hf
          refine lv_iconst (v := 0) hx hb dX4_livingIn_21 (by decide) ?_
          refine lv_goto (tgt := 49) hx hb dX4_livingIn_22 (by decide) ?_
          refine lv_iadd hx hb dX4_livingIn_49 ?_
          refine lv_istore_n (lv' := [(2, .int (x2 + (0 : Int32))), (0, .ref (ad 5)), (1, .int x1), (3, .int x3)]) hx hb dX4_livingIn_50 rfl hl (by decide) rfl (fun ls hl => ?_)
          refine lv_iinc (v := (x3 + 1)) (lv' := [(3, .int (x3 + 1)), (2, .int (x2 + (0 : Int32))), (0, .ref (ad 5)), (1, .int x1)]) hx hb dX4_livingIn_51 hl (k := 3) rfl rfl (by decide) rfl (fun ls hl => ?_)
          refine lv_goto (tgt := 9) hx hb dX4_livingIn_54 (by decide) ?_
          exact ih x1 (x2 + (0 : Int32)) (x3 + 1) _ hf K _ _ _ hw (lv_sub hl [2, 3, 1, 0] rfl)
  unfold f_X4_livingIn at hf
  refine lv_aload_n hx hb dX4_livingIn_0 rfl (lv_at hl 0 rfl) ?_
  refine x_get X hw 5 (Nat.le_of_ble_eq_true rfl) ce5 rfl i_X4 22 (by decide) q612 ⟨rfl, rfl, rfl⟩ rfl dX4_livingIn_1 ?_
  refine lv_iload_n hx hb dX4_livingIn_4 rfl (lv_at hl 1 rfl) ?_
  obtain ⟨h1, hf⟩ := if_s hf
  refine x_iald X hw 19 ⟨Nat.le_of_ble_eq_true rfl, Nat.le_of_ble_eq_true rfl⟩ rfl h1 (a1.toNatClampNeg) rfl dX4_livingIn_5 ?_
  refine lv_topi (fun v2 ev2 => ?_)
  replace hf := lt_e ev2 hf
  refine lv_istore_n (lv' := [(2, .int v2), (0, .ref (ad 5)), (1, .int a1)]) hx hb dX4_livingIn_6 rfl hl (by decide) rfl (fun ls hl => ?_)
  refine lv_iconst (v := 0) hx hb dX4_livingIn_7 (by decide) ?_
  refine lv_istore_n (lv' := [(3, .int (0 : Int32)), (2, .int v2), (0, .ref (ad 5)), (1, .int a1)]) hx hb dX4_livingIn_8 rfl hl (by decide) rfl (fun ls hl => ?_)
  obtain ⟨y9, h10, hf⟩ := b1_s hf
  refine L9 FU a1 v2 (0 : Int32) _ h10 (fun y9' eK H locs ls hw hl => ?_) _ _ _ hw (lv_sub hl [2, 3, 1, 0] rfl)
  cases eK
  refine lv_iload_n hx hb dX4_livingIn_57 rfl (lv_at hl 0 rfl) ?_
  exact hfin _ _ _ _ _ _ hw (Option.some.inj hf) rfl (narI _) dX4_livingIn_58
/-- NineLandsModel.lives(I)I -/
theorem dX4_lives_0 : decode cX4_lives 0 = .ok (.iload_n 1, 1) := by decide +kernel
theorem dX4_lives_1 : decode cX4_lives 1 = .ok (.invokestatic 105, 3) := by decide +kernel
theorem dX4_lives_4 : decode cX4_lives 4 = .ok (.ifCond .ne 9, 3) := by decide +kernel
theorem dX4_lives_7 : decode cX4_lives 7 = .ok (.aload_n 0, 1) := by decide +kernel
theorem dX4_lives_8 : decode cX4_lives 8 = .ok (.iconst (-1), 1) := by decide +kernel
theorem dX4_lives_9 : decode cX4_lives 9 = .ok (.invokevirtual 85, 3) := by decide +kernel
theorem dX4_lives_12 : decode cX4_lives 12 = .ok (.ireturn, 1) := by decide +kernel
theorem dX4_lives_13 : decode cX4_lives 13 = .ok (.aload_n 0, 1) := by decide +kernel
theorem dX4_lives_14 : decode cX4_lives 14 = .ok (.aload_n 0, 1) := by decide +kernel
theorem dX4_lives_15 : decode cX4_lives 15 = .ok (.getfield 102, 3) := by decide +kernel
theorem dX4_lives_18 : decode cX4_lives 18 = .ok (.invokevirtual 163, 3) := by decide +kernel
theorem dX4_lives_21 : decode cX4_lives 21 = .ok (.aload_n 0, 1) := by decide +kernel
theorem dX4_lives_22 : decode cX4_lives 22 = .ok (.iload_n 1, 1) := by decide +kernel
theorem dX4_lives_23 : decode cX4_lives 23 = .ok (.invokevirtual 169, 3) := by decide +kernel
theorem dX4_lives_26 : decode cX4_lives 26 = .ok (.ireturn, 1) := by decide +kernel
theorem hd_X4_lives : yX4_lives.cls ≠ "java/lang/invoke/MethodHandle" ∧ yX4_lives.cls ≠ "java/lang/invoke/VarHandle" ∧ (parseMethodDescriptor yX4_lives.desc).map (fun d => d.parameters.length) = some 1 := by decide +kernel
def f_X4_lives (a1 : Int32) (S : vS) : Option (Int32 × vS) := b1 (f_X4_isLand a1 S) fun r2 => if r2 = 0 then b2 (f_X4_no (-1 : Int32) S) fun r10 S9 => some (r10, S9) else b1 (f_X4_finds (S 0 2) S) fun S5 => b1 (f_X4_livingIn a1 S5) fun r7 => some (r7, S5)
set_option maxHeartbeats 4000000 in
set_option maxRecDepth 20000 in
theorem c_X4_lives (l : Launch) (D : va_G) (cI cO : ClassId) (ad : Nat → Nat) (a1 : Int32) (S : vS) (R9 : Int32) (S9 : vS) (hf : f_X4_lives a1 S = some (R9, S9)) : CI l yX4_lives cX4_lives 2 .int ({ frames := 5, cells := 0, slots := 0, locals := 114 }) [.ref (ad 5), .int a1] D cI cO ad S R9 S9 := by
  refine CI.of (by decide +kernel) (Nat.le_of_ble_eq_true rfl) (fun p e s m args below meth c Q ls X hl hw hfin => ?_)
  have hl : lv_has ls 2 [(0, .ref (ad 5)), (1, .int a1)] := hl
  have hx := X.1
  have hb := X.2.1
  unfold f_X4_lives at hf
  refine lv_iload_n hx hb dX4_lives_0 rfl (lv_at hl 1 rfl) ?_
  obtain ⟨r2, h1, hf⟩ := b1_s hf
  refine kSi X hw (c_X4_isLand l D cI cO ad a1 S r2 h1) ⟨rfl, rfl⟩ q705 q706 q64 q707 hd_X4_isLand ⟨Nat.le_of_ble_eq_true rfl, Nat.le_of_ble_eq_true rfl⟩ rfl hl.1 rfl (Nat.le_of_ble_eq_true rfl) dX4_lives_1 (fun H locs hw => ?_)
  refine lv_if_ne (tgt := 13) hx hb dX4_lives_4 (by decide) (fun c3 => ?_) (fun c3 => ?_)
  · replace hf := if_f c3 hf
    refine lv_aload_n hx hb dX4_lives_13 rfl (lv_at hl 0 rfl) ?_
    refine lv_aload_n hx hb dX4_lives_14 rfl (lv_at hl 0 rfl) ?_
    refine x_get X hw 5 (Nat.le_of_ble_eq_true rfl) ce5 rfl i_X4 15 (by decide) q605 ⟨rfl, rfl, rfl⟩ rfl dX4_lives_15 ?_
    obtain ⟨S5, h4, hf⟩ := b1_s hf
    refine kVv X hw (c_X4_finds l D cI cO ad (S 0 2) S S5 h4) (Nat.le_of_ble_eq_true rfl) ce5 rfl ⟨rfl, rfl⟩ q806 q808 q49 q64 q809 hd_X4_finds ⟨Nat.le_of_ble_eq_true rfl, Nat.le_of_ble_eq_true rfl⟩ rfl hl.1 rfl (Nat.le_of_ble_eq_true rfl) dX4_lives_18 (fun H locs hw => ?_)
    refine lv_aload_n hx hb dX4_lives_21 rfl (lv_at hl 0 rfl) ?_
    refine lv_iload_n hx hb dX4_lives_22 rfl (lv_at hl 1 rfl) ?_
    obtain ⟨r7, h6, hf⟩ := b1_s hf
    refine kVi X hw (c_X4_livingIn l D cI cO ad a1 S5 r7 h6) (Nat.le_of_ble_eq_true rfl) ce5 rfl ⟨rfl, rfl⟩ q838 q840 q52 q64 q841 hd_X4_livingIn ⟨Nat.le_of_ble_eq_true rfl, Nat.le_of_ble_eq_true rfl⟩ rfl hl.1 rfl (Nat.le_of_ble_eq_true rfl) dX4_lives_23 (fun H locs hw => ?_)
    exact hfin _ _ _ _ _ _ hw (s2a hf) (s2b hf) (narI _) dX4_lives_26
  · replace hf := if_t c3 hf
    refine lv_aload_n hx hb dX4_lives_7 rfl (lv_at hl 0 rfl) ?_
    refine lv_iconst (v := -1) hx hb dX4_lives_8 (by decide) ?_
    obtain ⟨r10, S9, h8, hf⟩ := b2_s hf
    refine kVi X hw (c_X4_no l D cI cO ad (-1 : Int32) S r10 S9 h8) (Nat.le_of_ble_eq_true rfl) ce5 rfl ⟨rfl, rfl⟩ q688 q690 q34 q64 q691 hd_X4_no ⟨Nat.le_of_ble_eq_true rfl, Nat.le_of_ble_eq_true rfl⟩ rfl hl.1 rfl (Nat.le_of_ble_eq_true rfl) dX4_lives_9 (fun H locs hw => ?_)
    exact hfin _ _ _ _ _ _ hw (s2a hf) (s2b hf) (narI _) dX4_lives_12
/-- NineLandsModel.where()I -/
theorem dX4_where_0 : decode cX4_where 0 = .ok (.aload_n 0, 1) := by decide +kernel
theorem dX4_where_1 : decode cX4_where 1 = .ok (.aload_n 0, 1) := by decide +kernel
theorem dX4_where_2 : decode cX4_where 2 = .ok (.getfield 102, 3) := by decide +kernel
theorem dX4_where_5 : decode cX4_where 5 = .ok (.invokevirtual 163, 3) := by decide +kernel
theorem dX4_where_8 : decode cX4_where 8 = .ok (.iconst 0, 1) := by decide +kernel
theorem dX4_where_9 : decode cX4_where 9 = .ok (.istore_n 1, 1) := by decide +kernel
theorem dX4_where_10 : decode cX4_where 10 = .ok (.iconst 1, 1) := by decide +kernel
theorem dX4_where_11 : decode cX4_where 11 = .ok (.istore_n 2, 1) := by decide +kernel
theorem dX4_where_12 : decode cX4_where 12 = .ok (.iload_n 2, 1) := by decide +kernel
theorem dX4_where_13 : decode cX4_where 13 = .ok (.bipush 6, 2) := by decide +kernel
theorem dX4_where_15 : decode cX4_where 15 = .ok (.if_icmp .ge 28, 3) := by decide +kernel
theorem dX4_where_18 : decode cX4_where 18 = .ok (.aload_n 0, 1) := by decide +kernel
theorem dX4_where_19 : decode cX4_where 19 = .ok (.iload_n 2, 1) := by decide +kernel
theorem dX4_where_20 : decode cX4_where 20 = .ok (.invokevirtual 169, 3) := by decide +kernel
theorem dX4_where_23 : decode cX4_where 23 = .ok (.aload_n 0, 1) := by decide +kernel
theorem dX4_where_24 : decode cX4_where 24 = .ok (.iload_n 1, 1) := by decide +kernel
theorem dX4_where_25 : decode cX4_where 25 = .ok (.invokevirtual 169, 3) := by decide +kernel
theorem dX4_where_28 : decode cX4_where 28 = .ok (.if_icmp .le 7, 3) := by decide +kernel
theorem dX4_where_31 : decode cX4_where 31 = .ok (.iload_n 2, 1) := by decide +kernel
theorem dX4_where_32 : decode cX4_where 32 = .ok (.goto 4, 3) := by decide +kernel
theorem dX4_where_35 : decode cX4_where 35 = .ok (.iload_n 1, 1) := by decide +kernel
theorem dX4_where_36 : decode cX4_where 36 = .ok (.istore_n 1, 1) := by decide +kernel
theorem dX4_where_37 : decode cX4_where 37 = .ok (.iinc 2 1, 3) := by decide +kernel
theorem dX4_where_40 : decode cX4_where 40 = .ok (.goto (-28), 3) := by decide +kernel
theorem dX4_where_43 : decode cX4_where 43 = .ok (.iload_n 1, 1) := by decide +kernel
theorem dX4_where_44 : decode cX4_where 44 = .ok (.ireturn, 1) := by decide +kernel
theorem hd_X4_where : yX4_where.cls ≠ "java/lang/invoke/MethodHandle" ∧ yX4_where.cls ≠ "java/lang/invoke/VarHandle" ∧ (parseMethodDescriptor yX4_where.desc).map (fun d => d.parameters.length) = some 0 := by decide +kernel
def f_X4_where_L12 (S : vS) : Nat → Int32 → Int32 →  Option Int32
  | 0, _, _ => none
  | n + 1, x1, x2 => if (6 : Int32) ≤ x2 then some x1 else b1 (f_X4_livingIn x2 S) fun r5 => b1 (f_X4_livingIn x1 S) fun r7 => if r5 ≤ r7 then (f_X4_where_L12 S n) x1 (x2 + 1) else (f_X4_where_L12 S n) x2 (x2 + 1)
def f_X4_where  (S : vS) : Option (Int32 × vS) := b1 (f_X4_finds (S 0 2) S) fun S2 => b1 (f_X4_where_L12 S2 FU (0 : Int32) (1 : Int32)) fun y9 => some (y9, S2)
set_option maxHeartbeats 4000000 in
set_option maxRecDepth 20000 in
theorem c_X4_where (l : Launch) (D : va_G) (cI cO : ClassId) (ad : Nat → Nat)  (S : vS) (R9 : Int32) (S9 : vS) (hf : f_X4_where  S = some (R9, S9)) : CI l yX4_where cX4_where 3 .int ({ frames := 5, cells := 0, slots := 0, locals := 114 }) [.ref (ad 5)] D cI cO ad S R9 S9 := by
  refine CI.of (by decide +kernel) (Nat.le_of_ble_eq_true rfl) (fun p e s m args below meth c Q ls X hl hw hfin => ?_)
  have hl : lv_has ls 3 [(0, .ref (ad 5))] := hl
  have hx := X.1
  have hb := X.2.1
  have L12 : ∀ (S : vS) (n : Nat) (x1 : Int32) (x2 : Int32) (res : Int32), f_X4_where_L12 S n x1 x2 = some res → (K : ∀ (y1 : Int32), some y1 = some res → ∀ (H : Heap) (locs : List Loc) (ls : Array Slot), WD D cI cO ad s S H locs → lv_has ls 3 [(1, .int y1)] → W p l e ({ frames := 5, cells := 0, slots := 0, locals := 114 }) s m args below meth c H locs 0 0 Q (F0 m 43 ls [])) → ∀ (H : Heap) (locs : List Loc) (ls : Array Slot), WD D cI cO ad s S H locs → lv_has ls 3 [(0, .ref (ad 5)), (1, .int x1), (2, .int x2)] → W p l e ({ frames := 5, cells := 0, slots := 0, locals := 114 }) s m args below meth c H locs 0 0 Q (F0 m 12 ls []) := by
    intro S n
    induction n with
    | zero => intro x1 x2 res hf; cases hf
    | succ n ih =>
      intro x1 x2 res hf K H locs ls hw hl
      unfold f_X4_where_L12 at hf
      refine lv_iload_n hx hb dX4_where_12 rfl (lv_at hl 2 rfl) ?_
      refine lv_bipush (v := 6) hx hb dX4_where_13 (by decide +kernel) ?_
      refine lv_icmp_ge (tgt := 43) hx hb dX4_where_15 (by decide) (fun c3 => ?_) (fun c3 => ?_)
      · replace hf := if_t c3 hf
        exact K x1 hf _ _ _ hw (lv_sub hl [1] rfl)
      · replace hf := if_f c3 hf
        refine lv_aload_n hx hb dX4_where_18 rfl (lv_at hl 0 rfl) ?_
        refine lv_iload_n hx hb dX4_where_19 rfl (lv_at hl 2 rfl) ?_
        obtain ⟨r5, h4, hf⟩ := b1_s hf
        refine kVi X hw (c_X4_livingIn l D cI cO ad x2 S r5 h4) (Nat.le_of_ble_eq_true rfl) ce5 rfl ⟨rfl, rfl⟩ q838 q840 q52 q64 q841 hd_X4_livingIn ⟨Nat.le_of_ble_eq_true rfl, Nat.le_of_ble_eq_true rfl⟩ rfl hl.1 rfl (Nat.le_of_ble_eq_true rfl) dX4_where_20 (fun H locs hw => ?_)
        refine lv_aload_n hx hb dX4_where_23 rfl (lv_at hl 0 rfl) ?_
        refine lv_iload_n hx hb dX4_where_24 rfl (lv_at hl 1 rfl) ?_
        obtain ⟨r7, h6, hf⟩ := b1_s hf
        refine kVi X hw (c_X4_livingIn l D cI cO ad x1 S r7 h6) (Nat.le_of_ble_eq_true rfl) ce5 rfl ⟨rfl, rfl⟩ q838 q840 q52 q64 q841 hd_X4_livingIn ⟨Nat.le_of_ble_eq_true rfl, Nat.le_of_ble_eq_true rfl⟩ rfl hl.1 rfl (Nat.le_of_ble_eq_true rfl) dX4_where_25 (fun H locs hw => ?_)
        refine lv_icmp_le (tgt := 35) hx hb dX4_where_28 (by decide) (fun c8 => ?_) (fun c8 => ?_)
        · replace hf := if_t c8 hf
          refine lv_iload_n hx hb dX4_where_35 rfl (lv_at hl 1 rfl) ?_
          refine lv_istore_n (lv' := [(1, .int x1), (0, .ref (ad 5)), (2, .int x2)]) hx hb dX4_where_36 rfl hl (by decide) rfl (fun ls hl => ?_)
          refine lv_iinc (v := (x2 + 1)) (lv' := [(2, .int (x2 + 1)), (1, .int x1), (0, .ref (ad 5))]) hx hb dX4_where_37 hl (k := 2) rfl rfl (by decide) rfl (fun ls hl => ?_)
          refine lv_goto (tgt := 12) hx hb dX4_where_40 (by decide) ?_
          exact ih x1 (x2 + 1) _ hf K _ _ _ hw (lv_sub hl [2, 1, 0] rfl)
        · replace hf := if_f c8 hf
          refine lv_iload_n hx hb dX4_where_31 rfl (lv_at hl 2 rfl) ?_
          refine lv_goto (tgt := 36) hx hb dX4_where_32 (by decide) ?_
          refine lv_istore_n (lv' := [(1, .int x2), (0, .ref (ad 5)), (2, .int x2)]) hx hb dX4_where_36 rfl hl (by decide) rfl (fun ls hl => ?_)
          refine lv_iinc (v := (x2 + 1)) (lv' := [(2, .int (x2 + 1)), (1, .int x2), (0, .ref (ad 5))]) hx hb dX4_where_37 hl (k := 2) rfl rfl (by decide) rfl (fun ls hl => ?_)
          refine lv_goto (tgt := 12) hx hb dX4_where_40 (by decide) ?_
          exact ih x2 (x2 + 1) _ hf K _ _ _ hw (lv_sub hl [2, 1, 0] rfl)
  unfold f_X4_where at hf
  refine lv_aload_n hx hb dX4_where_0 rfl (lv_at hl 0 rfl) ?_
  refine lv_aload_n hx hb dX4_where_1 rfl (lv_at hl 0 rfl) ?_
  refine x_get X hw 5 (Nat.le_of_ble_eq_true rfl) ce5 rfl i_X4 15 (by decide) q605 ⟨rfl, rfl, rfl⟩ rfl dX4_where_2 ?_
  obtain ⟨S2, h1, hf⟩ := b1_s hf
  refine kVv X hw (c_X4_finds l D cI cO ad (S 0 2) S S2 h1) (Nat.le_of_ble_eq_true rfl) ce5 rfl ⟨rfl, rfl⟩ q806 q808 q49 q64 q809 hd_X4_finds ⟨Nat.le_of_ble_eq_true rfl, Nat.le_of_ble_eq_true rfl⟩ rfl hl.1 rfl (Nat.le_of_ble_eq_true rfl) dX4_where_5 (fun H locs hw => ?_)
  refine lv_iconst (v := 0) hx hb dX4_where_8 (by decide) ?_
  refine lv_istore_n (lv' := [(1, .int (0 : Int32)), (0, .ref (ad 5))]) hx hb dX4_where_9 rfl hl (by decide) rfl (fun ls hl => ?_)
  refine lv_iconst (v := 1) hx hb dX4_where_10 (by decide) ?_
  refine lv_istore_n (lv' := [(2, .int (1 : Int32)), (1, .int (0 : Int32)), (0, .ref (ad 5))]) hx hb dX4_where_11 rfl hl (by decide) rfl (fun ls hl => ?_)
  obtain ⟨y9, h10, hf⟩ := b1_s hf
  refine L12 S2 FU (0 : Int32) (1 : Int32) _ h10 (fun y9' eK H locs ls hw hl => ?_) _ _ _ hw (lv_sub hl [2, 1, 0] rfl)
  cases eK
  refine lv_iload_n hx hb dX4_where_43 rfl (lv_at hl 0 rfl) ?_
  exact hfin _ _ _ _ _ _ hw (s2a hf) (s2b hf) (narI _) dX4_where_44
/-- NineLandsModel.behind()I -/
theorem dX4_behind_0 : decode cX4_behind 0 = .ok (.iconst 0, 1) := by decide +kernel
theorem dX4_behind_1 : decode cX4_behind 1 = .ok (.istore_n 1, 1) := by decide +kernel
theorem dX4_behind_2 : decode cX4_behind 2 = .ok (.iconst 0, 1) := by decide +kernel
theorem dX4_behind_3 : decode cX4_behind 3 = .ok (.istore_n 2, 1) := by decide +kernel
theorem dX4_behind_4 : decode cX4_behind 4 = .ok (.iload_n 2, 1) := by decide +kernel
theorem dX4_behind_5 : decode cX4_behind 5 = .ok (.aload_n 0, 1) := by decide +kernel
theorem dX4_behind_6 : decode cX4_behind 6 = .ok (.getfield 102, 3) := by decide +kernel
theorem dX4_behind_9 : decode cX4_behind 9 = .ok (.if_icmp .ge 20, 3) := by decide +kernel
theorem dX4_behind_12 : decode cX4_behind 12 = .ok (.iload_n 1, 1) := by decide +kernel
theorem dX4_behind_13 : decode cX4_behind 13 = .ok (.aload_n 0, 1) := by decide +kernel
theorem dX4_behind_14 : decode cX4_behind 14 = .ok (.getfield 25, 3) := by decide +kernel
theorem dX4_behind_17 : decode cX4_behind 17 = .ok (.iload_n 2, 1) := by decide +kernel
theorem dX4_behind_18 : decode cX4_behind 18 = .ok (.iaload, 1) := by decide +kernel
theorem dX4_behind_19 : decode cX4_behind 19 = .ok (.invokestatic 143, 3) := by decide +kernel
theorem dX4_behind_22 : decode cX4_behind 22 = .ok (.istore_n 1, 1) := by decide +kernel
theorem dX4_behind_23 : decode cX4_behind 23 = .ok (.iinc 2 1, 3) := by decide +kernel
theorem dX4_behind_26 : decode cX4_behind 26 = .ok (.goto (-22), 3) := by decide +kernel
theorem dX4_behind_29 : decode cX4_behind 29 = .ok (.iload_n 1, 1) := by decide +kernel
theorem dX4_behind_30 : decode cX4_behind 30 = .ok (.ireturn, 1) := by decide +kernel
theorem hd_X4_behind : yX4_behind.cls ≠ "java/lang/invoke/MethodHandle" ∧ yX4_behind.cls ≠ "java/lang/invoke/VarHandle" ∧ (parseMethodDescriptor yX4_behind.desc).map (fun d => d.parameters.length) = some 0 := by decide +kernel
def f_X4_behind_L4 (S : vS) : Nat → Int32 → Int32 →  Option Int32
  | 0, _, _ => none
  | n + 1, x1, x2 => if (S 0 2) ≤ x2 then some x1 else if inb x2 21 = true then b1 (f_X4_greater x1 (S 6 (x2.toNatClampNeg)) S) fun r4 => (f_X4_behind_L4 S n) r4 (x2 + 1) else none
def f_X4_behind  (S : vS) : Option Int32 := b1 (f_X4_behind_L4 S FU (0 : Int32) (0 : Int32)) fun y5 => some y5
set_option maxHeartbeats 4000000 in
set_option maxRecDepth 20000 in
theorem c_X4_behind (l : Launch) (D : va_G) (cI cO : ClassId) (ad : Nat → Nat)  (S : vS) (R9 : Int32) (hf : f_X4_behind  S = some R9) : CI l yX4_behind cX4_behind 3 .int ({ frames := 1, cells := 0, slots := 0, locals := 21 }) [.ref (ad 5)] D cI cO ad S R9 S := by
  refine CI.of (by decide +kernel) (Nat.le_of_ble_eq_true rfl) (fun p e s m args below meth c Q ls X hl hw hfin => ?_)
  have hl : lv_has ls 3 [(0, .ref (ad 5))] := hl
  have hx := X.1
  have hb := X.2.1
  have L4 : ∀ (n : Nat) (x1 : Int32) (x2 : Int32) (res : Int32), f_X4_behind_L4 S n x1 x2 = some res → (K : ∀ (y1 : Int32), some y1 = some res → ∀ (H : Heap) (locs : List Loc) (ls : Array Slot), WD D cI cO ad s S H locs → lv_has ls 3 [(1, .int y1)] → W p l e ({ frames := 1, cells := 0, slots := 0, locals := 21 }) s m args below meth c H locs 0 0 Q (F0 m 29 ls [])) → ∀ (H : Heap) (locs : List Loc) (ls : Array Slot), WD D cI cO ad s S H locs → lv_has ls 3 [(0, .ref (ad 5)), (1, .int x1), (2, .int x2)] → W p l e ({ frames := 1, cells := 0, slots := 0, locals := 21 }) s m args below meth c H locs 0 0 Q (F0 m 4 ls []) := by
    intro n
    induction n with
    | zero => intro x1 x2 res hf; cases hf
    | succ n ih =>
      intro x1 x2 res hf K H locs ls hw hl
      unfold f_X4_behind_L4 at hf
      refine lv_iload_n hx hb dX4_behind_4 rfl (lv_at hl 2 rfl) ?_
      refine lv_aload_n hx hb dX4_behind_5 rfl (lv_at hl 0 rfl) ?_
      refine x_get X hw 5 (Nat.le_of_ble_eq_true rfl) ce5 rfl i_X4 15 (by decide) q605 ⟨rfl, rfl, rfl⟩ rfl dX4_behind_6 ?_
      refine lv_icmp_ge (tgt := 29) hx hb dX4_behind_9 (by decide) (fun c1 => ?_) (fun c1 => ?_)
      · replace hf := if_t c1 hf
        exact K x1 hf _ _ _ hw (lv_sub hl [1] rfl)
      · replace hf := if_f c1 hf
        refine lv_iload_n hx hb dX4_behind_12 rfl (lv_at hl 1 rfl) ?_
        refine lv_aload_n hx hb dX4_behind_13 rfl (lv_at hl 0 rfl) ?_
        refine x_get X hw 5 (Nat.le_of_ble_eq_true rfl) ce5 rfl i_X4 5 (by decide) q595 ⟨rfl, rfl, rfl⟩ rfl dX4_behind_14 ?_
        refine lv_iload_n hx hb dX4_behind_17 rfl (lv_at hl 2 rfl) ?_
        obtain ⟨h2, hf⟩ := if_s hf
        refine x_iald X hw 6 ⟨Nat.le_of_ble_eq_true rfl, Nat.le_of_ble_eq_true rfl⟩ rfl h2 (x2.toNatClampNeg) rfl dX4_behind_18 ?_
        obtain ⟨r4, h3, hf⟩ := b1_s hf
        refine kSi X hw (c_X4_greater l D cI cO ad x1 (S 6 (x2.toNatClampNeg)) S r4 h3) ⟨rfl, rfl⟩ q791 q792 q64 q793 hd_X4_greater ⟨Nat.le_of_ble_eq_true rfl, Nat.le_of_ble_eq_true rfl⟩ rfl hl.1 rfl (Nat.le_of_ble_eq_true rfl) dX4_behind_19 (fun H locs hw => ?_)
        refine lv_istore_n (lv' := [(1, .int r4), (0, .ref (ad 5)), (2, .int x2)]) hx hb dX4_behind_22 rfl hl (by decide) rfl (fun ls hl => ?_)
        refine lv_iinc (v := (x2 + 1)) (lv' := [(2, .int (x2 + 1)), (1, .int r4), (0, .ref (ad 5))]) hx hb dX4_behind_23 hl (k := 2) rfl rfl (by decide) rfl (fun ls hl => ?_)
        refine lv_goto (tgt := 4) hx hb dX4_behind_26 (by decide) ?_
        exact ih r4 (x2 + 1) _ hf K _ _ _ hw (lv_sub hl [2, 1, 0] rfl)
  unfold f_X4_behind at hf
  refine lv_iconst (v := 0) hx hb dX4_behind_0 (by decide) ?_
  refine lv_istore_n (lv' := [(1, .int (0 : Int32)), (0, .ref (ad 5))]) hx hb dX4_behind_1 rfl hl (by decide) rfl (fun ls hl => ?_)
  refine lv_iconst (v := 0) hx hb dX4_behind_2 (by decide) ?_
  refine lv_istore_n (lv' := [(2, .int (0 : Int32)), (1, .int (0 : Int32)), (0, .ref (ad 5))]) hx hb dX4_behind_3 rfl hl (by decide) rfl (fun ls hl => ?_)
  obtain ⟨y5, h6, hf⟩ := b1_s hf
  refine L4 FU (0 : Int32) (0 : Int32) _ h6 (fun y5' eK H locs ls hw hl => ?_) _ _ _ hw (lv_sub hl [2, 1, 0] rfl)
  cases eK
  refine lv_iload_n hx hb dX4_behind_29 rfl (lv_at hl 0 rfl) ?_
  exact hfin _ _ _ _ _ _ hw (Option.some.inj hf) rfl (narI _) dX4_behind_30
/-- NineLandsModel.findsWith(IIII)V -/
theorem dX4_findsWith_0 : decode cX4_findsWith 0 = .ok (.aload_n 0, 1) := by decide +kernel
theorem dX4_findsWith_1 : decode cX4_findsWith 1 = .ok (.getfield 16, 3) := by decide +kernel
theorem dX4_findsWith_4 : decode cX4_findsWith 4 = .ok (.aload_n 0, 1) := by decide +kernel
theorem dX4_findsWith_5 : decode cX4_findsWith 5 = .ok (.getfield 102, 3) := by decide +kernel
theorem dX4_findsWith_8 : decode cX4_findsWith 8 = .ok (.iload_n 1, 1) := by decide +kernel
theorem dX4_findsWith_9 : decode cX4_findsWith 9 = .ok (.iastore, 1) := by decide +kernel
theorem dX4_findsWith_10 : decode cX4_findsWith 10 = .ok (.aload_n 0, 1) := by decide +kernel
theorem dX4_findsWith_11 : decode cX4_findsWith 11 = .ok (.getfield 19, 3) := by decide +kernel
theorem dX4_findsWith_14 : decode cX4_findsWith 14 = .ok (.aload_n 0, 1) := by decide +kernel
theorem dX4_findsWith_15 : decode cX4_findsWith 15 = .ok (.getfield 102, 3) := by decide +kernel
theorem dX4_findsWith_18 : decode cX4_findsWith 18 = .ok (.iconst 3, 1) := by decide +kernel
theorem dX4_findsWith_19 : decode cX4_findsWith 19 = .ok (.iastore, 1) := by decide +kernel
theorem dX4_findsWith_20 : decode cX4_findsWith 20 = .ok (.aload_n 0, 1) := by decide +kernel
theorem dX4_findsWith_21 : decode cX4_findsWith 21 = .ok (.getfield 22, 3) := by decide +kernel
theorem dX4_findsWith_24 : decode cX4_findsWith 24 = .ok (.aload_n 0, 1) := by decide +kernel
theorem dX4_findsWith_25 : decode cX4_findsWith 25 = .ok (.getfield 102, 3) := by decide +kernel
theorem dX4_findsWith_28 : decode cX4_findsWith 28 = .ok (.iload_n 2, 1) := by decide +kernel
theorem dX4_findsWith_29 : decode cX4_findsWith 29 = .ok (.iastore, 1) := by decide +kernel
theorem dX4_findsWith_30 : decode cX4_findsWith 30 = .ok (.aload_n 0, 1) := by decide +kernel
theorem dX4_findsWith_31 : decode cX4_findsWith 31 = .ok (.getfield 25, 3) := by decide +kernel
theorem dX4_findsWith_34 : decode cX4_findsWith 34 = .ok (.aload_n 0, 1) := by decide +kernel
theorem dX4_findsWith_35 : decode cX4_findsWith 35 = .ok (.getfield 102, 3) := by decide +kernel
theorem dX4_findsWith_38 : decode cX4_findsWith 38 = .ok (.iload_n 2, 1) := by decide +kernel
theorem dX4_findsWith_39 : decode cX4_findsWith 39 = .ok (.iload_n 3, 1) := by decide +kernel
theorem dX4_findsWith_40 : decode cX4_findsWith 40 = .ok (.iadd, 1) := by decide +kernel
theorem dX4_findsWith_41 : decode cX4_findsWith 41 = .ok (.sipush 900, 3) := by decide +kernel
theorem dX4_findsWith_44 : decode cX4_findsWith 44 = .ok (.if_icmp .ge 9, 3) := by decide +kernel
theorem dX4_findsWith_47 : decode cX4_findsWith 47 = .ok (.iload_n 2, 1) := by decide +kernel
theorem dX4_findsWith_48 : decode cX4_findsWith 48 = .ok (.iload_n 3, 1) := by decide +kernel
theorem dX4_findsWith_49 : decode cX4_findsWith 49 = .ok (.iadd, 1) := by decide +kernel
theorem dX4_findsWith_50 : decode cX4_findsWith 50 = .ok (.goto 6, 3) := by decide +kernel
theorem dX4_findsWith_53 : decode cX4_findsWith 53 = .ok (.sipush 900, 3) := by decide +kernel
theorem dX4_findsWith_56 : decode cX4_findsWith 56 = .ok (.iastore, 1) := by decide +kernel
theorem dX4_findsWith_57 : decode cX4_findsWith 57 = .ok (.aload_n 0, 1) := by decide +kernel
theorem dX4_findsWith_58 : decode cX4_findsWith 58 = .ok (.getfield 28, 3) := by decide +kernel
theorem dX4_findsWith_61 : decode cX4_findsWith 61 = .ok (.aload_n 0, 1) := by decide +kernel
theorem dX4_findsWith_62 : decode cX4_findsWith 62 = .ok (.getfield 102, 3) := by decide +kernel
theorem dX4_findsWith_65 : decode cX4_findsWith 65 = .ok (.iload 4, 2) := by decide +kernel
theorem dX4_findsWith_67 : decode cX4_findsWith 67 = .ok (.iastore, 1) := by decide +kernel
theorem dX4_findsWith_68 : decode cX4_findsWith 68 = .ok (.aload_n 0, 1) := by decide +kernel
theorem dX4_findsWith_69 : decode cX4_findsWith 69 = .ok (.getfield 31, 3) := by decide +kernel
theorem dX4_findsWith_72 : decode cX4_findsWith 72 = .ok (.aload_n 0, 1) := by decide +kernel
theorem dX4_findsWith_73 : decode cX4_findsWith 73 = .ok (.getfield 102, 3) := by decide +kernel
theorem dX4_findsWith_76 : decode cX4_findsWith 76 = .ok (.iconst 1, 1) := by decide +kernel
theorem dX4_findsWith_77 : decode cX4_findsWith 77 = .ok (.iastore, 1) := by decide +kernel
theorem dX4_findsWith_78 : decode cX4_findsWith 78 = .ok (.aload_n 0, 1) := by decide +kernel
theorem dX4_findsWith_79 : decode cX4_findsWith 79 = .ok (.getfield 34, 3) := by decide +kernel
theorem dX4_findsWith_82 : decode cX4_findsWith 82 = .ok (.aload_n 0, 1) := by decide +kernel
theorem dX4_findsWith_83 : decode cX4_findsWith 83 = .ok (.getfield 102, 3) := by decide +kernel
theorem dX4_findsWith_86 : decode cX4_findsWith 86 = .ok (.iconst 1, 1) := by decide +kernel
theorem dX4_findsWith_87 : decode cX4_findsWith 87 = .ok (.iastore, 1) := by decide +kernel
theorem dX4_findsWith_88 : decode cX4_findsWith 88 = .ok (.aload_n 0, 1) := by decide +kernel
theorem dX4_findsWith_89 : decode cX4_findsWith 89 = .ok (.aload_n 0, 1) := by decide +kernel
theorem dX4_findsWith_90 : decode cX4_findsWith 90 = .ok (.getfield 102, 3) := by decide +kernel
theorem dX4_findsWith_93 : decode cX4_findsWith 93 = .ok (.iconst 1, 1) := by decide +kernel
theorem dX4_findsWith_94 : decode cX4_findsWith 94 = .ok (.iadd, 1) := by decide +kernel
theorem dX4_findsWith_95 : decode cX4_findsWith 95 = .ok (.invokevirtual 163, 3) := by decide +kernel
theorem dX4_findsWith_98 : decode cX4_findsWith 98 = .ok (.return_, 1) := by decide +kernel
theorem hd_X4_findsWith : yX4_findsWith.cls ≠ "java/lang/invoke/MethodHandle" ∧ yX4_findsWith.cls ≠ "java/lang/invoke/VarHandle" ∧ (parseMethodDescriptor yX4_findsWith.desc).map (fun d => d.parameters.length) = some 4 := by decide +kernel
def f_X4_findsWith_J56 (x4 : Int32) (k1 : Int32) (k2 : Int32) (S : vS) : Option vS := if inb k1 21 = true then lt (upk S 6 (upd (S 6) (k1.toNatClampNeg) k2)) fun S9 => if inb (S9 0 2) 21 = true then lt (upk S9 7 (upd (S9 7) ((S9 0 2).toNatClampNeg) x4)) fun S11 => if inb (S11 0 2) 21 = true then lt (upk S11 8 (upd (S11 8) ((S11 0 2).toNatClampNeg) (1 : Int32))) fun S13 => if inb (S13 0 2) 21 = true then lt (upk S13 9 (upd (S13 9) ((S13 0 2).toNatClampNeg) (1 : Int32))) fun S15 => b1 (f_X4_finds ((S15 0 2) + (1 : Int32)) S15) fun S17 => some S17 else none else none else none else none
def f_X4_findsWith (a1 : Int32) (a2 : Int32) (a3 : Int32) (a4 : Int32) (S : vS) : Option vS := if inb (S 0 2) 21 = true then lt (upk S 3 (upd (S 3) ((S 0 2).toNatClampNeg) a1)) fun S2 => if inb (S2 0 2) 21 = true then lt (upk S2 4 (upd (S2 4) ((S2 0 2).toNatClampNeg) (3 : Int32))) fun S4 => if inb (S4 0 2) 21 = true then lt (upk S4 5 (upd (S4 5) ((S4 0 2).toNatClampNeg) a2)) fun S6 => if (900 : Int32) ≤ (a2 + a3) then f_X4_findsWith_J56 a4 (S6 0 2) (900 : Int32) S6 else f_X4_findsWith_J56 a4 (S6 0 2) (a2 + a3) S6 else none else none else none
set_option maxHeartbeats 4000000 in
set_option maxRecDepth 20000 in
theorem c_X4_findsWith (l : Launch) (D : va_G) (cI cO : ClassId) (ad : Nat → Nat) (a1 : Int32) (a2 : Int32) (a3 : Int32) (a4 : Int32) (S : vS) (S9 : vS) (hf : f_X4_findsWith a1 a2 a3 a4 S = some S9) : CV l yX4_findsWith cX4_findsWith 5 ({ frames := 5, cells := 0, slots := 0, locals := 114 }) [.ref (ad 5), .int a1, .int a2, .int a3, .int a4] D cI cO ad S S9 := by
  refine CV.of (r := 0) (by decide +kernel) (Nat.le_of_ble_eq_true rfl) (fun p e s m args below meth c Q ls X hl hw hfin => ?_)
  have hl : lv_has ls 5 [(0, .ref (ad 5)), (1, .int a1), (2, .int a2), (3, .int a3), (4, .int a4)] := hl
  have hx := X.1
  have hb := X.2.1
  have J56 : ∀ (x4 : Int32) (k1 : Int32) (k2 : Int32) (S : vS), f_X4_findsWith_J56 x4 k1 k2 S = some S9 → ∀ (H : Heap) (locs : List Loc) (ls : Array Slot), WD D cI cO ad s S H locs → lv_has ls 5 [(0, .ref (ad 5)), (4, .int x4)] → W p l e ({ frames := 5, cells := 0, slots := 0, locals := 114 }) s m args below meth c H locs 0 0 Q (F0 m 56 ls [.int k2, .int k1, .ref (ar ad 6)]) := by
    intro x4 k1 k2 S hf H locs ls hw hl
    unfold f_X4_findsWith_J56 at hf
    obtain ⟨h8, hf⟩ := if_s hf
    refine x_iast X hw 6 ⟨Nat.le_of_ble_eq_true rfl, Nat.le_of_ble_eq_true rfl⟩ rfl h8 (k1.toNatClampNeg) rfl dX4_findsWith_56 (fun S9 eS9 H locs hw => ?_)
    replace hf := lt_e eS9 hf
    refine lv_aload_n hx hb dX4_findsWith_57 rfl (lv_at hl 0 rfl) ?_
    refine x_get X hw 5 (Nat.le_of_ble_eq_true rfl) ce5 rfl i_X4 6 (by decide) q596 ⟨rfl, rfl, rfl⟩ rfl dX4_findsWith_58 ?_
    refine lv_aload_n hx hb dX4_findsWith_61 rfl (lv_at hl 0 rfl) ?_
    refine x_get X hw 5 (Nat.le_of_ble_eq_true rfl) ce5 rfl i_X4 15 (by decide) q605 ⟨rfl, rfl, rfl⟩ rfl dX4_findsWith_62 ?_
    refine lv_iload hx hb dX4_findsWith_65 (lv_at hl 1 rfl) ?_
    obtain ⟨h10, hf⟩ := if_s hf
    refine x_iast X hw 7 ⟨Nat.le_of_ble_eq_true rfl, Nat.le_of_ble_eq_true rfl⟩ rfl h10 ((S9 0 2).toNatClampNeg) rfl dX4_findsWith_67 (fun S11 eS11 H locs hw => ?_)
    replace hf := lt_e eS11 hf
    refine lv_aload_n hx hb dX4_findsWith_68 rfl (lv_at hl 0 rfl) ?_
    refine x_get X hw 5 (Nat.le_of_ble_eq_true rfl) ce5 rfl i_X4 7 (by decide) q597 ⟨rfl, rfl, rfl⟩ rfl dX4_findsWith_69 ?_
    refine lv_aload_n hx hb dX4_findsWith_72 rfl (lv_at hl 0 rfl) ?_
    refine x_get X hw 5 (Nat.le_of_ble_eq_true rfl) ce5 rfl i_X4 15 (by decide) q605 ⟨rfl, rfl, rfl⟩ rfl dX4_findsWith_73 ?_
    refine lv_iconst (v := 1) hx hb dX4_findsWith_76 (by decide) ?_
    obtain ⟨h12, hf⟩ := if_s hf
    refine x_iast X hw 8 ⟨Nat.le_of_ble_eq_true rfl, Nat.le_of_ble_eq_true rfl⟩ rfl h12 ((S11 0 2).toNatClampNeg) rfl dX4_findsWith_77 (fun S13 eS13 H locs hw => ?_)
    replace hf := lt_e eS13 hf
    refine lv_aload_n hx hb dX4_findsWith_78 rfl (lv_at hl 0 rfl) ?_
    refine x_get X hw 5 (Nat.le_of_ble_eq_true rfl) ce5 rfl i_X4 8 (by decide) q598 ⟨rfl, rfl, rfl⟩ rfl dX4_findsWith_79 ?_
    refine lv_aload_n hx hb dX4_findsWith_82 rfl (lv_at hl 0 rfl) ?_
    refine x_get X hw 5 (Nat.le_of_ble_eq_true rfl) ce5 rfl i_X4 15 (by decide) q605 ⟨rfl, rfl, rfl⟩ rfl dX4_findsWith_83 ?_
    refine lv_iconst (v := 1) hx hb dX4_findsWith_86 (by decide) ?_
    obtain ⟨h14, hf⟩ := if_s hf
    refine x_iast X hw 9 ⟨Nat.le_of_ble_eq_true rfl, Nat.le_of_ble_eq_true rfl⟩ rfl h14 ((S13 0 2).toNatClampNeg) rfl dX4_findsWith_87 (fun S15 eS15 H locs hw => ?_)
    replace hf := lt_e eS15 hf
    refine lv_aload_n hx hb dX4_findsWith_88 rfl (lv_at hl 0 rfl) ?_
    refine lv_aload_n hx hb dX4_findsWith_89 rfl (lv_at hl 0 rfl) ?_
    refine x_get X hw 5 (Nat.le_of_ble_eq_true rfl) ce5 rfl i_X4 15 (by decide) q605 ⟨rfl, rfl, rfl⟩ rfl dX4_findsWith_90 ?_
    refine lv_iconst (v := 1) hx hb dX4_findsWith_93 (by decide) ?_
    refine lv_iadd hx hb dX4_findsWith_94 ?_
    obtain ⟨S17, h16, hf⟩ := b1_s hf
    refine kVv X hw (c_X4_finds l D cI cO ad ((S15 0 2) + (1 : Int32)) S15 S17 h16) (Nat.le_of_ble_eq_true rfl) ce5 rfl ⟨rfl, rfl⟩ q806 q808 q49 q64 q809 hd_X4_finds ⟨Nat.le_of_ble_eq_true rfl, Nat.le_of_ble_eq_true rfl⟩ rfl hl.1 rfl (Nat.le_of_ble_eq_true rfl) dX4_findsWith_95 (fun H locs hw => ?_)
    exact hfin _ _ 0 _ _ _ hw rfl (Option.some.inj hf) dX4_findsWith_98
  unfold f_X4_findsWith at hf
  refine lv_aload_n hx hb dX4_findsWith_0 rfl (lv_at hl 0 rfl) ?_
  refine x_get X hw 5 (Nat.le_of_ble_eq_true rfl) ce5 rfl i_X4 2 (by decide) q592 ⟨rfl, rfl, rfl⟩ rfl dX4_findsWith_1 ?_
  refine lv_aload_n hx hb dX4_findsWith_4 rfl (lv_at hl 0 rfl) ?_
  refine x_get X hw 5 (Nat.le_of_ble_eq_true rfl) ce5 rfl i_X4 15 (by decide) q605 ⟨rfl, rfl, rfl⟩ rfl dX4_findsWith_5 ?_
  refine lv_iload_n hx hb dX4_findsWith_8 rfl (lv_at hl 1 rfl) ?_
  obtain ⟨h1, hf⟩ := if_s hf
  refine x_iast X hw 3 ⟨Nat.le_of_ble_eq_true rfl, Nat.le_of_ble_eq_true rfl⟩ rfl h1 ((S 0 2).toNatClampNeg) rfl dX4_findsWith_9 (fun S2 eS2 H locs hw => ?_)
  replace hf := lt_e eS2 hf
  refine lv_aload_n hx hb dX4_findsWith_10 rfl (lv_at hl 0 rfl) ?_
  refine x_get X hw 5 (Nat.le_of_ble_eq_true rfl) ce5 rfl i_X4 3 (by decide) q593 ⟨rfl, rfl, rfl⟩ rfl dX4_findsWith_11 ?_
  refine lv_aload_n hx hb dX4_findsWith_14 rfl (lv_at hl 0 rfl) ?_
  refine x_get X hw 5 (Nat.le_of_ble_eq_true rfl) ce5 rfl i_X4 15 (by decide) q605 ⟨rfl, rfl, rfl⟩ rfl dX4_findsWith_15 ?_
  refine lv_iconst (v := 3) hx hb dX4_findsWith_18 (by decide) ?_
  obtain ⟨h3, hf⟩ := if_s hf
  refine x_iast X hw 4 ⟨Nat.le_of_ble_eq_true rfl, Nat.le_of_ble_eq_true rfl⟩ rfl h3 ((S2 0 2).toNatClampNeg) rfl dX4_findsWith_19 (fun S4 eS4 H locs hw => ?_)
  replace hf := lt_e eS4 hf
  refine lv_aload_n hx hb dX4_findsWith_20 rfl (lv_at hl 0 rfl) ?_
  refine x_get X hw 5 (Nat.le_of_ble_eq_true rfl) ce5 rfl i_X4 4 (by decide) q594 ⟨rfl, rfl, rfl⟩ rfl dX4_findsWith_21 ?_
  refine lv_aload_n hx hb dX4_findsWith_24 rfl (lv_at hl 0 rfl) ?_
  refine x_get X hw 5 (Nat.le_of_ble_eq_true rfl) ce5 rfl i_X4 15 (by decide) q605 ⟨rfl, rfl, rfl⟩ rfl dX4_findsWith_25 ?_
  refine lv_iload_n hx hb dX4_findsWith_28 rfl (lv_at hl 2 rfl) ?_
  obtain ⟨h5, hf⟩ := if_s hf
  refine x_iast X hw 5 ⟨Nat.le_of_ble_eq_true rfl, Nat.le_of_ble_eq_true rfl⟩ rfl h5 ((S4 0 2).toNatClampNeg) rfl dX4_findsWith_29 (fun S6 eS6 H locs hw => ?_)
  replace hf := lt_e eS6 hf
  refine lv_aload_n hx hb dX4_findsWith_30 rfl (lv_at hl 0 rfl) ?_
  refine x_get X hw 5 (Nat.le_of_ble_eq_true rfl) ce5 rfl i_X4 5 (by decide) q595 ⟨rfl, rfl, rfl⟩ rfl dX4_findsWith_31 ?_
  refine lv_aload_n hx hb dX4_findsWith_34 rfl (lv_at hl 0 rfl) ?_
  refine x_get X hw 5 (Nat.le_of_ble_eq_true rfl) ce5 rfl i_X4 15 (by decide) q605 ⟨rfl, rfl, rfl⟩ rfl dX4_findsWith_35 ?_
  refine lv_iload_n hx hb dX4_findsWith_38 rfl (lv_at hl 2 rfl) ?_
  refine lv_iload_n hx hb dX4_findsWith_39 rfl (lv_at hl 3 rfl) ?_
  refine lv_iadd hx hb dX4_findsWith_40 ?_
  refine lv_sipush (v := 900) hx hb dX4_findsWith_41 (by decide +kernel) ?_
  refine lv_icmp_ge (tgt := 53) hx hb dX4_findsWith_44 (by decide) (fun c7 => ?_) (fun c7 => ?_)
  · replace hf := if_t c7 hf
    refine lv_sipush (v := 900) hx hb dX4_findsWith_53 (by decide +kernel) ?_
    exact J56 a4 (S6 0 2) (900 : Int32) S6 hf _ _ _ hw (lv_sub hl [0, 4] rfl)
  · replace hf := if_f c7 hf
    refine lv_iload_n hx hb dX4_findsWith_47 rfl (lv_at hl 2 rfl) ?_
    refine lv_iload_n hx hb dX4_findsWith_48 rfl (lv_at hl 3 rfl) ?_
    refine lv_iadd hx hb dX4_findsWith_49 ?_
    refine lv_goto (tgt := 56) hx hb dX4_findsWith_50 (by decide) ?_
    exact J56 a4 (S6 0 2) (a2 + a3) S6 hf _ _ _ hw (lv_sub hl [0, 4] rfl)
/-- NineLandsModel.edge(II)I -/
theorem dX4_edge_0 : decode cX4_edge 0 = .ok (.iload_n 1, 1) := by decide +kernel
theorem dX4_edge_1 : decode cX4_edge 1 = .ok (.invokestatic 105, 3) := by decide +kernel
theorem dX4_edge_4 : decode cX4_edge 4 = .ok (.ifCond .ne 9, 3) := by decide +kernel
theorem dX4_edge_7 : decode cX4_edge 7 = .ok (.aload_n 0, 1) := by decide +kernel
theorem dX4_edge_8 : decode cX4_edge 8 = .ok (.iconst (-1), 1) := by decide +kernel
theorem dX4_edge_9 : decode cX4_edge 9 = .ok (.invokevirtual 85, 3) := by decide +kernel
theorem dX4_edge_12 : decode cX4_edge 12 = .ok (.ireturn, 1) := by decide +kernel
theorem dX4_edge_13 : decode cX4_edge 13 = .ok (.iload_n 2, 1) := by decide +kernel
theorem dX4_edge_14 : decode cX4_edge 14 = .ok (.iconst 0, 1) := by decide +kernel
theorem dX4_edge_15 : decode cX4_edge 15 = .ok (.sipush 999, 3) := by decide +kernel
theorem dX4_edge_18 : decode cX4_edge 18 = .ok (.invokestatic 78, 3) := by decide +kernel
theorem dX4_edge_21 : decode cX4_edge 21 = .ok (.istore_n 3, 1) := by decide +kernel
theorem dX4_edge_22 : decode cX4_edge 22 = .ok (.iload_n 3, 1) := by decide +kernel
theorem dX4_edge_23 : decode cX4_edge 23 = .ok (.ifCond .ne 15, 3) := by decide +kernel
theorem dX4_edge_26 : decode cX4_edge 26 = .ok (.aload_n 0, 1) := by decide +kernel
theorem dX4_edge_27 : decode cX4_edge 27 = .ok (.getfield 102, 3) := by decide +kernel
theorem dX4_edge_30 : decode cX4_edge 30 = .ok (.bipush 20, 2) := by decide +kernel
theorem dX4_edge_32 : decode cX4_edge 32 = .ok (.if_icmp .ne 6, 3) := by decide +kernel
theorem dX4_edge_35 : decode cX4_edge 35 = .ok (.bipush (-3), 2) := by decide +kernel
theorem dX4_edge_37 : decode cX4_edge 37 = .ok (.istore_n 3, 1) := by decide +kernel
theorem dX4_edge_38 : decode cX4_edge 38 = .ok (.iload_n 3, 1) := by decide +kernel
theorem dX4_edge_39 : decode cX4_edge 39 = .ok (.ifCond .eq 9, 3) := by decide +kernel
theorem dX4_edge_42 : decode cX4_edge 42 = .ok (.aload_n 0, 1) := by decide +kernel
theorem dX4_edge_43 : decode cX4_edge 43 = .ok (.iload_n 3, 1) := by decide +kernel
theorem dX4_edge_44 : decode cX4_edge 44 = .ok (.invokevirtual 85, 3) := by decide +kernel
theorem dX4_edge_47 : decode cX4_edge 47 = .ok (.ireturn, 1) := by decide +kernel
theorem dX4_edge_48 : decode cX4_edge 48 = .ok (.aload_n 0, 1) := by decide +kernel
theorem dX4_edge_49 : decode cX4_edge 49 = .ok (.aload_n 0, 1) := by decide +kernel
theorem dX4_edge_50 : decode cX4_edge 50 = .ok (.getfield 102, 3) := by decide +kernel
theorem dX4_edge_53 : decode cX4_edge 53 = .ok (.invokevirtual 163, 3) := by decide +kernel
theorem dX4_edge_56 : decode cX4_edge 56 = .ok (.aload_n 0, 1) := by decide +kernel
theorem dX4_edge_57 : decode cX4_edge 57 = .ok (.getfield 68, 3) := by decide +kernel
theorem dX4_edge_60 : decode cX4_edge 60 = .ok (.iload_n 1, 1) := by decide +kernel
theorem dX4_edge_61 : decode cX4_edge 61 = .ok (.iaload, 1) := by decide +kernel
theorem dX4_edge_62 : decode cX4_edge 62 = .ok (.istore 4, 2) := by decide +kernel
theorem dX4_edge_64 : decode cX4_edge 64 = .ok (.aload_n 0, 1) := by decide +kernel
theorem dX4_edge_65 : decode cX4_edge 65 = .ok (.invokevirtual 172, 3) := by decide +kernel
theorem dX4_edge_68 : decode cX4_edge 68 = .ok (.istore 5, 2) := by decide +kernel
theorem dX4_edge_70 : decode cX4_edge 70 = .ok (.iconst 1, 1) := by decide +kernel
theorem dX4_edge_71 : decode cX4_edge 71 = .ok (.istore 6, 2) := by decide +kernel
theorem dX4_edge_73 : decode cX4_edge 73 = .ok (.iload 6, 2) := by decide +kernel
theorem dX4_edge_75 : decode cX4_edge 75 = .ok (.bipush 120, 2) := by decide +kernel
theorem dX4_edge_77 : decode cX4_edge 77 = .ok (.if_icmp .gt 44, 3) := by decide +kernel
theorem dX4_edge_80 : decode cX4_edge 80 = .ok (.iload 5, 2) := by decide +kernel
theorem dX4_edge_82 : decode cX4_edge 82 = .ok (.iload 6, 2) := by decide +kernel
theorem dX4_edge_84 : decode cX4_edge 84 = .ok (.iadd, 1) := by decide +kernel
theorem dX4_edge_85 : decode cX4_edge 85 = .ok (.sipush 900, 3) := by decide +kernel
theorem dX4_edge_88 : decode cX4_edge 88 = .ok (.if_icmp .gt 33, 3) := by decide +kernel
theorem dX4_edge_91 : decode cX4_edge 91 = .ok (.aload_n 0, 1) := by decide +kernel
theorem dX4_edge_92 : decode cX4_edge 92 = .ok (.iload_n 1, 1) := by decide +kernel
theorem dX4_edge_93 : decode cX4_edge 93 = .ok (.iload 5, 2) := by decide +kernel
theorem dX4_edge_95 : decode cX4_edge 95 = .ok (.iload 6, 2) := by decide +kernel
theorem dX4_edge_97 : decode cX4_edge 97 = .ok (.iload_n 2, 1) := by decide +kernel
theorem dX4_edge_98 : decode cX4_edge 98 = .ok (.invokevirtual 175, 3) := by decide +kernel
theorem dX4_edge_101 : decode cX4_edge 101 = .ok (.aload_n 0, 1) := by decide +kernel
theorem dX4_edge_102 : decode cX4_edge 102 = .ok (.getfield 68, 3) := by decide +kernel
theorem dX4_edge_105 : decode cX4_edge 105 = .ok (.iload_n 1, 1) := by decide +kernel
theorem dX4_edge_106 : decode cX4_edge 106 = .ok (.iaload, 1) := by decide +kernel
theorem dX4_edge_107 : decode cX4_edge 107 = .ok (.iload 4, 2) := by decide +kernel
theorem dX4_edge_109 : decode cX4_edge 109 = .ok (.if_icmp .le 6, 3) := by decide +kernel
theorem dX4_edge_112 : decode cX4_edge 112 = .ok (.iload 6, 2) := by decide +kernel
theorem dX4_edge_114 : decode cX4_edge 114 = .ok (.ireturn, 1) := by decide +kernel
theorem dX4_edge_115 : decode cX4_edge 115 = .ok (.iinc 6 1, 3) := by decide +kernel
theorem dX4_edge_118 : decode cX4_edge 118 = .ok (.goto (-45), 3) := by decide +kernel
theorem dX4_edge_121 : decode cX4_edge 121 = .ok (.bipush (-9), 2) := by decide +kernel
theorem dX4_edge_123 : decode cX4_edge 123 = .ok (.ireturn, 1) := by decide +kernel
theorem hd_X4_edge : yX4_edge.cls ≠ "java/lang/invoke/MethodHandle" ∧ yX4_edge.cls ≠ "java/lang/invoke/VarHandle" ∧ (parseMethodDescriptor yX4_edge.desc).map (fun d => d.parameters.length) = some 2 := by decide +kernel
def f_X4_edge_L73 : Nat → Int32 → Int32 → Int32 → Int32 → Int32 → vS → Option (vS ⊕ (Int32 × vS))
  | 0, _, _, _, _, _, _ => none
  | n + 1, x1, x2, x4, x5, x6, S => if (120 : Int32) < x6 then some (.inl S) else if (900 : Int32) < (x5 + x6) then some (.inl S) else b1 (f_X4_findsWith x1 x5 x6 x2 S) fun S17 => if inb x1 6 = true then if (S17 19 (x1.toNatClampNeg)) ≤ x4 then (f_X4_edge_L73 n) x1 x2 x4 x5 (x6 + 1) S17 else some (.inr (x6, S17)) else none
def f_X4_edge_J38 (x1 : Int32) (x2 : Int32) (x3 : Int32) (S : vS) : Option (Int32 × vS) := if x3 = 0 then b1 (f_X4_finds (S 0 2) S) fun S9 => if inb x1 6 = true then lt ((S9 19 (x1.toNatClampNeg))) fun v11 => b1 (f_X4_behind  S9) fun r13 => bS (f_X4_edge_L73 FU x1 x2 v11 r13 (1 : Int32) S9) some fun S20 => some ((-9 : Int32), S20) else none else b2 (f_X4_no x3 S) fun r24 S23 => some (r24, S23)
def f_X4_edge (a1 : Int32) (a2 : Int32) (S : vS) : Option (Int32 × vS) := b1 (f_X4_isLand a1 S) fun r2 => if r2 = 0 then b2 (f_X4_no (-1 : Int32) S) fun r28 S27 => some (r28, S27) else b1 (f_X4_out a2 (0 : Int32) (999 : Int32) S) fun r5 => if r5 = 0 then if (S 0 2) = (20 : Int32) then f_X4_edge_J38 a1 a2 (-3 : Int32) S else f_X4_edge_J38 a1 a2 r5 S else f_X4_edge_J38 a1 a2 r5 S
set_option maxHeartbeats 4000000 in
set_option maxRecDepth 20000 in
theorem c_X4_edge (l : Launch) (D : va_G) (cI cO : ClassId) (ad : Nat → Nat) (a1 : Int32) (a2 : Int32) (S : vS) (R9 : Int32) (S9 : vS) (hf : f_X4_edge a1 a2 S = some (R9, S9)) : CI l yX4_edge cX4_edge 7 .int ({ frames := 6, cells := 0, slots := 0, locals := 138 }) [.ref (ad 5), .int a1, .int a2] D cI cO ad S R9 S9 := by
  refine CI.of (by decide +kernel) (Nat.le_of_ble_eq_true rfl) (fun p e s m args below meth c Q ls X hl hw hfin => ?_)
  have hl : lv_has ls 7 [(0, .ref (ad 5)), (1, .int a1), (2, .int a2)] := hl
  have hx := X.1
  have hb := X.2.1
  have L73 : ∀ (n : Nat) (x1 : Int32) (x2 : Int32) (x4 : Int32) (x5 : Int32) (x6 : Int32) (S : vS) (res : (vS ⊕ (Int32 × vS))), f_X4_edge_L73 n x1 x2 x4 x5 x6 S = some res → (K : ∀  (S2 : vS), some (Sum.inl S2) = some res → ∀ (H : Heap) (locs : List Loc) (ls : Array Slot), WD D cI cO ad s S2 H locs → lv_has ls 7 [] → W p l e ({ frames := 6, cells := 0, slots := 0, locals := 138 }) s m args below meth c H locs 0 0 Q (F0 m 121 ls [])) → (K2 : ∀ q : (Int32 × vS), some (Sum.inr q) = some res → some q = some (R9, S9)) → ∀ (H : Heap) (locs : List Loc) (ls : Array Slot), WD D cI cO ad s S H locs → lv_has ls 7 [(0, .ref (ad 5)), (1, .int x1), (2, .int x2), (4, .int x4), (5, .int x5), (6, .int x6)] → W p l e ({ frames := 6, cells := 0, slots := 0, locals := 138 }) s m args below meth c H locs 0 0 Q (F0 m 73 ls []) := by
    intro n
    induction n with
    | zero => intro x1 x2 x4 x5 x6 S res hf; cases hf
    | succ n ih =>
      intro x1 x2 x4 x5 x6 S res hf K K2 H locs ls hw hl
      unfold f_X4_edge_L73 at hf
      refine lv_iload hx hb dX4_edge_73 (lv_at hl 5 rfl) ?_
      refine lv_bipush (v := 120) hx hb dX4_edge_75 (by decide +kernel) ?_
      refine lv_icmp_gt (tgt := 121) hx hb dX4_edge_77 (by decide) (fun c14 => ?_) (fun c14 => ?_)
      · replace hf := if_t c14 hf
        exact K S hf _ _ _ hw (lv_sub hl [] rfl)
      · replace hf := if_f c14 hf
        refine lv_iload hx hb dX4_edge_80 (lv_at hl 4 rfl) ?_
        refine lv_iload hx hb dX4_edge_82 (lv_at hl 5 rfl) ?_
        refine lv_iadd hx hb dX4_edge_84 ?_
        refine lv_sipush (v := 900) hx hb dX4_edge_85 (by decide +kernel) ?_
        refine lv_icmp_gt (tgt := 121) hx hb dX4_edge_88 (by decide) (fun c15 => ?_) (fun c15 => ?_)
        · replace hf := if_t c15 hf
          exact K S hf _ _ _ hw (lv_sub hl [] rfl)
        · replace hf := if_f c15 hf
          refine lv_aload_n hx hb dX4_edge_91 rfl (lv_at hl 0 rfl) ?_
          refine lv_iload_n hx hb dX4_edge_92 rfl (lv_at hl 1 rfl) ?_
          refine lv_iload hx hb dX4_edge_93 (lv_at hl 4 rfl) ?_
          refine lv_iload hx hb dX4_edge_95 (lv_at hl 5 rfl) ?_
          refine lv_iload_n hx hb dX4_edge_97 rfl (lv_at hl 2 rfl) ?_
          obtain ⟨S17, h16, hf⟩ := b1_s hf
          refine kVv X hw (c_X4_findsWith l D cI cO ad x1 x5 x6 x2 S S17 h16) (Nat.le_of_ble_eq_true rfl) ce5 rfl ⟨rfl, rfl⟩ q854 q856 q54 q64 q857 hd_X4_findsWith ⟨Nat.le_of_ble_eq_true rfl, Nat.le_of_ble_eq_true rfl⟩ rfl hl.1 rfl (Nat.le_of_ble_eq_true rfl) dX4_edge_98 (fun H locs hw => ?_)
          refine lv_aload_n hx hb dX4_edge_101 rfl (lv_at hl 0 rfl) ?_
          refine x_get X hw 5 (Nat.le_of_ble_eq_true rfl) ce5 rfl i_X4 22 (by decide) q612 ⟨rfl, rfl, rfl⟩ rfl dX4_edge_102 ?_
          refine lv_iload_n hx hb dX4_edge_105 rfl (lv_at hl 1 rfl) ?_
          obtain ⟨h18, hf⟩ := if_s hf
          refine x_iald X hw 19 ⟨Nat.le_of_ble_eq_true rfl, Nat.le_of_ble_eq_true rfl⟩ rfl h18 (x1.toNatClampNeg) rfl dX4_edge_106 ?_
          refine lv_iload hx hb dX4_edge_107 (lv_at hl 3 rfl) ?_
          refine lv_icmp_le (tgt := 115) hx hb dX4_edge_109 (by decide) (fun c19 => ?_) (fun c19 => ?_)
          · replace hf := if_t c19 hf
            refine lv_iinc (v := (x6 + 1)) (lv' := [(6, .int (x6 + 1)), (0, .ref (ad 5)), (1, .int x1), (2, .int x2), (4, .int x4), (5, .int x5)]) hx hb dX4_edge_115 hl (k := 5) rfl rfl (by decide) rfl (fun ls hl => ?_)
            refine lv_goto (tgt := 73) hx hb dX4_edge_118 (by decide) ?_
            exact ih x1 x2 x4 x5 (x6 + 1) S17 _ hf K K2 _ _ _ hw (lv_sub hl [1, 2, 3, 4, 5, 0] rfl)
          · replace hf := if_f c19 hf
            refine lv_iload hx hb dX4_edge_112 (lv_at hl 5 rfl) ?_
            replace hf := K2 _ hf
            exact hfin _ _ _ _ _ _ hw (s2a hf) (s2b hf) (narI _) dX4_edge_114
  have J38 : ∀ (x1 : Int32) (x2 : Int32) (x3 : Int32) (S : vS), f_X4_edge_J38 x1 x2 x3 S = some (R9, S9) → ∀ (H : Heap) (locs : List Loc) (ls : Array Slot), WD D cI cO ad s S H locs → lv_has ls 7 [(0, .ref (ad 5)), (1, .int x1), (2, .int x2), (3, .int x3)] → W p l e ({ frames := 6, cells := 0, slots := 0, locals := 138 }) s m args below meth c H locs 0 0 Q (F0 m 38 ls []) := by
    intro x1 x2 x3 S hf H locs ls hw hl
    unfold f_X4_edge_J38 at hf
    refine lv_iload_n hx hb dX4_edge_38 rfl (lv_at hl 3 rfl) ?_
    refine lv_if_eq (tgt := 48) hx hb dX4_edge_39 (by decide) (fun c7 => ?_) (fun c7 => ?_)
    · replace hf := if_t c7 hf
      refine lv_aload_n hx hb dX4_edge_48 rfl (lv_at hl 0 rfl) ?_
      refine lv_aload_n hx hb dX4_edge_49 rfl (lv_at hl 0 rfl) ?_
      refine x_get X hw 5 (Nat.le_of_ble_eq_true rfl) ce5 rfl i_X4 15 (by decide) q605 ⟨rfl, rfl, rfl⟩ rfl dX4_edge_50 ?_
      obtain ⟨S9, h8, hf⟩ := b1_s hf
      refine kVv X hw (c_X4_finds l D cI cO ad (S 0 2) S S9 h8) (Nat.le_of_ble_eq_true rfl) ce5 rfl ⟨rfl, rfl⟩ q806 q808 q49 q64 q809 hd_X4_finds ⟨Nat.le_of_ble_eq_true rfl, Nat.le_of_ble_eq_true rfl⟩ rfl hl.1 rfl (Nat.le_of_ble_eq_true rfl) dX4_edge_53 (fun H locs hw => ?_)
      refine lv_aload_n hx hb dX4_edge_56 rfl (lv_at hl 0 rfl) ?_
      refine x_get X hw 5 (Nat.le_of_ble_eq_true rfl) ce5 rfl i_X4 22 (by decide) q612 ⟨rfl, rfl, rfl⟩ rfl dX4_edge_57 ?_
      refine lv_iload_n hx hb dX4_edge_60 rfl (lv_at hl 1 rfl) ?_
      obtain ⟨h10, hf⟩ := if_s hf
      refine x_iald X hw 19 ⟨Nat.le_of_ble_eq_true rfl, Nat.le_of_ble_eq_true rfl⟩ rfl h10 (x1.toNatClampNeg) rfl dX4_edge_61 ?_
      refine lv_topi (fun v11 ev11 => ?_)
      replace hf := lt_e ev11 hf
      refine lv_istore (lv' := [(4, .int v11), (0, .ref (ad 5)), (1, .int x1), (2, .int x2), (3, .int x3)]) hx hb dX4_edge_62 hl (by decide) rfl (fun ls hl => ?_)
      refine lv_aload_n hx hb dX4_edge_64 rfl (lv_at hl 1 rfl) ?_
      obtain ⟨r13, h12, hf⟩ := b1_s hf
      refine kVi X hw (c_X4_behind l D cI cO ad  S9 r13 h12) (Nat.le_of_ble_eq_true rfl) ce5 rfl ⟨rfl, rfl⟩ q850 q852 q53 q64 q853 hd_X4_behind ⟨Nat.le_of_ble_eq_true rfl, Nat.le_of_ble_eq_true rfl⟩ rfl hl.1 rfl (Nat.le_of_ble_eq_true rfl) dX4_edge_65 (fun H locs hw => ?_)
      refine lv_istore (lv' := [(5, .int r13), (4, .int v11), (0, .ref (ad 5)), (1, .int x1), (2, .int x2), (3, .int x3)]) hx hb dX4_edge_68 hl (by decide) rfl (fun ls hl => ?_)
      refine lv_iconst (v := 1) hx hb dX4_edge_70 (by decide) ?_
      refine lv_istore (lv' := [(6, .int (1 : Int32)), (5, .int r13), (4, .int v11), (0, .ref (ad 5)), (1, .int x1), (2, .int x2), (3, .int x3)]) hx hb dX4_edge_71 hl (by decide) rfl (fun ls hl => ?_)
      obtain ⟨res, h21, hk1, hk2⟩ := bS_x hf
      refine L73 FU x1 x2 v11 r13 (1 : Int32) S9 res h21 (fun S20 eK H locs ls hw hl => ?_) (fun q eK => hk2 q (Option.some.inj eK).symm) _ _ _ hw (lv_sub hl [3, 4, 5, 2, 1, 0] rfl)
      replace hf := hk1 _ (Option.some.inj eK).symm
      refine lv_bipush (v := -9) hx hb dX4_edge_121 (by decide +kernel) ?_
      exact hfin _ _ _ _ _ _ hw (s2a hf) (s2b hf) (narI _) dX4_edge_123
    · replace hf := if_f c7 hf
      refine lv_aload_n hx hb dX4_edge_42 rfl (lv_at hl 0 rfl) ?_
      refine lv_iload_n hx hb dX4_edge_43 rfl (lv_at hl 3 rfl) ?_
      obtain ⟨r24, S23, h22, hf⟩ := b2_s hf
      refine kVi X hw (c_X4_no l D cI cO ad x3 S r24 S23 h22) (Nat.le_of_ble_eq_true rfl) ce5 rfl ⟨rfl, rfl⟩ q688 q690 q34 q64 q691 hd_X4_no ⟨Nat.le_of_ble_eq_true rfl, Nat.le_of_ble_eq_true rfl⟩ rfl hl.1 rfl (Nat.le_of_ble_eq_true rfl) dX4_edge_44 (fun H locs hw => ?_)
      exact hfin _ _ _ _ _ _ hw (s2a hf) (s2b hf) (narI _) dX4_edge_47
  unfold f_X4_edge at hf
  refine lv_iload_n hx hb dX4_edge_0 rfl (lv_at hl 1 rfl) ?_
  obtain ⟨r2, h1, hf⟩ := b1_s hf
  refine kSi X hw (c_X4_isLand l D cI cO ad a1 S r2 h1) ⟨rfl, rfl⟩ q705 q706 q64 q707 hd_X4_isLand ⟨Nat.le_of_ble_eq_true rfl, Nat.le_of_ble_eq_true rfl⟩ rfl hl.1 rfl (Nat.le_of_ble_eq_true rfl) dX4_edge_1 (fun H locs hw => ?_)
  refine lv_if_ne (tgt := 13) hx hb dX4_edge_4 (by decide) (fun c3 => ?_) (fun c3 => ?_)
  · replace hf := if_f c3 hf
    refine lv_iload_n hx hb dX4_edge_13 rfl (lv_at hl 2 rfl) ?_
    refine lv_iconst (v := 0) hx hb dX4_edge_14 (by decide) ?_
    refine lv_sipush (v := 999) hx hb dX4_edge_15 (by decide +kernel) ?_
    obtain ⟨r5, h4, hf⟩ := b1_s hf
    refine kSi X hw (c_X4_out l D cI cO ad a2 (0 : Int32) (999 : Int32) S r5 h4) ⟨rfl, rfl⟩ q685 q686 q64 q687 hd_X4_out ⟨Nat.le_of_ble_eq_true rfl, Nat.le_of_ble_eq_true rfl⟩ rfl hl.1 rfl (Nat.le_of_ble_eq_true rfl) dX4_edge_18 (fun H locs hw => ?_)
    refine lv_istore_n (lv' := [(3, .int r5), (0, .ref (ad 5)), (1, .int a1), (2, .int a2)]) hx hb dX4_edge_21 rfl hl (by decide) rfl (fun ls hl => ?_)
    refine lv_iload_n hx hb dX4_edge_22 rfl (lv_at hl 0 rfl) ?_
    refine lv_if_ne (tgt := 38) hx hb dX4_edge_23 (by decide) (fun c6 => ?_) (fun c6 => ?_)
    · replace hf := if_f c6 hf
      exact J38 a1 a2 r5 S hf _ _ _ hw (lv_sub hl [1, 2, 3, 0] rfl)
    · replace hf := if_t c6 hf
      refine lv_aload_n hx hb dX4_edge_26 rfl (lv_at hl 1 rfl) ?_
      refine x_get X hw 5 (Nat.le_of_ble_eq_true rfl) ce5 rfl i_X4 15 (by decide) q605 ⟨rfl, rfl, rfl⟩ rfl dX4_edge_27 ?_
      refine lv_bipush (v := 20) hx hb dX4_edge_30 (by decide +kernel) ?_
      refine lv_icmp_ne (tgt := 38) hx hb dX4_edge_32 (by decide) (fun c25 => ?_) (fun c25 => ?_)
      · replace hf := if_f c25 hf
        exact J38 a1 a2 r5 S hf _ _ _ hw (lv_sub hl [1, 2, 3, 0] rfl)
      · replace hf := if_t c25 hf
        refine lv_bipush (v := -3) hx hb dX4_edge_35 (by decide +kernel) ?_
        refine lv_istore_n (lv' := [(3, .int (-3 : Int32)), (0, .ref (ad 5)), (1, .int a1), (2, .int a2)]) hx hb dX4_edge_37 rfl hl (by decide) rfl (fun ls hl => ?_)
        exact J38 a1 a2 (-3 : Int32) S hf _ _ _ hw (lv_sub hl [1, 2, 3, 0] rfl)
  · replace hf := if_t c3 hf
    refine lv_aload_n hx hb dX4_edge_7 rfl (lv_at hl 0 rfl) ?_
    refine lv_iconst (v := -1) hx hb dX4_edge_8 (by decide) ?_
    obtain ⟨r28, S27, h26, hf⟩ := b2_s hf
    refine kVi X hw (c_X4_no l D cI cO ad (-1 : Int32) S r28 S27 h26) (Nat.le_of_ble_eq_true rfl) ce5 rfl ⟨rfl, rfl⟩ q688 q690 q34 q64 q691 hd_X4_no ⟨Nat.le_of_ble_eq_true rfl, Nat.le_of_ble_eq_true rfl⟩ rfl hl.1 rfl (Nat.le_of_ble_eq_true rfl) dX4_edge_9 (fun H locs hw => ?_)
    exact hfin _ _ _ _ _ _ hw (s2a hf) (s2b hf) (narI _) dX4_edge_12
/-- NineLandsModel.hangs()I -/
theorem dX4_hangs_0 : decode cX4_hangs 0 = .ok (.aload_n 0, 1) := by decide +kernel
theorem dX4_hangs_1 : decode cX4_hangs 1 = .ok (.aload_n 0, 1) := by decide +kernel
theorem dX4_hangs_2 : decode cX4_hangs 2 = .ok (.getfield 102, 3) := by decide +kernel
theorem dX4_hangs_5 : decode cX4_hangs 5 = .ok (.invokevirtual 163, 3) := by decide +kernel
theorem dX4_hangs_8 : decode cX4_hangs 8 = .ok (.aload_n 0, 1) := by decide +kernel
theorem dX4_hangs_9 : decode cX4_hangs 9 = .ok (.aload_n 0, 1) := by decide +kernel
theorem dX4_hangs_10 : decode cX4_hangs 10 = .ok (.getfield 68, 3) := by decide +kernel
theorem dX4_hangs_13 : decode cX4_hangs 13 = .ok (.invokevirtual 156, 3) := by decide +kernel
theorem dX4_hangs_16 : decode cX4_hangs 16 = .ok (.istore_n 1, 1) := by decide +kernel
theorem dX4_hangs_17 : decode cX4_hangs 17 = .ok (.bipush (-9), 2) := by decide +kernel
theorem dX4_hangs_19 : decode cX4_hangs 19 = .ok (.istore_n 2, 1) := by decide +kernel
theorem dX4_hangs_20 : decode cX4_hangs 20 = .ok (.iconst 0, 1) := by decide +kernel
theorem dX4_hangs_21 : decode cX4_hangs 21 = .ok (.istore_n 3, 1) := by decide +kernel
theorem dX4_hangs_22 : decode cX4_hangs 22 = .ok (.iload_n 3, 1) := by decide +kernel
theorem dX4_hangs_23 : decode cX4_hangs 23 = .ok (.aload_n 0, 1) := by decide +kernel
theorem dX4_hangs_24 : decode cX4_hangs 24 = .ok (.getfield 102, 3) := by decide +kernel
theorem dX4_hangs_27 : decode cX4_hangs 27 = .ok (.if_icmp .ge 48, 3) := by decide +kernel
theorem dX4_hangs_30 : decode cX4_hangs 30 = .ok (.aload_n 0, 1) := by decide +kernel
theorem dX4_hangs_31 : decode cX4_hangs 31 = .ok (.iload_n 3, 1) := by decide +kernel
theorem dX4_hangs_32 : decode cX4_hangs 32 = .ok (.putfield 49, 3) := by decide +kernel
theorem dX4_hangs_35 : decode cX4_hangs 35 = .ok (.aload_n 0, 1) := by decide +kernel
theorem dX4_hangs_36 : decode cX4_hangs 36 = .ok (.aload_n 0, 1) := by decide +kernel
theorem dX4_hangs_37 : decode cX4_hangs 37 = .ok (.getfield 102, 3) := by decide +kernel
theorem dX4_hangs_40 : decode cX4_hangs 40 = .ok (.invokevirtual 163, 3) := by decide +kernel
theorem dX4_hangs_43 : decode cX4_hangs 43 = .ok (.aload_n 0, 1) := by decide +kernel
theorem dX4_hangs_44 : decode cX4_hangs 44 = .ok (.aload_n 0, 1) := by decide +kernel
theorem dX4_hangs_45 : decode cX4_hangs 45 = .ok (.getfield 68, 3) := by decide +kernel
theorem dX4_hangs_48 : decode cX4_hangs 48 = .ok (.invokevirtual 156, 3) := by decide +kernel
theorem dX4_hangs_51 : decode cX4_hangs 51 = .ok (.iload_n 1, 1) := by decide +kernel
theorem dX4_hangs_52 : decode cX4_hangs 52 = .ok (.if_icmp .lt 6, 3) := by decide +kernel
theorem dX4_hangs_55 : decode cX4_hangs 55 = .ok (.goto 14, 3) := by decide +kernel
theorem dX4_hangs_58 : decode cX4_hangs 58 = .ok (.aload_n 0, 1) := by decide +kernel
theorem dX4_hangs_59 : decode cX4_hangs 59 = .ok (.aload_n 0, 1) := by decide +kernel
theorem dX4_hangs_60 : decode cX4_hangs 60 = .ok (.getfield 68, 3) := by decide +kernel
theorem dX4_hangs_63 : decode cX4_hangs 63 = .ok (.invokevirtual 156, 3) := by decide +kernel
theorem dX4_hangs_66 : decode cX4_hangs 66 = .ok (.istore_n 1, 1) := by decide +kernel
theorem dX4_hangs_67 : decode cX4_hangs 67 = .ok (.iload_n 3, 1) := by decide +kernel
theorem dX4_hangs_68 : decode cX4_hangs 68 = .ok (.istore_n 2, 1) := by decide +kernel
theorem dX4_hangs_69 : decode cX4_hangs 69 = .ok (.iinc 3 1, 3) := by decide +kernel
theorem dX4_hangs_72 : decode cX4_hangs 72 = .ok (.goto (-50), 3) := by decide +kernel
theorem dX4_hangs_75 : decode cX4_hangs 75 = .ok (.aload_n 0, 1) := by decide +kernel
theorem dX4_hangs_76 : decode cX4_hangs 76 = .ok (.iconst (-1), 1) := by decide +kernel
theorem dX4_hangs_77 : decode cX4_hangs 77 = .ok (.putfield 49, 3) := by decide +kernel
theorem dX4_hangs_80 : decode cX4_hangs 80 = .ok (.iload_n 2, 1) := by decide +kernel
theorem dX4_hangs_81 : decode cX4_hangs 81 = .ok (.ireturn, 1) := by decide +kernel
theorem hd_X4_hangs : yX4_hangs.cls ≠ "java/lang/invoke/MethodHandle" ∧ yX4_hangs.cls ≠ "java/lang/invoke/VarHandle" ∧ (parseMethodDescriptor yX4_hangs.desc).map (fun d => d.parameters.length) = some 0 := by decide +kernel
def f_X4_hangs_L22 : Nat → Int32 → Int32 → Int32 → vS → Option (Int32 × vS)
  | 0, _, _, _, _ => none
  | n + 1, x1, x2, x3, S => if (S 0 2) ≤ x3 then some (x2, S) else lt (upk S 0 (upd (S 0) 3 x3)) fun S6 => b1 (f_X4_finds (S6 0 2) S6) fun S8 => b1 (f_X4_sumOf 19 S8) fun r10 => if r10 < x1 then b1 (f_X4_sumOf 19 S8) fun r13 => (f_X4_hangs_L22 n) r13 x3 (x3 + 1) S8 else (f_X4_hangs_L22 n) x1 x2 (x3 + 1) S8
def f_X4_hangs  (S : vS) : Option (Int32 × vS) := b1 (f_X4_finds (S 0 2) S) fun S2 => b1 (f_X4_sumOf 19 S2) fun r4 => b2 (f_X4_hangs_L22 FU r4 (-9 : Int32) (0 : Int32) S2) fun y14 S15 => lt (upk S15 0 (upd (S15 0) 3 (-1 : Int32))) fun S16 => some (y14, S16)
set_option maxHeartbeats 4000000 in
set_option maxRecDepth 20000 in
theorem c_X4_hangs (l : Launch) (D : va_G) (cI cO : ClassId) (ad : Nat → Nat)  (S : vS) (R9 : Int32) (S9 : vS) (hf : f_X4_hangs  S = some (R9, S9)) : CI l yX4_hangs cX4_hangs 4 .int ({ frames := 5, cells := 0, slots := 0, locals := 114 }) [.ref (ad 5)] D cI cO ad S R9 S9 := by
  refine CI.of (by decide +kernel) (Nat.le_of_ble_eq_true rfl) (fun p e s m args below meth c Q ls X hl hw hfin => ?_)
  have hl : lv_has ls 4 [(0, .ref (ad 5))] := hl
  have hx := X.1
  have hb := X.2.1
  have L22 : ∀ (n : Nat) (x1 : Int32) (x2 : Int32) (x3 : Int32) (S : vS) (res : (Int32 × vS)), f_X4_hangs_L22 n x1 x2 x3 S = some res → (K : ∀ (y2 : Int32) (S2 : vS), some (y2, S2) = some res → ∀ (H : Heap) (locs : List Loc) (ls : Array Slot), WD D cI cO ad s S2 H locs → lv_has ls 4 [(0, .ref (ad 5)), (2, .int y2)] → W p l e ({ frames := 5, cells := 0, slots := 0, locals := 114 }) s m args below meth c H locs 0 0 Q (F0 m 75 ls [])) → ∀ (H : Heap) (locs : List Loc) (ls : Array Slot), WD D cI cO ad s S H locs → lv_has ls 4 [(0, .ref (ad 5)), (1, .int x1), (2, .int x2), (3, .int x3)] → W p l e ({ frames := 5, cells := 0, slots := 0, locals := 114 }) s m args below meth c H locs 0 0 Q (F0 m 22 ls []) := by
    intro n
    induction n with
    | zero => intro x1 x2 x3 S res hf; cases hf
    | succ n ih =>
      intro x1 x2 x3 S res hf K H locs ls hw hl
      unfold f_X4_hangs_L22 at hf
      refine lv_iload_n hx hb dX4_hangs_22 rfl (lv_at hl 3 rfl) ?_
      refine lv_aload_n hx hb dX4_hangs_23 rfl (lv_at hl 0 rfl) ?_
      refine x_get X hw 5 (Nat.le_of_ble_eq_true rfl) ce5 rfl i_X4 15 (by decide) q605 ⟨rfl, rfl, rfl⟩ rfl dX4_hangs_24 ?_
      refine lv_icmp_ge (tgt := 75) hx hb dX4_hangs_27 (by decide) (fun c5 => ?_) (fun c5 => ?_)
      · replace hf := if_t c5 hf
        exact K x2 S hf _ _ _ hw (lv_sub hl [0, 2] rfl)
      · replace hf := if_f c5 hf
        refine lv_aload_n hx hb dX4_hangs_30 rfl (lv_at hl 0 rfl) ?_
        refine lv_iload_n hx hb dX4_hangs_31 rfl (lv_at hl 3 rfl) ?_
        refine x_put X hw 5 (Nat.le_of_ble_eq_true rfl) ce5 rfl i_X4 tyX4_ok nmX4 16 (by decide) q606 ⟨rfl, rfl, rfl⟩ rfl pfI rfl rfl (Nat.le_of_ble_eq_true rfl) 3 (ws_3 _) dX4_hangs_32 (fun S6 eS6 H locs hw => ?_)
        replace hf := lt_e eS6 hf
        refine lv_aload_n hx hb dX4_hangs_35 rfl (lv_at hl 0 rfl) ?_
        refine lv_aload_n hx hb dX4_hangs_36 rfl (lv_at hl 0 rfl) ?_
        refine x_get X hw 5 (Nat.le_of_ble_eq_true rfl) ce5 rfl i_X4 15 (by decide) q605 ⟨rfl, rfl, rfl⟩ rfl dX4_hangs_37 ?_
        obtain ⟨S8, h7, hf⟩ := b1_s hf
        refine kVv X hw (c_X4_finds l D cI cO ad (S6 0 2) S6 S8 h7) (Nat.le_of_ble_eq_true rfl) ce5 rfl ⟨rfl, rfl⟩ q806 q808 q49 q64 q809 hd_X4_finds ⟨Nat.le_of_ble_eq_true rfl, Nat.le_of_ble_eq_true rfl⟩ rfl hl.1 rfl (Nat.le_of_ble_eq_true rfl) dX4_hangs_40 (fun H locs hw => ?_)
        refine lv_aload_n hx hb dX4_hangs_43 rfl (lv_at hl 0 rfl) ?_
        refine lv_aload_n hx hb dX4_hangs_44 rfl (lv_at hl 0 rfl) ?_
        refine x_get X hw 5 (Nat.le_of_ble_eq_true rfl) ce5 rfl i_X4 22 (by decide) q612 ⟨rfl, rfl, rfl⟩ rfl dX4_hangs_45 ?_
        obtain ⟨r10, h9, hf⟩ := b1_s hf
        refine kVi X hw (c_X4_sumOf l D cI cO ad 19 S8 r10 h9) (Nat.le_of_ble_eq_true rfl) ce5 rfl ⟨rfl, rfl⟩ q810 q812 q50 q64 q813 hd_X4_sumOf ⟨Nat.le_of_ble_eq_true rfl, Nat.le_of_ble_eq_true rfl⟩ rfl hl.1 rfl (Nat.le_of_ble_eq_true rfl) dX4_hangs_48 (fun H locs hw => ?_)
        refine lv_iload_n hx hb dX4_hangs_51 rfl (lv_at hl 1 rfl) ?_
        refine lv_icmp_lt (tgt := 58) hx hb dX4_hangs_52 (by decide) (fun c11 => ?_) (fun c11 => ?_)
        · replace hf := if_t c11 hf
          refine lv_aload_n hx hb dX4_hangs_58 rfl (lv_at hl 0 rfl) ?_
          refine lv_aload_n hx hb dX4_hangs_59 rfl (lv_at hl 0 rfl) ?_
          refine x_get X hw 5 (Nat.le_of_ble_eq_true rfl) ce5 rfl i_X4 22 (by decide) q612 ⟨rfl, rfl, rfl⟩ rfl dX4_hangs_60 ?_
          obtain ⟨r13, h12, hf⟩ := b1_s hf
          refine kVi X hw (c_X4_sumOf l D cI cO ad 19 S8 r13 h12) (Nat.le_of_ble_eq_true rfl) ce5 rfl ⟨rfl, rfl⟩ q810 q812 q50 q64 q813 hd_X4_sumOf ⟨Nat.le_of_ble_eq_true rfl, Nat.le_of_ble_eq_true rfl⟩ rfl hl.1 rfl (Nat.le_of_ble_eq_true rfl) dX4_hangs_63 (fun H locs hw => ?_)
          refine lv_istore_n (lv' := [(1, .int r13), (0, .ref (ad 5)), (2, .int x2), (3, .int x3)]) hx hb dX4_hangs_66 rfl hl (by decide) rfl (fun ls hl => ?_)
          refine lv_iload_n hx hb dX4_hangs_67 rfl (lv_at hl 3 rfl) ?_
          refine lv_istore_n (lv' := [(2, .int x3), (1, .int r13), (0, .ref (ad 5)), (3, .int x3)]) hx hb dX4_hangs_68 rfl hl (by decide) rfl (fun ls hl => ?_)
          refine lv_iinc (v := (x3 + 1)) (lv' := [(3, .int (x3 + 1)), (2, .int x3), (1, .int r13), (0, .ref (ad 5))]) hx hb dX4_hangs_69 hl (k := 3) rfl rfl (by decide) rfl (fun ls hl => ?_)
          refine lv_goto (tgt := 22) hx hb dX4_hangs_72 (by decide) ?_
          exact ih r13 x3 (x3 + 1) S8 _ hf K _ _ _ hw (lv_sub hl [3, 2, 1, 0] rfl)
        · replace hf := if_f c11 hf
          refine lv_goto (tgt := 69) hx hb dX4_hangs_55 (by decide) ?_
          refine lv_iinc (v := (x3 + 1)) (lv' := [(3, .int (x3 + 1)), (0, .ref (ad 5)), (1, .int x1), (2, .int x2)]) hx hb dX4_hangs_69 hl (k := 3) rfl rfl (by decide) rfl (fun ls hl => ?_)
          refine lv_goto (tgt := 22) hx hb dX4_hangs_72 (by decide) ?_
          exact ih x1 x2 (x3 + 1) S8 _ hf K _ _ _ hw (lv_sub hl [1, 2, 3, 0] rfl)
  unfold f_X4_hangs at hf
  refine lv_aload_n hx hb dX4_hangs_0 rfl (lv_at hl 0 rfl) ?_
  refine lv_aload_n hx hb dX4_hangs_1 rfl (lv_at hl 0 rfl) ?_
  refine x_get X hw 5 (Nat.le_of_ble_eq_true rfl) ce5 rfl i_X4 15 (by decide) q605 ⟨rfl, rfl, rfl⟩ rfl dX4_hangs_2 ?_
  obtain ⟨S2, h1, hf⟩ := b1_s hf
  refine kVv X hw (c_X4_finds l D cI cO ad (S 0 2) S S2 h1) (Nat.le_of_ble_eq_true rfl) ce5 rfl ⟨rfl, rfl⟩ q806 q808 q49 q64 q809 hd_X4_finds ⟨Nat.le_of_ble_eq_true rfl, Nat.le_of_ble_eq_true rfl⟩ rfl hl.1 rfl (Nat.le_of_ble_eq_true rfl) dX4_hangs_5 (fun H locs hw => ?_)
  refine lv_aload_n hx hb dX4_hangs_8 rfl (lv_at hl 0 rfl) ?_
  refine lv_aload_n hx hb dX4_hangs_9 rfl (lv_at hl 0 rfl) ?_
  refine x_get X hw 5 (Nat.le_of_ble_eq_true rfl) ce5 rfl i_X4 22 (by decide) q612 ⟨rfl, rfl, rfl⟩ rfl dX4_hangs_10 ?_
  obtain ⟨r4, h3, hf⟩ := b1_s hf
  refine kVi X hw (c_X4_sumOf l D cI cO ad 19 S2 r4 h3) (Nat.le_of_ble_eq_true rfl) ce5 rfl ⟨rfl, rfl⟩ q810 q812 q50 q64 q813 hd_X4_sumOf ⟨Nat.le_of_ble_eq_true rfl, Nat.le_of_ble_eq_true rfl⟩ rfl hl.1 rfl (Nat.le_of_ble_eq_true rfl) dX4_hangs_13 (fun H locs hw => ?_)
  refine lv_istore_n (lv' := [(1, .int r4), (0, .ref (ad 5))]) hx hb dX4_hangs_16 rfl hl (by decide) rfl (fun ls hl => ?_)
  refine lv_bipush (v := -9) hx hb dX4_hangs_17 (by decide +kernel) ?_
  refine lv_istore_n (lv' := [(2, .int (-9 : Int32)), (1, .int r4), (0, .ref (ad 5))]) hx hb dX4_hangs_19 rfl hl (by decide) rfl (fun ls hl => ?_)
  refine lv_iconst (v := 0) hx hb dX4_hangs_20 (by decide) ?_
  refine lv_istore_n (lv' := [(3, .int (0 : Int32)), (2, .int (-9 : Int32)), (1, .int r4), (0, .ref (ad 5))]) hx hb dX4_hangs_21 rfl hl (by decide) rfl (fun ls hl => ?_)
  obtain ⟨y14, S15, h17, hf⟩ := b2_s hf
  refine L22 FU r4 (-9 : Int32) (0 : Int32) S2 _ h17 (fun y14' S15' eK H locs ls hw hl => ?_) _ _ _ hw (lv_sub hl [3, 2, 1, 0] rfl)
  cases eK
  refine lv_aload_n hx hb dX4_hangs_75 rfl (lv_at hl 0 rfl) ?_
  refine lv_iconst (v := -1) hx hb dX4_hangs_76 (by decide) ?_
  refine x_put X hw 5 (Nat.le_of_ble_eq_true rfl) ce5 rfl i_X4 tyX4_ok nmX4 16 (by decide) q606 ⟨rfl, rfl, rfl⟩ rfl pfI rfl rfl (Nat.le_of_ble_eq_true rfl) 3 (ws_3 _) dX4_hangs_77 (fun S16 eS16 H locs hw => ?_)
  replace hf := lt_e eS16 hf
  refine lv_iload_n hx hb dX4_hangs_80 rfl (lv_at hl 1 rfl) ?_
  exact hfin _ _ _ _ _ _ hw (s2a hf) (s2b hf) (narI _) dX4_hangs_81
/-- NineLandsModel.year(II)I -/
theorem dX4_year_0 : decode cX4_year 0 = .ok (.iload_n 2, 1) := by decide +kernel
theorem dX4_year_1 : decode cX4_year 1 = .ok (.iconst 0, 1) := by decide +kernel
theorem dX4_year_2 : decode cX4_year 2 = .ok (.iconst 1, 1) := by decide +kernel
theorem dX4_year_3 : decode cX4_year 3 = .ok (.invokestatic 98, 3) := by decide +kernel
theorem dX4_year_6 : decode cX4_year 6 = .ok (.ifCond .ne 10, 3) := by decide +kernel
theorem dX4_year_9 : decode cX4_year 9 = .ok (.aload_n 0, 1) := by decide +kernel
theorem dX4_year_10 : decode cX4_year 10 = .ok (.bipush (-2), 2) := by decide +kernel
theorem dX4_year_12 : decode cX4_year 12 = .ok (.invokevirtual 179, 3) := by decide +kernel
theorem dX4_year_15 : decode cX4_year 15 = .ok (.ireturn, 1) := by decide +kernel
theorem dX4_year_16 : decode cX4_year 16 = .ok (.iload_n 1, 1) := by decide +kernel
theorem dX4_year_17 : decode cX4_year 17 = .ok (.iconst 0, 1) := by decide +kernel
theorem dX4_year_18 : decode cX4_year 18 = .ok (.sipush 999, 3) := by decide +kernel
theorem dX4_year_21 : decode cX4_year 21 = .ok (.invokestatic 78, 3) := by decide +kernel
theorem dX4_year_24 : decode cX4_year 24 = .ok (.istore_n 3, 1) := by decide +kernel
theorem dX4_year_25 : decode cX4_year 25 = .ok (.aload_n 0, 1) := by decide +kernel
theorem dX4_year_26 : decode cX4_year 26 = .ok (.invokevirtual 172, 3) := by decide +kernel
theorem dX4_year_29 : decode cX4_year 29 = .ok (.istore 4, 2) := by decide +kernel
theorem dX4_year_31 : decode cX4_year 31 = .ok (.iload_n 3, 1) := by decide +kernel
theorem dX4_year_32 : decode cX4_year 32 = .ok (.ifCond .ne 23, 3) := by decide +kernel
theorem dX4_year_35 : decode cX4_year 35 = .ok (.aload_n 0, 1) := by decide +kernel
theorem dX4_year_36 : decode cX4_year 36 = .ok (.getfield 102, 3) := by decide +kernel
theorem dX4_year_39 : decode cX4_year 39 = .ok (.bipush 20, 2) := by decide +kernel
theorem dX4_year_41 : decode cX4_year 41 = .ok (.if_icmp .eq 11, 3) := by decide +kernel
theorem dX4_year_44 : decode cX4_year 44 = .ok (.iload 4, 2) := by decide +kernel
theorem dX4_year_46 : decode cX4_year 46 = .ok (.sipush 900, 3) := by decide +kernel
theorem dX4_year_49 : decode cX4_year 49 = .ok (.if_icmp .ne 6, 3) := by decide +kernel
theorem dX4_year_52 : decode cX4_year 52 = .ok (.bipush (-3), 2) := by decide +kernel
theorem dX4_year_54 : decode cX4_year 54 = .ok (.istore_n 3, 1) := by decide +kernel
theorem dX4_year_55 : decode cX4_year 55 = .ok (.iload_n 3, 1) := by decide +kernel
theorem dX4_year_56 : decode cX4_year 56 = .ok (.ifCond .eq 9, 3) := by decide +kernel
theorem dX4_year_59 : decode cX4_year 59 = .ok (.aload_n 0, 1) := by decide +kernel
theorem dX4_year_60 : decode cX4_year 60 = .ok (.iload_n 3, 1) := by decide +kernel
theorem dX4_year_61 : decode cX4_year 61 = .ok (.invokevirtual 179, 3) := by decide +kernel
theorem dX4_year_64 : decode cX4_year 64 = .ok (.ireturn, 1) := by decide +kernel
theorem dX4_year_65 : decode cX4_year 65 = .ok (.aload_n 0, 1) := by decide +kernel
theorem dX4_year_66 : decode cX4_year 66 = .ok (.aload_n 0, 1) := by decide +kernel
theorem dX4_year_67 : decode cX4_year 67 = .ok (.getfield 102, 3) := by decide +kernel
theorem dX4_year_70 : decode cX4_year 70 = .ok (.invokevirtual 163, 3) := by decide +kernel
theorem dX4_year_73 : decode cX4_year 73 = .ok (.aload_n 0, 1) := by decide +kernel
theorem dX4_year_74 : decode cX4_year 74 = .ok (.aload_n 0, 1) := by decide +kernel
theorem dX4_year_75 : decode cX4_year 75 = .ok (.getfield 68, 3) := by decide +kernel
theorem dX4_year_78 : decode cX4_year 78 = .ok (.invokevirtual 156, 3) := by decide +kernel
theorem dX4_year_81 : decode cX4_year 81 = .ok (.istore 5, 2) := by decide +kernel
theorem dX4_year_83 : decode cX4_year 83 = .ok (.iconst (-1), 1) := by decide +kernel
theorem dX4_year_84 : decode cX4_year 84 = .ok (.istore 6, 2) := by decide +kernel
theorem dX4_year_86 : decode cX4_year 86 = .ok (.iconst 0, 1) := by decide +kernel
theorem dX4_year_87 : decode cX4_year 87 = .ok (.istore 7, 2) := by decide +kernel
theorem dX4_year_89 : decode cX4_year 89 = .ok (.iconst 0, 1) := by decide +kernel
theorem dX4_year_90 : decode cX4_year 90 = .ok (.istore 8, 2) := by decide +kernel
theorem dX4_year_92 : decode cX4_year 92 = .ok (.iload 8, 2) := by decide +kernel
theorem dX4_year_94 : decode cX4_year 94 = .ok (.bipush 6, 2) := by decide +kernel
theorem dX4_year_96 : decode cX4_year 96 = .ok (.if_icmp .ge 55, 3) := by decide +kernel
theorem dX4_year_99 : decode cX4_year 99 = .ok (.aload_n 0, 1) := by decide +kernel
theorem dX4_year_100 : decode cX4_year 100 = .ok (.iload 8, 2) := by decide +kernel
theorem dX4_year_102 : decode cX4_year 102 = .ok (.iload 4, 2) := by decide +kernel
theorem dX4_year_104 : decode cX4_year 104 = .ok (.bipush 12, 2) := by decide +kernel
theorem dX4_year_106 : decode cX4_year 106 = .ok (.iload_n 1, 1) := by decide +kernel
theorem dX4_year_107 : decode cX4_year 107 = .ok (.invokevirtual 175, 3) := by decide +kernel
theorem dX4_year_110 : decode cX4_year 110 = .ok (.iload 6, 2) := by decide +kernel
theorem dX4_year_112 : decode cX4_year 112 = .ok (.ifCond .lt 19, 3) := by decide +kernel
theorem dX4_year_115 : decode cX4_year 115 = .ok (.aload_n 0, 1) := by decide +kernel
theorem dX4_year_116 : decode cX4_year 116 = .ok (.aload_n 0, 1) := by decide +kernel
theorem dX4_year_117 : decode cX4_year 117 = .ok (.getfield 68, 3) := by decide +kernel
theorem dX4_year_120 : decode cX4_year 120 = .ok (.invokevirtual 156, 3) := by decide +kernel
theorem dX4_year_123 : decode cX4_year 123 = .ok (.iload 7, 2) := by decide +kernel
theorem dX4_year_125 : decode cX4_year 125 = .ok (.if_icmp .gt 6, 3) := by decide +kernel
theorem dX4_year_128 : decode cX4_year 128 = .ok (.goto 17, 3) := by decide +kernel
theorem dX4_year_131 : decode cX4_year 131 = .ok (.iload 8, 2) := by decide +kernel
theorem dX4_year_133 : decode cX4_year 133 = .ok (.istore 6, 2) := by decide +kernel
theorem dX4_year_135 : decode cX4_year 135 = .ok (.aload_n 0, 1) := by decide +kernel
theorem dX4_year_136 : decode cX4_year 136 = .ok (.aload_n 0, 1) := by decide +kernel
theorem dX4_year_137 : decode cX4_year 137 = .ok (.getfield 68, 3) := by decide +kernel
theorem dX4_year_140 : decode cX4_year 140 = .ok (.invokevirtual 156, 3) := by decide +kernel
theorem dX4_year_143 : decode cX4_year 143 = .ok (.istore 7, 2) := by decide +kernel
theorem dX4_year_145 : decode cX4_year 145 = .ok (.iinc 8 1, 3) := by decide +kernel
theorem dX4_year_148 : decode cX4_year 148 = .ok (.goto (-56), 3) := by decide +kernel
theorem dX4_year_151 : decode cX4_year 151 = .ok (.iload_n 2, 1) := by decide +kernel
theorem dX4_year_152 : decode cX4_year 152 = .ok (.ifCond .ne 8, 3) := by decide +kernel
theorem dX4_year_155 : decode cX4_year 155 = .ok (.iload 6, 2) := by decide +kernel
theorem dX4_year_157 : decode cX4_year 157 = .ok (.goto 8, 3) := by decide +kernel
theorem dX4_year_160 : decode cX4_year 160 = .ok (.iload 7, 2) := by decide +kernel
theorem dX4_year_162 : decode cX4_year 162 = .ok (.iload 5, 2) := by decide +kernel
theorem dX4_year_164 : decode cX4_year 164 = .ok (.isub, 1) := by decide +kernel
theorem dX4_year_165 : decode cX4_year 165 = .ok (.ireturn, 1) := by decide +kernel
theorem hd_X4_year : yX4_year.cls ≠ "java/lang/invoke/MethodHandle" ∧ yX4_year.cls ≠ "java/lang/invoke/VarHandle" ∧ (parseMethodDescriptor yX4_year.desc).map (fun d => d.parameters.length) = some 2 := by decide +kernel
def f_X4_year_L92 : Nat → Int32 → Int32 → Int32 → Int32 → Int32 → Int32 → Int32 → vS → Option (Int32 × Int32 × vS)
  | 0, _, _, _, _, _, _, _, _ => none
  | n + 1, x1, x2, x4, x5, x6, x7, x8, S => if (6 : Int32) ≤ x8 then some (x6, x7, S) else b1 (f_X4_findsWith x8 x4 (12 : Int32) x1 S) fun S16 => if x6 < 0 then b1 (f_X4_sumOf 19 S16) fun r19 => (f_X4_year_L92 n) x1 x2 x4 x5 x8 r19 (x8 + 1) S16 else b1 (f_X4_sumOf 19 S16) fun r21 => if x7 < r21 then b1 (f_X4_sumOf 19 S16) fun r24 => (f_X4_year_L92 n) x1 x2 x4 x5 x8 r24 (x8 + 1) S16 else (f_X4_year_L92 n) x1 x2 x4 x5 x6 x7 (x8 + 1) S16
def f_X4_year_J55 (x1 : Int32) (x2 : Int32) (x3 : Int32) (x4 : Int32) (S : vS) : Option (Int32 × vS) := if x3 = 0 then b1 (f_X4_finds (S 0 2) S) fun S11 => b1 (f_X4_sumOf 19 S11) fun r13 => b3 (f_X4_year_L92 FU x1 x2 x4 r13 (-1 : Int32) (0 : Int32) (0 : Int32) S11) fun y25 y26 S27 => if x2 = 0 then some (y25, S27) else some ((y26 - r13), S27) else b2 (f_X4_less x3 S) fun r32 S31 => some (r32, S31)
def f_X4_year_J52 (x1 : Int32) (x2 : Int32) (x4 : Int32) (S : vS) : Option (Int32 × vS) := f_X4_year_J55 x1 x2 (-3 : Int32) x4 S
def f_X4_year (a1 : Int32) (a2 : Int32) (S : vS) : Option (Int32 × vS) := b1 (f_X4_isIn a2 (0 : Int32) (1 : Int32) S) fun r2 => if r2 = 0 then b2 (f_X4_less (-2 : Int32) S) fun r37 S36 => some (r37, S36) else b1 (f_X4_out a1 (0 : Int32) (999 : Int32) S) fun r5 => b1 (f_X4_behind  S) fun r7 => if r5 = 0 then if (S 0 2) = (20 : Int32) then f_X4_year_J52 a1 a2 r7 S else if r7 = (900 : Int32) then f_X4_year_J52 a1 a2 r7 S else f_X4_year_J55 a1 a2 r5 r7 S else f_X4_year_J55 a1 a2 r5 r7 S
set_option maxHeartbeats 4000000 in
set_option maxRecDepth 20000 in
theorem c_X4_year (l : Launch) (D : va_G) (cI cO : ClassId) (ad : Nat → Nat) (a1 : Int32) (a2 : Int32) (S : vS) (R9 : Int32) (S9 : vS) (hf : f_X4_year a1 a2 S = some (R9, S9)) : CI l yX4_year cX4_year 9 .int ({ frames := 6, cells := 0, slots := 0, locals := 138 }) [.ref (ad 5), .int a1, .int a2] D cI cO ad S R9 S9 := by
  refine CI.of (by decide +kernel) (Nat.le_of_ble_eq_true rfl) (fun p e s m args below meth c Q ls X hl hw hfin => ?_)
  have hl : lv_has ls 9 [(0, .ref (ad 5)), (1, .int a1), (2, .int a2)] := hl
  have hx := X.1
  have hb := X.2.1
  have L92 : ∀ (n : Nat) (x1 : Int32) (x2 : Int32) (x4 : Int32) (x5 : Int32) (x6 : Int32) (x7 : Int32) (x8 : Int32) (S : vS) (res : (Int32 × Int32 × vS)), f_X4_year_L92 n x1 x2 x4 x5 x6 x7 x8 S = some res → (K : ∀ (y6 : Int32) (y7 : Int32) (S2 : vS), some (y6, y7, S2) = some res → ∀ (H : Heap) (locs : List Loc) (ls : Array Slot), WD D cI cO ad s S2 H locs → lv_has ls 9 [(2, .int x2), (5, .int x5), (6, .int y6), (7, .int y7)] → W p l e ({ frames := 6, cells := 0, slots := 0, locals := 138 }) s m args below meth c H locs 0 0 Q (F0 m 151 ls [])) → ∀ (H : Heap) (locs : List Loc) (ls : Array Slot), WD D cI cO ad s S H locs → lv_has ls 9 [(0, .ref (ad 5)), (1, .int x1), (2, .int x2), (4, .int x4), (5, .int x5), (6, .int x6), (7, .int x7), (8, .int x8)] → W p l e ({ frames := 6, cells := 0, slots := 0, locals := 138 }) s m args below meth c H locs 0 0 Q (F0 m 92 ls []) := by
    intro n
    induction n with
    | zero => intro x1 x2 x4 x5 x6 x7 x8 S res hf; cases hf
    | succ n ih =>
      intro x1 x2 x4 x5 x6 x7 x8 S res hf K H locs ls hw hl
      unfold f_X4_year_L92 at hf
      refine lv_iload hx hb dX4_year_92 (lv_at hl 7 rfl) ?_
      refine lv_bipush (v := 6) hx hb dX4_year_94 (by decide +kernel) ?_
      refine lv_icmp_ge (tgt := 151) hx hb dX4_year_96 (by decide) (fun c14 => ?_) (fun c14 => ?_)
      · replace hf := if_t c14 hf
        exact K x6 x7 S hf _ _ _ hw (lv_sub hl [2, 4, 5, 6] rfl)
      · replace hf := if_f c14 hf
        refine lv_aload_n hx hb dX4_year_99 rfl (lv_at hl 0 rfl) ?_
        refine lv_iload hx hb dX4_year_100 (lv_at hl 7 rfl) ?_
        refine lv_iload hx hb dX4_year_102 (lv_at hl 3 rfl) ?_
        refine lv_bipush (v := 12) hx hb dX4_year_104 (by decide +kernel) ?_
        refine lv_iload_n hx hb dX4_year_106 rfl (lv_at hl 1 rfl) ?_
        obtain ⟨S16, h15, hf⟩ := b1_s hf
        refine kVv X hw (c_X4_findsWith l D cI cO ad x8 x4 (12 : Int32) x1 S S16 h15) (Nat.le_of_ble_eq_true rfl) ce5 rfl ⟨rfl, rfl⟩ q854 q856 q54 q64 q857 hd_X4_findsWith ⟨Nat.le_of_ble_eq_true rfl, Nat.le_of_ble_eq_true rfl⟩ rfl hl.1 rfl (Nat.le_of_ble_eq_true rfl) dX4_year_107 (fun H locs hw => ?_)
        refine lv_iload hx hb dX4_year_110 (lv_at hl 5 rfl) ?_
        refine lv_if_lt (tgt := 131) hx hb dX4_year_112 (by decide) (fun c17 => ?_) (fun c17 => ?_)
        · replace hf := if_t c17 hf
          refine lv_iload hx hb dX4_year_131 (lv_at hl 7 rfl) ?_
          refine lv_istore (lv' := [(6, .int x8), (0, .ref (ad 5)), (1, .int x1), (2, .int x2), (4, .int x4), (5, .int x5), (7, .int x7), (8, .int x8)]) hx hb dX4_year_133 hl (by decide) rfl (fun ls hl => ?_)
          refine lv_aload_n hx hb dX4_year_135 rfl (lv_at hl 1 rfl) ?_
          refine lv_aload_n hx hb dX4_year_136 rfl (lv_at hl 1 rfl) ?_
          refine x_get X hw 5 (Nat.le_of_ble_eq_true rfl) ce5 rfl i_X4 22 (by decide) q612 ⟨rfl, rfl, rfl⟩ rfl dX4_year_137 ?_
          obtain ⟨r19, h18, hf⟩ := b1_s hf
          refine kVi X hw (c_X4_sumOf l D cI cO ad 19 S16 r19 h18) (Nat.le_of_ble_eq_true rfl) ce5 rfl ⟨rfl, rfl⟩ q810 q812 q50 q64 q813 hd_X4_sumOf ⟨Nat.le_of_ble_eq_true rfl, Nat.le_of_ble_eq_true rfl⟩ rfl hl.1 rfl (Nat.le_of_ble_eq_true rfl) dX4_year_140 (fun H locs hw => ?_)
          refine lv_istore (lv' := [(7, .int r19), (6, .int x8), (0, .ref (ad 5)), (1, .int x1), (2, .int x2), (4, .int x4), (5, .int x5), (8, .int x8)]) hx hb dX4_year_143 hl (by decide) rfl (fun ls hl => ?_)
          refine lv_iinc (v := (x8 + 1)) (lv' := [(8, .int (x8 + 1)), (7, .int r19), (6, .int x8), (0, .ref (ad 5)), (1, .int x1), (2, .int x2), (4, .int x4), (5, .int x5)]) hx hb dX4_year_145 hl (k := 7) rfl rfl (by decide) rfl (fun ls hl => ?_)
          refine lv_goto (tgt := 92) hx hb dX4_year_148 (by decide) ?_
          exact ih x1 x2 x4 x5 x8 r19 (x8 + 1) S16 _ hf K _ _ _ hw (lv_sub hl [3, 4, 5, 6, 7, 2, 1, 0] rfl)
        · replace hf := if_f c17 hf
          refine lv_aload_n hx hb dX4_year_115 rfl (lv_at hl 0 rfl) ?_
          refine lv_aload_n hx hb dX4_year_116 rfl (lv_at hl 0 rfl) ?_
          refine x_get X hw 5 (Nat.le_of_ble_eq_true rfl) ce5 rfl i_X4 22 (by decide) q612 ⟨rfl, rfl, rfl⟩ rfl dX4_year_117 ?_
          obtain ⟨r21, h20, hf⟩ := b1_s hf
          refine kVi X hw (c_X4_sumOf l D cI cO ad 19 S16 r21 h20) (Nat.le_of_ble_eq_true rfl) ce5 rfl ⟨rfl, rfl⟩ q810 q812 q50 q64 q813 hd_X4_sumOf ⟨Nat.le_of_ble_eq_true rfl, Nat.le_of_ble_eq_true rfl⟩ rfl hl.1 rfl (Nat.le_of_ble_eq_true rfl) dX4_year_120 (fun H locs hw => ?_)
          refine lv_iload hx hb dX4_year_123 (lv_at hl 6 rfl) ?_
          refine lv_icmp_gt (tgt := 131) hx hb dX4_year_125 (by decide) (fun c22 => ?_) (fun c22 => ?_)
          · replace hf := if_t c22 hf
            refine lv_iload hx hb dX4_year_131 (lv_at hl 7 rfl) ?_
            refine lv_istore (lv' := [(6, .int x8), (0, .ref (ad 5)), (1, .int x1), (2, .int x2), (4, .int x4), (5, .int x5), (7, .int x7), (8, .int x8)]) hx hb dX4_year_133 hl (by decide) rfl (fun ls hl => ?_)
            refine lv_aload_n hx hb dX4_year_135 rfl (lv_at hl 1 rfl) ?_
            refine lv_aload_n hx hb dX4_year_136 rfl (lv_at hl 1 rfl) ?_
            refine x_get X hw 5 (Nat.le_of_ble_eq_true rfl) ce5 rfl i_X4 22 (by decide) q612 ⟨rfl, rfl, rfl⟩ rfl dX4_year_137 ?_
            obtain ⟨r24, h23, hf⟩ := b1_s hf
            refine kVi X hw (c_X4_sumOf l D cI cO ad 19 S16 r24 h23) (Nat.le_of_ble_eq_true rfl) ce5 rfl ⟨rfl, rfl⟩ q810 q812 q50 q64 q813 hd_X4_sumOf ⟨Nat.le_of_ble_eq_true rfl, Nat.le_of_ble_eq_true rfl⟩ rfl hl.1 rfl (Nat.le_of_ble_eq_true rfl) dX4_year_140 (fun H locs hw => ?_)
            refine lv_istore (lv' := [(7, .int r24), (6, .int x8), (0, .ref (ad 5)), (1, .int x1), (2, .int x2), (4, .int x4), (5, .int x5), (8, .int x8)]) hx hb dX4_year_143 hl (by decide) rfl (fun ls hl => ?_)
            refine lv_iinc (v := (x8 + 1)) (lv' := [(8, .int (x8 + 1)), (7, .int r24), (6, .int x8), (0, .ref (ad 5)), (1, .int x1), (2, .int x2), (4, .int x4), (5, .int x5)]) hx hb dX4_year_145 hl (k := 7) rfl rfl (by decide) rfl (fun ls hl => ?_)
            refine lv_goto (tgt := 92) hx hb dX4_year_148 (by decide) ?_
            exact ih x1 x2 x4 x5 x8 r24 (x8 + 1) S16 _ hf K _ _ _ hw (lv_sub hl [3, 4, 5, 6, 7, 2, 1, 0] rfl)
          · replace hf := if_f c22 hf
            refine lv_goto (tgt := 145) hx hb dX4_year_128 (by decide) ?_
            refine lv_iinc (v := (x8 + 1)) (lv' := [(8, .int (x8 + 1)), (0, .ref (ad 5)), (1, .int x1), (2, .int x2), (4, .int x4), (5, .int x5), (6, .int x6), (7, .int x7)]) hx hb dX4_year_145 hl (k := 7) rfl rfl (by decide) rfl (fun ls hl => ?_)
            refine lv_goto (tgt := 92) hx hb dX4_year_148 (by decide) ?_
            exact ih x1 x2 x4 x5 x6 x7 (x8 + 1) S16 _ hf K _ _ _ hw (lv_sub hl [1, 2, 3, 4, 5, 6, 7, 0] rfl)
  have J55 : ∀ (x1 : Int32) (x2 : Int32) (x3 : Int32) (x4 : Int32) (S : vS), f_X4_year_J55 x1 x2 x3 x4 S = some (R9, S9) → ∀ (H : Heap) (locs : List Loc) (ls : Array Slot), WD D cI cO ad s S H locs → lv_has ls 9 [(0, .ref (ad 5)), (1, .int x1), (2, .int x2), (3, .int x3), (4, .int x4)] → W p l e ({ frames := 6, cells := 0, slots := 0, locals := 138 }) s m args below meth c H locs 0 0 Q (F0 m 55 ls []) := by
    intro x1 x2 x3 x4 S hf H locs ls hw hl
    unfold f_X4_year_J55 at hf
    refine lv_iload_n hx hb dX4_year_55 rfl (lv_at hl 3 rfl) ?_
    refine lv_if_eq (tgt := 65) hx hb dX4_year_56 (by decide) (fun c9 => ?_) (fun c9 => ?_)
    · replace hf := if_t c9 hf
      refine lv_aload_n hx hb dX4_year_65 rfl (lv_at hl 0 rfl) ?_
      refine lv_aload_n hx hb dX4_year_66 rfl (lv_at hl 0 rfl) ?_
      refine x_get X hw 5 (Nat.le_of_ble_eq_true rfl) ce5 rfl i_X4 15 (by decide) q605 ⟨rfl, rfl, rfl⟩ rfl dX4_year_67 ?_
      obtain ⟨S11, h10, hf⟩ := b1_s hf
      refine kVv X hw (c_X4_finds l D cI cO ad (S 0 2) S S11 h10) (Nat.le_of_ble_eq_true rfl) ce5 rfl ⟨rfl, rfl⟩ q806 q808 q49 q64 q809 hd_X4_finds ⟨Nat.le_of_ble_eq_true rfl, Nat.le_of_ble_eq_true rfl⟩ rfl hl.1 rfl (Nat.le_of_ble_eq_true rfl) dX4_year_70 (fun H locs hw => ?_)
      refine lv_aload_n hx hb dX4_year_73 rfl (lv_at hl 0 rfl) ?_
      refine lv_aload_n hx hb dX4_year_74 rfl (lv_at hl 0 rfl) ?_
      refine x_get X hw 5 (Nat.le_of_ble_eq_true rfl) ce5 rfl i_X4 22 (by decide) q612 ⟨rfl, rfl, rfl⟩ rfl dX4_year_75 ?_
      obtain ⟨r13, h12, hf⟩ := b1_s hf
      refine kVi X hw (c_X4_sumOf l D cI cO ad 19 S11 r13 h12) (Nat.le_of_ble_eq_true rfl) ce5 rfl ⟨rfl, rfl⟩ q810 q812 q50 q64 q813 hd_X4_sumOf ⟨Nat.le_of_ble_eq_true rfl, Nat.le_of_ble_eq_true rfl⟩ rfl hl.1 rfl (Nat.le_of_ble_eq_true rfl) dX4_year_78 (fun H locs hw => ?_)
      refine lv_istore (lv' := [(5, .int r13), (0, .ref (ad 5)), (1, .int x1), (2, .int x2), (3, .int x3), (4, .int x4)]) hx hb dX4_year_81 hl (by decide) rfl (fun ls hl => ?_)
      refine lv_iconst (v := -1) hx hb dX4_year_83 (by decide) ?_
      refine lv_istore (lv' := [(6, .int (-1 : Int32)), (5, .int r13), (0, .ref (ad 5)), (1, .int x1), (2, .int x2), (3, .int x3), (4, .int x4)]) hx hb dX4_year_84 hl (by decide) rfl (fun ls hl => ?_)
      refine lv_iconst (v := 0) hx hb dX4_year_86 (by decide) ?_
      refine lv_istore (lv' := [(7, .int (0 : Int32)), (6, .int (-1 : Int32)), (5, .int r13), (0, .ref (ad 5)), (1, .int x1), (2, .int x2), (3, .int x3), (4, .int x4)]) hx hb dX4_year_87 hl (by decide) rfl (fun ls hl => ?_)
      refine lv_iconst (v := 0) hx hb dX4_year_89 (by decide) ?_
      refine lv_istore (lv' := [(8, .int (0 : Int32)), (7, .int (0 : Int32)), (6, .int (-1 : Int32)), (5, .int r13), (0, .ref (ad 5)), (1, .int x1), (2, .int x2), (3, .int x3), (4, .int x4)]) hx hb dX4_year_90 hl (by decide) rfl (fun ls hl => ?_)
      obtain ⟨y25, y26, S27, h29, hf⟩ := b3_s hf
      refine L92 FU x1 x2 x4 r13 (-1 : Int32) (0 : Int32) (0 : Int32) S11 _ h29 (fun y25' y26' S27' eK H locs ls hw hl => ?_) _ _ _ hw (lv_sub hl [4, 5, 6, 8, 3, 2, 1, 0] rfl)
      cases eK
      refine lv_iload_n hx hb dX4_year_151 rfl (lv_at hl 0 rfl) ?_
      refine lv_if_ne (tgt := 160) hx hb dX4_year_152 (by decide) (fun c28 => ?_) (fun c28 => ?_)
      · replace hf := if_f c28 hf
        refine lv_iload hx hb dX4_year_160 (lv_at hl 3 rfl) ?_
        refine lv_iload hx hb dX4_year_162 (lv_at hl 1 rfl) ?_
        refine lv_isub hx hb dX4_year_164 ?_
        exact hfin _ _ _ _ _ _ hw (s2a hf) (s2b hf) (narI _) dX4_year_165
      · replace hf := if_t c28 hf
        refine lv_iload hx hb dX4_year_155 (lv_at hl 2 rfl) ?_
        refine lv_goto (tgt := 165) hx hb dX4_year_157 (by decide) ?_
        exact hfin _ _ _ _ _ _ hw (s2a hf) (s2b hf) (narI _) dX4_year_165
    · replace hf := if_f c9 hf
      refine lv_aload_n hx hb dX4_year_59 rfl (lv_at hl 0 rfl) ?_
      refine lv_iload_n hx hb dX4_year_60 rfl (lv_at hl 3 rfl) ?_
      obtain ⟨r32, S31, h30, hf⟩ := b2_s hf
      refine kVi X hw (c_X4_less l D cI cO ad x3 S r32 S31 h30) (Nat.le_of_ble_eq_true rfl) ce5 rfl ⟨rfl, rfl⟩ q866 q868 q55 q64 q869 hd_X4_less ⟨Nat.le_of_ble_eq_true rfl, Nat.le_of_ble_eq_true rfl⟩ rfl hl.1 rfl (Nat.le_of_ble_eq_true rfl) dX4_year_61 (fun H locs hw => ?_)
      exact hfin _ _ _ _ _ _ hw (s2a hf) (s2b hf) (narI _) dX4_year_64
  have J52 : ∀ (x1 : Int32) (x2 : Int32) (x4 : Int32) (S : vS), f_X4_year_J52 x1 x2 x4 S = some (R9, S9) → ∀ (H : Heap) (locs : List Loc) (ls : Array Slot), WD D cI cO ad s S H locs → lv_has ls 9 [(0, .ref (ad 5)), (1, .int x1), (2, .int x2), (4, .int x4)] → W p l e ({ frames := 6, cells := 0, slots := 0, locals := 138 }) s m args below meth c H locs 0 0 Q (F0 m 52 ls []) := by
    intro x1 x2 x4 S hf H locs ls hw hl
    unfold f_X4_year_J52 at hf
    refine lv_bipush (v := -3) hx hb dX4_year_52 (by decide +kernel) ?_
    refine lv_istore_n (lv' := [(3, .int (-3 : Int32)), (0, .ref (ad 5)), (1, .int x1), (2, .int x2), (4, .int x4)]) hx hb dX4_year_54 rfl hl (by decide) rfl (fun ls hl => ?_)
    exact J55 x1 x2 (-3 : Int32) x4 S hf _ _ _ hw (lv_sub hl [1, 2, 3, 0, 4] rfl)
  unfold f_X4_year at hf
  refine lv_iload_n hx hb dX4_year_0 rfl (lv_at hl 2 rfl) ?_
  refine lv_iconst (v := 0) hx hb dX4_year_1 (by decide) ?_
  refine lv_iconst (v := 1) hx hb dX4_year_2 (by decide) ?_
  obtain ⟨r2, h1, hf⟩ := b1_s hf
  refine kSi X hw (c_X4_isIn l D cI cO ad a2 (0 : Int32) (1 : Int32) S r2 h1) ⟨rfl, rfl⟩ q712 q713 q64 q714 hd_X4_isIn ⟨Nat.le_of_ble_eq_true rfl, Nat.le_of_ble_eq_true rfl⟩ rfl hl.1 rfl (Nat.le_of_ble_eq_true rfl) dX4_year_3 (fun H locs hw => ?_)
  refine lv_if_ne (tgt := 16) hx hb dX4_year_6 (by decide) (fun c3 => ?_) (fun c3 => ?_)
  · replace hf := if_f c3 hf
    refine lv_iload_n hx hb dX4_year_16 rfl (lv_at hl 1 rfl) ?_
    refine lv_iconst (v := 0) hx hb dX4_year_17 (by decide) ?_
    refine lv_sipush (v := 999) hx hb dX4_year_18 (by decide +kernel) ?_
    obtain ⟨r5, h4, hf⟩ := b1_s hf
    refine kSi X hw (c_X4_out l D cI cO ad a1 (0 : Int32) (999 : Int32) S r5 h4) ⟨rfl, rfl⟩ q685 q686 q64 q687 hd_X4_out ⟨Nat.le_of_ble_eq_true rfl, Nat.le_of_ble_eq_true rfl⟩ rfl hl.1 rfl (Nat.le_of_ble_eq_true rfl) dX4_year_21 (fun H locs hw => ?_)
    refine lv_istore_n (lv' := [(3, .int r5), (0, .ref (ad 5)), (1, .int a1), (2, .int a2)]) hx hb dX4_year_24 rfl hl (by decide) rfl (fun ls hl => ?_)
    refine lv_aload_n hx hb dX4_year_25 rfl (lv_at hl 1 rfl) ?_
    obtain ⟨r7, h6, hf⟩ := b1_s hf
    refine kVi X hw (c_X4_behind l D cI cO ad  S r7 h6) (Nat.le_of_ble_eq_true rfl) ce5 rfl ⟨rfl, rfl⟩ q850 q852 q53 q64 q853 hd_X4_behind ⟨Nat.le_of_ble_eq_true rfl, Nat.le_of_ble_eq_true rfl⟩ rfl hl.1 rfl (Nat.le_of_ble_eq_true rfl) dX4_year_26 (fun H locs hw => ?_)
    refine lv_istore (lv' := [(4, .int r7), (3, .int r5), (0, .ref (ad 5)), (1, .int a1), (2, .int a2)]) hx hb dX4_year_29 hl (by decide) rfl (fun ls hl => ?_)
    refine lv_iload_n hx hb dX4_year_31 rfl (lv_at hl 1 rfl) ?_
    refine lv_if_ne (tgt := 55) hx hb dX4_year_32 (by decide) (fun c8 => ?_) (fun c8 => ?_)
    · replace hf := if_f c8 hf
      exact J55 a1 a2 r5 r7 S hf _ _ _ hw (lv_sub hl [2, 3, 4, 1, 0] rfl)
    · replace hf := if_t c8 hf
      refine lv_aload_n hx hb dX4_year_35 rfl (lv_at hl 2 rfl) ?_
      refine x_get X hw 5 (Nat.le_of_ble_eq_true rfl) ce5 rfl i_X4 15 (by decide) q605 ⟨rfl, rfl, rfl⟩ rfl dX4_year_36 ?_
      refine lv_bipush (v := 20) hx hb dX4_year_39 (by decide +kernel) ?_
      refine lv_icmp_eq (tgt := 52) hx hb dX4_year_41 (by decide) (fun c33 => ?_) (fun c33 => ?_)
      · replace hf := if_t c33 hf
        exact J52 a1 a2 r7 S hf _ _ _ hw (lv_sub hl [2, 3, 4, 0] rfl)
      · replace hf := if_f c33 hf
        refine lv_iload hx hb dX4_year_44 (lv_at hl 0 rfl) ?_
        refine lv_sipush (v := 900) hx hb dX4_year_46 (by decide +kernel) ?_
        refine lv_icmp_ne (tgt := 55) hx hb dX4_year_49 (by decide) (fun c34 => ?_) (fun c34 => ?_)
        · replace hf := if_f c34 hf
          exact J55 a1 a2 r5 r7 S hf _ _ _ hw (lv_sub hl [2, 3, 4, 1, 0] rfl)
        · replace hf := if_t c34 hf
          exact J52 a1 a2 r7 S hf _ _ _ hw (lv_sub hl [2, 3, 4, 0] rfl)
  · replace hf := if_t c3 hf
    refine lv_aload_n hx hb dX4_year_9 rfl (lv_at hl 0 rfl) ?_
    refine lv_bipush (v := -2) hx hb dX4_year_10 (by decide +kernel) ?_
    obtain ⟨r37, S36, h35, hf⟩ := b2_s hf
    refine kVi X hw (c_X4_less l D cI cO ad (-2 : Int32) S r37 S36 h35) (Nat.le_of_ble_eq_true rfl) ce5 rfl ⟨rfl, rfl⟩ q866 q868 q55 q64 q869 hd_X4_less ⟨Nat.le_of_ble_eq_true rfl, Nat.le_of_ble_eq_true rfl⟩ rfl hl.1 rfl (Nat.le_of_ble_eq_true rfl) dX4_year_12 (fun H locs hw => ?_)
    exact hfin _ _ _ _ _ _ hw (s2a hf) (s2b hf) (narI _) dX4_year_15
/-- NineLandsModel.proof(I)I -/
theorem dX4_proof_0 : decode cX4_proof 0 = .ok (.aload_n 0, 1) := by decide +kernel
theorem dX4_proof_1 : decode cX4_proof 1 = .ok (.iload_n 1, 1) := by decide +kernel
theorem dX4_proof_2 : decode cX4_proof 2 = .ok (.invokevirtual 119, 3) := by decide +kernel
theorem dX4_proof_5 : decode cX4_proof 5 = .ok (.ifCond .ne 9, 3) := by decide +kernel
theorem dX4_proof_8 : decode cX4_proof 8 = .ok (.aload_n 0, 1) := by decide +kernel
theorem dX4_proof_9 : decode cX4_proof 9 = .ok (.iconst (-1), 1) := by decide +kernel
theorem dX4_proof_10 : decode cX4_proof 10 = .ok (.invokevirtual 179, 3) := by decide +kernel
theorem dX4_proof_13 : decode cX4_proof 13 = .ok (.ireturn, 1) := by decide +kernel
theorem dX4_proof_14 : decode cX4_proof 14 = .ok (.aload_n 0, 1) := by decide +kernel
theorem dX4_proof_15 : decode cX4_proof 15 = .ok (.getfield 34, 3) := by decide +kernel
theorem dX4_proof_18 : decode cX4_proof 18 = .ok (.iload_n 1, 1) := by decide +kernel
theorem dX4_proof_19 : decode cX4_proof 19 = .ok (.iaload, 1) := by decide +kernel
theorem dX4_proof_20 : decode cX4_proof 20 = .ok (.iconst 1, 1) := by decide +kernel
theorem dX4_proof_21 : decode cX4_proof 21 = .ok (.if_icmp .ne 10, 3) := by decide +kernel
theorem dX4_proof_24 : decode cX4_proof 24 = .ok (.aload_n 0, 1) := by decide +kernel
theorem dX4_proof_25 : decode cX4_proof 25 = .ok (.bipush (-3), 2) := by decide +kernel
theorem dX4_proof_27 : decode cX4_proof 27 = .ok (.invokevirtual 179, 3) := by decide +kernel
theorem dX4_proof_30 : decode cX4_proof 30 = .ok (.ireturn, 1) := by decide +kernel
theorem dX4_proof_31 : decode cX4_proof 31 = .ok (.aload_n 0, 1) := by decide +kernel
theorem dX4_proof_32 : decode cX4_proof 32 = .ok (.aload_n 0, 1) := by decide +kernel
theorem dX4_proof_33 : decode cX4_proof 33 = .ok (.getfield 102, 3) := by decide +kernel
theorem dX4_proof_36 : decode cX4_proof 36 = .ok (.invokevirtual 163, 3) := by decide +kernel
theorem dX4_proof_39 : decode cX4_proof 39 = .ok (.aload_n 0, 1) := by decide +kernel
theorem dX4_proof_40 : decode cX4_proof 40 = .ok (.aload_n 0, 1) := by decide +kernel
theorem dX4_proof_41 : decode cX4_proof 41 = .ok (.getfield 68, 3) := by decide +kernel
theorem dX4_proof_44 : decode cX4_proof 44 = .ok (.invokevirtual 156, 3) := by decide +kernel
theorem dX4_proof_47 : decode cX4_proof 47 = .ok (.istore_n 2, 1) := by decide +kernel
theorem dX4_proof_48 : decode cX4_proof 48 = .ok (.aload_n 0, 1) := by decide +kernel
theorem dX4_proof_49 : decode cX4_proof 49 = .ok (.getfield 34, 3) := by decide +kernel
theorem dX4_proof_52 : decode cX4_proof 52 = .ok (.iload_n 1, 1) := by decide +kernel
theorem dX4_proof_53 : decode cX4_proof 53 = .ok (.iconst 1, 1) := by decide +kernel
theorem dX4_proof_54 : decode cX4_proof 54 = .ok (.iastore, 1) := by decide +kernel
theorem dX4_proof_55 : decode cX4_proof 55 = .ok (.aload_n 0, 1) := by decide +kernel
theorem dX4_proof_56 : decode cX4_proof 56 = .ok (.aload_n 0, 1) := by decide +kernel
theorem dX4_proof_57 : decode cX4_proof 57 = .ok (.getfield 102, 3) := by decide +kernel
theorem dX4_proof_60 : decode cX4_proof 60 = .ok (.invokevirtual 163, 3) := by decide +kernel
theorem dX4_proof_63 : decode cX4_proof 63 = .ok (.aload_n 0, 1) := by decide +kernel
theorem dX4_proof_64 : decode cX4_proof 64 = .ok (.getfield 34, 3) := by decide +kernel
theorem dX4_proof_67 : decode cX4_proof 67 = .ok (.iload_n 1, 1) := by decide +kernel
theorem dX4_proof_68 : decode cX4_proof 68 = .ok (.iconst 0, 1) := by decide +kernel
theorem dX4_proof_69 : decode cX4_proof 69 = .ok (.iastore, 1) := by decide +kernel
theorem dX4_proof_70 : decode cX4_proof 70 = .ok (.aload_n 0, 1) := by decide +kernel
theorem dX4_proof_71 : decode cX4_proof 71 = .ok (.aload_n 0, 1) := by decide +kernel
theorem dX4_proof_72 : decode cX4_proof 72 = .ok (.getfield 68, 3) := by decide +kernel
theorem dX4_proof_75 : decode cX4_proof 75 = .ok (.invokevirtual 156, 3) := by decide +kernel
theorem dX4_proof_78 : decode cX4_proof 78 = .ok (.iload_n 2, 1) := by decide +kernel
theorem dX4_proof_79 : decode cX4_proof 79 = .ok (.isub, 1) := by decide +kernel
theorem dX4_proof_80 : decode cX4_proof 80 = .ok (.ireturn, 1) := by decide +kernel
theorem hd_X4_proof : yX4_proof.cls ≠ "java/lang/invoke/MethodHandle" ∧ yX4_proof.cls ≠ "java/lang/invoke/VarHandle" ∧ (parseMethodDescriptor yX4_proof.desc).map (fun d => d.parameters.length) = some 1 := by decide +kernel
def f_X4_proof (a1 : Int32) (S : vS) : Option (Int32 × vS) := b1 (f_X4_isSpell a1 S) fun r2 => if r2 = 0 then b2 (f_X4_less (-1 : Int32) S) fun r21 S20 => some (r21, S20) else if inb a1 21 = true then if (S 9 (a1.toNatClampNeg)) = (1 : Int32) then b2 (f_X4_less (-3 : Int32) S) fun r18 S17 => some (r18, S17) else b1 (f_X4_finds (S 0 2) S) fun S7 => b1 (f_X4_sumOf 19 S7) fun r9 => lt (upk S7 9 (upd (S7 9) (a1.toNatClampNeg) (1 : Int32))) fun S10 => b1 (f_X4_finds (S10 0 2) S10) fun S12 => lt (upk S12 9 (upd (S12 9) (a1.toNatClampNeg) (0 : Int32))) fun S13 => b1 (f_X4_sumOf 19 S13) fun r15 => some ((r15 - r9), S13) else none
set_option maxHeartbeats 4000000 in
set_option maxRecDepth 20000 in
theorem c_X4_proof (l : Launch) (D : va_G) (cI cO : ClassId) (ad : Nat → Nat) (a1 : Int32) (S : vS) (R9 : Int32) (S9 : vS) (hf : f_X4_proof a1 S = some (R9, S9)) : CI l yX4_proof cX4_proof 3 .int ({ frames := 5, cells := 0, slots := 0, locals := 114 }) [.ref (ad 5), .int a1] D cI cO ad S R9 S9 := by
  refine CI.of (by decide +kernel) (Nat.le_of_ble_eq_true rfl) (fun p e s m args below meth c Q ls X hl hw hfin => ?_)
  have hl : lv_has ls 3 [(0, .ref (ad 5)), (1, .int a1)] := hl
  have hx := X.1
  have hb := X.2.1
  unfold f_X4_proof at hf
  refine lv_aload_n hx hb dX4_proof_0 rfl (lv_at hl 0 rfl) ?_
  refine lv_iload_n hx hb dX4_proof_1 rfl (lv_at hl 1 rfl) ?_
  obtain ⟨r2, h1, hf⟩ := b1_s hf
  refine kVi X hw (c_X4_isSpell l D cI cO ad a1 S r2 h1) (Nat.le_of_ble_eq_true rfl) ce5 rfl ⟨rfl, rfl⟩ q723 q725 q39 q64 q726 hd_X4_isSpell ⟨Nat.le_of_ble_eq_true rfl, Nat.le_of_ble_eq_true rfl⟩ rfl hl.1 rfl (Nat.le_of_ble_eq_true rfl) dX4_proof_2 (fun H locs hw => ?_)
  refine lv_if_ne (tgt := 14) hx hb dX4_proof_5 (by decide) (fun c3 => ?_) (fun c3 => ?_)
  · replace hf := if_f c3 hf
    refine lv_aload_n hx hb dX4_proof_14 rfl (lv_at hl 0 rfl) ?_
    refine x_get X hw 5 (Nat.le_of_ble_eq_true rfl) ce5 rfl i_X4 8 (by decide) q598 ⟨rfl, rfl, rfl⟩ rfl dX4_proof_15 ?_
    refine lv_iload_n hx hb dX4_proof_18 rfl (lv_at hl 1 rfl) ?_
    obtain ⟨h4, hf⟩ := if_s hf
    refine x_iald X hw 9 ⟨Nat.le_of_ble_eq_true rfl, Nat.le_of_ble_eq_true rfl⟩ rfl h4 (a1.toNatClampNeg) rfl dX4_proof_19 ?_
    refine lv_iconst (v := 1) hx hb dX4_proof_20 (by decide) ?_
    refine lv_icmp_ne (tgt := 31) hx hb dX4_proof_21 (by decide) (fun c5 => ?_) (fun c5 => ?_)
    · replace hf := if_f c5 hf
      refine lv_aload_n hx hb dX4_proof_31 rfl (lv_at hl 0 rfl) ?_
      refine lv_aload_n hx hb dX4_proof_32 rfl (lv_at hl 0 rfl) ?_
      refine x_get X hw 5 (Nat.le_of_ble_eq_true rfl) ce5 rfl i_X4 15 (by decide) q605 ⟨rfl, rfl, rfl⟩ rfl dX4_proof_33 ?_
      obtain ⟨S7, h6, hf⟩ := b1_s hf
      refine kVv X hw (c_X4_finds l D cI cO ad (S 0 2) S S7 h6) (Nat.le_of_ble_eq_true rfl) ce5 rfl ⟨rfl, rfl⟩ q806 q808 q49 q64 q809 hd_X4_finds ⟨Nat.le_of_ble_eq_true rfl, Nat.le_of_ble_eq_true rfl⟩ rfl hl.1 rfl (Nat.le_of_ble_eq_true rfl) dX4_proof_36 (fun H locs hw => ?_)
      refine lv_aload_n hx hb dX4_proof_39 rfl (lv_at hl 0 rfl) ?_
      refine lv_aload_n hx hb dX4_proof_40 rfl (lv_at hl 0 rfl) ?_
      refine x_get X hw 5 (Nat.le_of_ble_eq_true rfl) ce5 rfl i_X4 22 (by decide) q612 ⟨rfl, rfl, rfl⟩ rfl dX4_proof_41 ?_
      obtain ⟨r9, h8, hf⟩ := b1_s hf
      refine kVi X hw (c_X4_sumOf l D cI cO ad 19 S7 r9 h8) (Nat.le_of_ble_eq_true rfl) ce5 rfl ⟨rfl, rfl⟩ q810 q812 q50 q64 q813 hd_X4_sumOf ⟨Nat.le_of_ble_eq_true rfl, Nat.le_of_ble_eq_true rfl⟩ rfl hl.1 rfl (Nat.le_of_ble_eq_true rfl) dX4_proof_44 (fun H locs hw => ?_)
      refine lv_istore_n (lv' := [(2, .int r9), (0, .ref (ad 5)), (1, .int a1)]) hx hb dX4_proof_47 rfl hl (by decide) rfl (fun ls hl => ?_)
      refine lv_aload_n hx hb dX4_proof_48 rfl (lv_at hl 1 rfl) ?_
      refine x_get X hw 5 (Nat.le_of_ble_eq_true rfl) ce5 rfl i_X4 8 (by decide) q598 ⟨rfl, rfl, rfl⟩ rfl dX4_proof_49 ?_
      refine lv_iload_n hx hb dX4_proof_52 rfl (lv_at hl 2 rfl) ?_
      refine lv_iconst (v := 1) hx hb dX4_proof_53 (by decide) ?_
      refine x_iast X hw 9 ⟨Nat.le_of_ble_eq_true rfl, Nat.le_of_ble_eq_true rfl⟩ rfl h4 (a1.toNatClampNeg) rfl dX4_proof_54 (fun S10 eS10 H locs hw => ?_)
      replace hf := lt_e eS10 hf
      refine lv_aload_n hx hb dX4_proof_55 rfl (lv_at hl 1 rfl) ?_
      refine lv_aload_n hx hb dX4_proof_56 rfl (lv_at hl 1 rfl) ?_
      refine x_get X hw 5 (Nat.le_of_ble_eq_true rfl) ce5 rfl i_X4 15 (by decide) q605 ⟨rfl, rfl, rfl⟩ rfl dX4_proof_57 ?_
      obtain ⟨S12, h11, hf⟩ := b1_s hf
      refine kVv X hw (c_X4_finds l D cI cO ad (S10 0 2) S10 S12 h11) (Nat.le_of_ble_eq_true rfl) ce5 rfl ⟨rfl, rfl⟩ q806 q808 q49 q64 q809 hd_X4_finds ⟨Nat.le_of_ble_eq_true rfl, Nat.le_of_ble_eq_true rfl⟩ rfl hl.1 rfl (Nat.le_of_ble_eq_true rfl) dX4_proof_60 (fun H locs hw => ?_)
      refine lv_aload_n hx hb dX4_proof_63 rfl (lv_at hl 1 rfl) ?_
      refine x_get X hw 5 (Nat.le_of_ble_eq_true rfl) ce5 rfl i_X4 8 (by decide) q598 ⟨rfl, rfl, rfl⟩ rfl dX4_proof_64 ?_
      refine lv_iload_n hx hb dX4_proof_67 rfl (lv_at hl 2 rfl) ?_
      refine lv_iconst (v := 0) hx hb dX4_proof_68 (by decide) ?_
      refine x_iast X hw 9 ⟨Nat.le_of_ble_eq_true rfl, Nat.le_of_ble_eq_true rfl⟩ rfl h4 (a1.toNatClampNeg) rfl dX4_proof_69 (fun S13 eS13 H locs hw => ?_)
      replace hf := lt_e eS13 hf
      refine lv_aload_n hx hb dX4_proof_70 rfl (lv_at hl 1 rfl) ?_
      refine lv_aload_n hx hb dX4_proof_71 rfl (lv_at hl 1 rfl) ?_
      refine x_get X hw 5 (Nat.le_of_ble_eq_true rfl) ce5 rfl i_X4 22 (by decide) q612 ⟨rfl, rfl, rfl⟩ rfl dX4_proof_72 ?_
      obtain ⟨r15, h14, hf⟩ := b1_s hf
      refine kVi X hw (c_X4_sumOf l D cI cO ad 19 S13 r15 h14) (Nat.le_of_ble_eq_true rfl) ce5 rfl ⟨rfl, rfl⟩ q810 q812 q50 q64 q813 hd_X4_sumOf ⟨Nat.le_of_ble_eq_true rfl, Nat.le_of_ble_eq_true rfl⟩ rfl hl.1 rfl (Nat.le_of_ble_eq_true rfl) dX4_proof_75 (fun H locs hw => ?_)
      refine lv_iload_n hx hb dX4_proof_78 rfl (lv_at hl 0 rfl) ?_
      refine lv_isub hx hb dX4_proof_79 ?_
      exact hfin _ _ _ _ _ _ hw (s2a hf) (s2b hf) (narI _) dX4_proof_80
    · replace hf := if_t c5 hf
      refine lv_aload_n hx hb dX4_proof_24 rfl (lv_at hl 0 rfl) ?_
      refine lv_bipush (v := -3) hx hb dX4_proof_25 (by decide +kernel) ?_
      obtain ⟨r18, S17, h16, hf⟩ := b2_s hf
      refine kVi X hw (c_X4_less l D cI cO ad (-3 : Int32) S r18 S17 h16) (Nat.le_of_ble_eq_true rfl) ce5 rfl ⟨rfl, rfl⟩ q866 q868 q55 q64 q869 hd_X4_less ⟨Nat.le_of_ble_eq_true rfl, Nat.le_of_ble_eq_true rfl⟩ rfl hl.1 rfl (Nat.le_of_ble_eq_true rfl) dX4_proof_27 (fun H locs hw => ?_)
      exact hfin _ _ _ _ _ _ hw (s2a hf) (s2b hf) (narI _) dX4_proof_30
  · replace hf := if_t c3 hf
    refine lv_aload_n hx hb dX4_proof_8 rfl (lv_at hl 0 rfl) ?_
    refine lv_iconst (v := -1) hx hb dX4_proof_9 (by decide) ?_
    obtain ⟨r21, S20, h19, hf⟩ := b2_s hf
    refine kVi X hw (c_X4_less l D cI cO ad (-1 : Int32) S r21 S20 h19) (Nat.le_of_ble_eq_true rfl) ce5 rfl ⟨rfl, rfl⟩ q866 q868 q55 q64 q869 hd_X4_less ⟨Nat.le_of_ble_eq_true rfl, Nat.le_of_ble_eq_true rfl⟩ rfl hl.1 rfl (Nat.le_of_ble_eq_true rfl) dX4_proof_10 (fun H locs hw => ?_)
    exact hfin _ _ _ _ _ _ hw (s2a hf) (s2b hf) (narI _) dX4_proof_13
