/-- NineLands.asks(III)I -/
theorem dX3_asks_0 : decode cX3_asks 0 = .ok (.iload_n 1, 1) := by decide +kernel
theorem dX3_asks_1 : decode cX3_asks 1 = .ok (.invokestatic 78, 3) := by decide +kernel
theorem dX3_asks_4 : decode cX3_asks 4 = .ok (.ifCond .ne 9, 3) := by decide +kernel
theorem dX3_asks_7 : decode cX3_asks 7 = .ok (.aload_n 0, 1) := by decide +kernel
theorem dX3_asks_8 : decode cX3_asks 8 = .ok (.iconst (-1), 1) := by decide +kernel
theorem dX3_asks_9 : decode cX3_asks 9 = .ok (.invokevirtual 48, 3) := by decide +kernel
theorem dX3_asks_12 : decode cX3_asks 12 = .ok (.ireturn, 1) := by decide +kernel
theorem dX3_asks_13 : decode cX3_asks 13 = .ok (.iload_n 2, 1) := by decide +kernel
theorem dX3_asks_14 : decode cX3_asks 14 = .ok (.aload_n 0, 1) := by decide +kernel
theorem dX3_asks_15 : decode cX3_asks 15 = .ok (.getfield 19, 3) := by decide +kernel
theorem dX3_asks_18 : decode cX3_asks 18 = .ok (.getfield 84, 3) := by decide +kernel
theorem dX3_asks_21 : decode cX3_asks 21 = .ok (.iload_n 1, 1) := by decide +kernel
theorem dX3_asks_22 : decode cX3_asks 22 = .ok (.aaload, 1) := by decide +kernel
theorem dX3_asks_23 : decode cX3_asks 23 = .ok (.iconst 1, 1) := by decide +kernel
theorem dX3_asks_24 : decode cX3_asks 24 = .ok (.iaload, 1) := by decide +kernel
theorem dX3_asks_25 : decode cX3_asks 25 = .ok (.if_icmp .lt 7, 3) := by decide +kernel
theorem dX3_asks_28 : decode cX3_asks 28 = .ok (.iload_n 3, 1) := by decide +kernel
theorem dX3_asks_29 : decode cX3_asks 29 = .ok (.ifCond .ge 10, 3) := by decide +kernel
theorem dX3_asks_32 : decode cX3_asks 32 = .ok (.aload_n 0, 1) := by decide +kernel
theorem dX3_asks_33 : decode cX3_asks 33 = .ok (.bipush (-4), 2) := by decide +kernel
theorem dX3_asks_35 : decode cX3_asks 35 = .ok (.invokevirtual 48, 3) := by decide +kernel
theorem dX3_asks_38 : decode cX3_asks 38 = .ok (.ireturn, 1) := by decide +kernel
theorem dX3_asks_39 : decode cX3_asks 39 = .ok (.iload_n 2, 1) := by decide +kernel
theorem dX3_asks_40 : decode cX3_asks 40 = .ok (.sipush 900, 3) := by decide +kernel
theorem dX3_asks_43 : decode cX3_asks 43 = .ok (.if_icmp .gt 10, 3) := by decide +kernel
theorem dX3_asks_46 : decode cX3_asks 46 = .ok (.iload_n 3, 1) := by decide +kernel
theorem dX3_asks_47 : decode cX3_asks 47 = .ok (.sipush 1200, 3) := by decide +kernel
theorem dX3_asks_50 : decode cX3_asks 50 = .ok (.if_icmp .le 10, 3) := by decide +kernel
theorem dX3_asks_53 : decode cX3_asks 53 = .ok (.aload_n 0, 1) := by decide +kernel
theorem dX3_asks_54 : decode cX3_asks 54 = .ok (.bipush (-6), 2) := by decide +kernel
theorem dX3_asks_56 : decode cX3_asks 56 = .ok (.invokevirtual 48, 3) := by decide +kernel
theorem dX3_asks_59 : decode cX3_asks 59 = .ok (.ireturn, 1) := by decide +kernel
theorem dX3_asks_60 : decode cX3_asks 60 = .ok (.aload_n 0, 1) := by decide +kernel
theorem dX3_asks_61 : decode cX3_asks 61 = .ok (.invokevirtual 131, 3) := by decide +kernel
theorem dX3_asks_64 : decode cX3_asks 64 = .ok (.pop, 1) := by decide +kernel
theorem dX3_asks_65 : decode cX3_asks 65 = .ok (.aload_n 0, 1) := by decide +kernel
theorem dX3_asks_66 : decode cX3_asks 66 = .ok (.iload_n 1, 1) := by decide +kernel
theorem dX3_asks_67 : decode cX3_asks 67 = .ok (.iload_n 2, 1) := by decide +kernel
theorem dX3_asks_68 : decode cX3_asks 68 = .ok (.iload_n 3, 1) := by decide +kernel
theorem dX3_asks_69 : decode cX3_asks 69 = .ok (.invokevirtual 141, 3) := by decide +kernel
theorem dX3_asks_72 : decode cX3_asks 72 = .ok (.ireturn, 1) := by decide +kernel
theorem hd_X3_asks : yX3_asks.cls ≠ "java/lang/invoke/MethodHandle" ∧ yX3_asks.cls ≠ "java/lang/invoke/VarHandle" ∧ (parseMethodDescriptor yX3_asks.desc).map (fun d => d.parameters.length) = some 3 := by decide +kernel
def f_X3_asks (a1 : Int32) (a2 : Int32) (a3 : Int32) (S : vS) : Option (Int32 × vS) := b1 (f_X3_isLand a1 S) fun r2 => if r2 = 0 then b2 (f_X3_refuse (-1 : Int32) S) fun r28 S27 => some (r28, S27) else if inb a1 6 = true then if a2 < (S (54 + a1.toNatClampNeg) 1) then b2 (f_X3_refuse (-4 : Int32) S) fun r8 S7 => some (r8, S7) else if 0 ≤ a3 then if (900 : Int32) < a2 then b2 (f_X3_refuse (-6 : Int32) S) fun r13 S12 => some (r13, S12) else if a3 ≤ (1200 : Int32) then b2 (f_X3_owedByAll  S) fun r17 S16 => b1 (f_X3_paidFrom a1 a2 a3 S16) fun r19 => some (r19, S16) else b2 (f_X3_refuse (-6 : Int32) S) fun r22 S21 => some (r22, S21) else b2 (f_X3_refuse (-4 : Int32) S) fun r25 S24 => some (r25, S24) else none
set_option maxHeartbeats 4000000 in
set_option maxRecDepth 20000 in
theorem c_X3_asks (l : Launch) (D : va_G) (cI cO : ClassId) (ad : Nat → Nat) (a1 : Int32) (a2 : Int32) (a3 : Int32) (S : vS) (R9 : Int32) (S9 : vS) (hf : f_X3_asks a1 a2 a3 S = some (R9, S9)) : CI l yX3_asks cX3_asks 4 .int ({ frames := 6, cells := 0, slots := 0, locals := 133 }) [.ref (ad 0), .int a1, .int a2, .int a3] D cI cO ad S R9 S9 := by
  refine CI.of (by decide +kernel) (Nat.le_of_ble_eq_true rfl) (fun p e s m args below meth c Q ls X hl hw hfin => ?_)
  have hl : lv_has ls 4 [(0, .ref (ad 0)), (1, .int a1), (2, .int a2), (3, .int a3)] := hl
  have hx := X.1
  have hb := X.2.1
  unfold f_X3_asks at hf
  refine lv_iload_n hx hb dX3_asks_0 rfl (lv_at hl 1 rfl) ?_
  obtain ⟨r2, h1, hf⟩ := b1_s hf
  refine kSi X hw (c_X3_isLand l D cI cO ad a1 S r2 h1) ⟨rfl, rfl⟩ q345 q346 q59 q347 hd_X3_isLand ⟨Nat.le_of_ble_eq_true rfl, Nat.le_of_ble_eq_true rfl⟩ rfl hl.1 rfl (Nat.le_of_ble_eq_true rfl) dX3_asks_1 (fun H locs hw => ?_)
  refine lv_if_ne (tgt := 13) hx hb dX3_asks_4 (by decide) (fun c3 => ?_) (fun c3 => ?_)
  · replace hf := if_f c3 hf
    refine lv_iload_n hx hb dX3_asks_13 rfl (lv_at hl 2 rfl) ?_
    refine lv_aload_n hx hb dX3_asks_14 rfl (lv_at hl 0 rfl) ?_
    refine x_get X hw 0 (Nat.le_of_ble_eq_true rfl) ce0 rfl i_X3 1 (by decide) q183 ⟨rfl, rfl, rfl⟩ rfl dX3_asks_15 ?_
    refine x_getN X hw 2 (Nat.le_of_ble_eq_true rfl) ce2 rfl i_X0 1 (by decide) q116 ⟨rfl, rfl, rfl⟩ rfl dX3_asks_18 ?_
    refine lv_iload_n hx hb dX3_asks_21 rfl (lv_at hl 1 rfl) ?_
    obtain ⟨h4, hf⟩ := if_s hf
    refine x_aald X hw 7 (Nat.le_of_ble_eq_true rfl) ce7 h4 rfl dX3_asks_22 ?_
    refine lv_iconst (v := 1) hx hb dX3_asks_23 (by decide) ?_
    refine x_iald X hw (54 + a1.toNatClampNeg) (have q9 := inb_lt h4; ⟨by omega, by omega⟩) (alen_54 (inb_lt h4)) (by decide) 1 (by decide) dX3_asks_24 ?_
    refine lv_icmp_lt (tgt := 32) hx hb dX3_asks_25 (by decide) (fun c5 => ?_) (fun c5 => ?_)
    · replace hf := if_t c5 hf
      refine lv_aload_n hx hb dX3_asks_32 rfl (lv_at hl 0 rfl) ?_
      refine lv_bipush (v := -4) hx hb dX3_asks_33 (by decide +kernel) ?_
      obtain ⟨r8, S7, h6, hf⟩ := b2_s hf
      refine kVi X hw (c_X3_refuse l D cI cO ad (-4 : Int32) S r8 S7 h6) (Nat.le_of_ble_eq_true rfl) ce0 rfl ⟨rfl, rfl⟩ q211 q213 q0 q59 q214 hd_X3_refuse ⟨Nat.le_of_ble_eq_true rfl, Nat.le_of_ble_eq_true rfl⟩ rfl hl.1 rfl (Nat.le_of_ble_eq_true rfl) dX3_asks_35 (fun H locs hw => ?_)
      exact hfin _ _ _ _ _ _ hw (s2a hf) (s2b hf) (narI _) dX3_asks_38
    · replace hf := if_f c5 hf
      refine lv_iload_n hx hb dX3_asks_28 rfl (lv_at hl 3 rfl) ?_
      refine lv_if_ge (tgt := 39) hx hb dX3_asks_29 (by decide) (fun c9 => ?_) (fun c9 => ?_)
      · replace hf := if_t c9 hf
        refine lv_iload_n hx hb dX3_asks_39 rfl (lv_at hl 2 rfl) ?_
        refine lv_sipush (v := 900) hx hb dX3_asks_40 (by decide +kernel) ?_
        refine lv_icmp_gt (tgt := 53) hx hb dX3_asks_43 (by decide) (fun c10 => ?_) (fun c10 => ?_)
        · replace hf := if_t c10 hf
          refine lv_aload_n hx hb dX3_asks_53 rfl (lv_at hl 0 rfl) ?_
          refine lv_bipush (v := -6) hx hb dX3_asks_54 (by decide +kernel) ?_
          obtain ⟨r13, S12, h11, hf⟩ := b2_s hf
          refine kVi X hw (c_X3_refuse l D cI cO ad (-6 : Int32) S r13 S12 h11) (Nat.le_of_ble_eq_true rfl) ce0 rfl ⟨rfl, rfl⟩ q211 q213 q0 q59 q214 hd_X3_refuse ⟨Nat.le_of_ble_eq_true rfl, Nat.le_of_ble_eq_true rfl⟩ rfl hl.1 rfl (Nat.le_of_ble_eq_true rfl) dX3_asks_56 (fun H locs hw => ?_)
          exact hfin _ _ _ _ _ _ hw (s2a hf) (s2b hf) (narI _) dX3_asks_59
        · replace hf := if_f c10 hf
          refine lv_iload_n hx hb dX3_asks_46 rfl (lv_at hl 3 rfl) ?_
          refine lv_sipush (v := 1200) hx hb dX3_asks_47 (by decide +kernel) ?_
          refine lv_icmp_le (tgt := 60) hx hb dX3_asks_50 (by decide) (fun c14 => ?_) (fun c14 => ?_)
          · replace hf := if_t c14 hf
            refine lv_aload_n hx hb dX3_asks_60 rfl (lv_at hl 0 rfl) ?_
            obtain ⟨r17, S16, h15, hf⟩ := b2_s hf
            refine kVi X hw (c_X3_owedByAll l D cI cO ad  S r17 S16 h15) (Nat.le_of_ble_eq_true rfl) ce0 rfl ⟨rfl, rfl⟩ q459 q461 q21 q59 q462 hd_X3_owedByAll ⟨Nat.le_of_ble_eq_true rfl, Nat.le_of_ble_eq_true rfl⟩ rfl hl.1 rfl (Nat.le_of_ble_eq_true rfl) dX3_asks_61 (fun H locs hw => ?_)
            refine lv_pop hx hb dX3_asks_64 rfl ?_
            refine lv_aload_n hx hb dX3_asks_65 rfl (lv_at hl 0 rfl) ?_
            refine lv_iload_n hx hb dX3_asks_66 rfl (lv_at hl 1 rfl) ?_
            refine lv_iload_n hx hb dX3_asks_67 rfl (lv_at hl 2 rfl) ?_
            refine lv_iload_n hx hb dX3_asks_68 rfl (lv_at hl 3 rfl) ?_
            obtain ⟨r19, h18, hf⟩ := b1_s hf
            refine kVi X hw (c_X3_paidFrom l D cI cO ad a1 a2 a3 S16 r19 h18) (Nat.le_of_ble_eq_true rfl) ce0 rfl ⟨rfl, rfl⟩ q486 q488 q24 q59 q489 hd_X3_paidFrom ⟨Nat.le_of_ble_eq_true rfl, Nat.le_of_ble_eq_true rfl⟩ rfl hl.1 rfl (Nat.le_of_ble_eq_true rfl) dX3_asks_69 (fun H locs hw => ?_)
            exact hfin _ _ _ _ _ _ hw (s2a hf) (s2b hf) (narI _) dX3_asks_72
          · replace hf := if_f c14 hf
            refine lv_aload_n hx hb dX3_asks_53 rfl (lv_at hl 0 rfl) ?_
            refine lv_bipush (v := -6) hx hb dX3_asks_54 (by decide +kernel) ?_
            obtain ⟨r22, S21, h20, hf⟩ := b2_s hf
            refine kVi X hw (c_X3_refuse l D cI cO ad (-6 : Int32) S r22 S21 h20) (Nat.le_of_ble_eq_true rfl) ce0 rfl ⟨rfl, rfl⟩ q211 q213 q0 q59 q214 hd_X3_refuse ⟨Nat.le_of_ble_eq_true rfl, Nat.le_of_ble_eq_true rfl⟩ rfl hl.1 rfl (Nat.le_of_ble_eq_true rfl) dX3_asks_56 (fun H locs hw => ?_)
            exact hfin _ _ _ _ _ _ hw (s2a hf) (s2b hf) (narI _) dX3_asks_59
      · replace hf := if_f c9 hf
        refine lv_aload_n hx hb dX3_asks_32 rfl (lv_at hl 0 rfl) ?_
        refine lv_bipush (v := -4) hx hb dX3_asks_33 (by decide +kernel) ?_
        obtain ⟨r25, S24, h23, hf⟩ := b2_s hf
        refine kVi X hw (c_X3_refuse l D cI cO ad (-4 : Int32) S r25 S24 h23) (Nat.le_of_ble_eq_true rfl) ce0 rfl ⟨rfl, rfl⟩ q211 q213 q0 q59 q214 hd_X3_refuse ⟨Nat.le_of_ble_eq_true rfl, Nat.le_of_ble_eq_true rfl⟩ rfl hl.1 rfl (Nat.le_of_ble_eq_true rfl) dX3_asks_35 (fun H locs hw => ?_)
        exact hfin _ _ _ _ _ _ hw (s2a hf) (s2b hf) (narI _) dX3_asks_38
  · replace hf := if_t c3 hf
    refine lv_aload_n hx hb dX3_asks_7 rfl (lv_at hl 0 rfl) ?_
    refine lv_iconst (v := -1) hx hb dX3_asks_8 (by decide) ?_
    obtain ⟨r28, S27, h26, hf⟩ := b2_s hf
    refine kVi X hw (c_X3_refuse l D cI cO ad (-1 : Int32) S r28 S27 h26) (Nat.le_of_ble_eq_true rfl) ce0 rfl ⟨rfl, rfl⟩ q211 q213 q0 q59 q214 hd_X3_refuse ⟨Nat.le_of_ble_eq_true rfl, Nat.le_of_ble_eq_true rfl⟩ rfl hl.1 rfl (Nat.le_of_ble_eq_true rfl) dX3_asks_9 (fun H locs hw => ?_)
    exact hfin _ _ _ _ _ _ hw (s2a hf) (s2b hf) (narI _) dX3_asks_12
/-- NineLands.when(II)I -/
theorem dX3_when_0 : decode cX3_when 0 = .ok (.iload_n 1, 1) := by decide +kernel
theorem dX3_when_1 : decode cX3_when 1 = .ok (.invokestatic 78, 3) := by decide +kernel
theorem dX3_when_4 : decode cX3_when 4 = .ok (.ifCond .ne 9, 3) := by decide +kernel
theorem dX3_when_7 : decode cX3_when 7 = .ok (.aload_n 0, 1) := by decide +kernel
theorem dX3_when_8 : decode cX3_when 8 = .ok (.iconst (-1), 1) := by decide +kernel
theorem dX3_when_9 : decode cX3_when 9 = .ok (.invokevirtual 48, 3) := by decide +kernel
theorem dX3_when_12 : decode cX3_when 12 = .ok (.ireturn, 1) := by decide +kernel
theorem dX3_when_13 : decode cX3_when 13 = .ok (.iload_n 2, 1) := by decide +kernel
theorem dX3_when_14 : decode cX3_when 14 = .ok (.ifCond .ge 10, 3) := by decide +kernel
theorem dX3_when_17 : decode cX3_when 17 = .ok (.aload_n 0, 1) := by decide +kernel
theorem dX3_when_18 : decode cX3_when 18 = .ok (.bipush (-4), 2) := by decide +kernel
theorem dX3_when_20 : decode cX3_when 20 = .ok (.invokevirtual 48, 3) := by decide +kernel
theorem dX3_when_23 : decode cX3_when 23 = .ok (.ireturn, 1) := by decide +kernel
theorem dX3_when_24 : decode cX3_when 24 = .ok (.iload_n 2, 1) := by decide +kernel
theorem dX3_when_25 : decode cX3_when 25 = .ok (.sipush 1200, 3) := by decide +kernel
theorem dX3_when_28 : decode cX3_when 28 = .ok (.if_icmp .le 10, 3) := by decide +kernel
theorem dX3_when_31 : decode cX3_when 31 = .ok (.aload_n 0, 1) := by decide +kernel
theorem dX3_when_32 : decode cX3_when 32 = .ok (.bipush (-6), 2) := by decide +kernel
theorem dX3_when_34 : decode cX3_when 34 = .ok (.invokevirtual 48, 3) := by decide +kernel
theorem dX3_when_37 : decode cX3_when 37 = .ok (.ireturn, 1) := by decide +kernel
theorem dX3_when_38 : decode cX3_when 38 = .ok (.aload_n 0, 1) := by decide +kernel
theorem dX3_when_39 : decode cX3_when 39 = .ok (.invokevirtual 131, 3) := by decide +kernel
theorem dX3_when_42 : decode cX3_when 42 = .ok (.pop, 1) := by decide +kernel
theorem dX3_when_43 : decode cX3_when 43 = .ok (.bipush (-9), 2) := by decide +kernel
theorem dX3_when_45 : decode cX3_when 45 = .ok (.istore_n 3, 1) := by decide +kernel
theorem dX3_when_46 : decode cX3_when 46 = .ok (.iconst 0, 1) := by decide +kernel
theorem dX3_when_47 : decode cX3_when 47 = .ok (.istore 4, 2) := by decide +kernel
theorem dX3_when_49 : decode cX3_when 49 = .ok (.iconst 0, 1) := by decide +kernel
theorem dX3_when_50 : decode cX3_when 50 = .ok (.istore 5, 2) := by decide +kernel
theorem dX3_when_52 : decode cX3_when 52 = .ok (.iload 5, 2) := by decide +kernel
theorem dX3_when_54 : decode cX3_when 54 = .ok (.bipush 10, 2) := by decide +kernel
theorem dX3_when_56 : decode cX3_when 56 = .ok (.if_icmp .gt 64, 3) := by decide +kernel
theorem dX3_when_59 : decode cX3_when 59 = .ok (.aload_n 0, 1) := by decide +kernel
theorem dX3_when_60 : decode cX3_when 60 = .ok (.getfield 19, 3) := by decide +kernel
theorem dX3_when_63 : decode cX3_when 63 = .ok (.getfield 84, 3) := by decide +kernel
theorem dX3_when_66 : decode cX3_when 66 = .ok (.iload_n 1, 1) := by decide +kernel
theorem dX3_when_67 : decode cX3_when 67 = .ok (.aaload, 1) := by decide +kernel
theorem dX3_when_68 : decode cX3_when 68 = .ok (.iconst 1, 1) := by decide +kernel
theorem dX3_when_69 : decode cX3_when 69 = .ok (.iaload, 1) := by decide +kernel
theorem dX3_when_70 : decode cX3_when 70 = .ok (.iload 5, 2) := by decide +kernel
theorem dX3_when_72 : decode cX3_when 72 = .ok (.bipush 12, 2) := by decide +kernel
theorem dX3_when_74 : decode cX3_when 74 = .ok (.imul, 1) := by decide +kernel
theorem dX3_when_75 : decode cX3_when 75 = .ok (.iadd, 1) := by decide +kernel
theorem dX3_when_76 : decode cX3_when 76 = .ok (.istore 6, 2) := by decide +kernel
theorem dX3_when_78 : decode cX3_when 78 = .ok (.iload 6, 2) := by decide +kernel
theorem dX3_when_80 : decode cX3_when 80 = .ok (.sipush 900, 3) := by decide +kernel
theorem dX3_when_83 : decode cX3_when 83 = .ok (.if_icmp .le 7, 3) := by decide +kernel
theorem dX3_when_86 : decode cX3_when 86 = .ok (.iconst 0, 1) := by decide +kernel
theorem dX3_when_87 : decode cX3_when 87 = .ok (.goto 11, 3) := by decide +kernel
theorem dX3_when_90 : decode cX3_when 90 = .ok (.aload_n 0, 1) := by decide +kernel
theorem dX3_when_91 : decode cX3_when 91 = .ok (.iload_n 1, 1) := by decide +kernel
theorem dX3_when_92 : decode cX3_when 92 = .ok (.iload 6, 2) := by decide +kernel
theorem dX3_when_94 : decode cX3_when 94 = .ok (.iload_n 2, 1) := by decide +kernel
theorem dX3_when_95 : decode cX3_when 95 = .ok (.invokevirtual 141, 3) := by decide +kernel
theorem dX3_when_98 : decode cX3_when 98 = .ok (.istore 7, 2) := by decide +kernel
theorem dX3_when_100 : decode cX3_when 100 = .ok (.iload 7, 2) := by decide +kernel
theorem dX3_when_102 : decode cX3_when 102 = .ok (.iload 4, 2) := by decide +kernel
theorem dX3_when_104 : decode cX3_when 104 = .ok (.if_icmp .le 10, 3) := by decide +kernel
theorem dX3_when_107 : decode cX3_when 107 = .ok (.iload 7, 2) := by decide +kernel
theorem dX3_when_109 : decode cX3_when 109 = .ok (.istore 4, 2) := by decide +kernel
theorem dX3_when_111 : decode cX3_when 111 = .ok (.iload 6, 2) := by decide +kernel
theorem dX3_when_113 : decode cX3_when 113 = .ok (.istore_n 3, 1) := by decide +kernel
theorem dX3_when_114 : decode cX3_when 114 = .ok (.iinc 5 1, 3) := by decide +kernel
theorem dX3_when_117 : decode cX3_when 117 = .ok (.goto (-65), 3) := by decide +kernel
theorem dX3_when_120 : decode cX3_when 120 = .ok (.iload_n 3, 1) := by decide +kernel
theorem dX3_when_121 : decode cX3_when 121 = .ok (.ireturn, 1) := by decide +kernel
theorem hd_X3_when : yX3_when.cls ≠ "java/lang/invoke/MethodHandle" ∧ yX3_when.cls ≠ "java/lang/invoke/VarHandle" ∧ (parseMethodDescriptor yX3_when.desc).map (fun d => d.parameters.length) = some 2 := by decide +kernel
def f_X3_when_L52 (S : vS) : Nat → Int32 → Int32 → Int32 → Int32 → Int32 →  Option Int32
  | 0, _, _, _, _, _ => none
  | n + 1, x1, x2, x3, x4, x5 => if (10 : Int32) < x5 then some x3 else if inb x1 6 = true then lt (((S (54 + x1.toNatClampNeg) 1) + (x5 * (12 : Int32)))) fun v11 => if v11 ≤ (900 : Int32) then b1 (f_X3_paidFrom x1 v11 x2 S) fun r14 => if r14 ≤ x4 then (f_X3_when_L52 S n) x1 x2 x3 x4 (x5 + 1) else (f_X3_when_L52 S n) x1 x2 v11 r14 (x5 + 1) else if (0 : Int32) ≤ x4 then (f_X3_when_L52 S n) x1 x2 x3 x4 (x5 + 1) else (f_X3_when_L52 S n) x1 x2 v11 (0 : Int32) (x5 + 1) else none
def f_X3_when (a1 : Int32) (a2 : Int32) (S : vS) : Option (Int32 × vS) := b1 (f_X3_isLand a1 S) fun r2 => if r2 = 0 then b2 (f_X3_refuse (-1 : Int32) S) fun r27 S26 => some (r27, S26) else if 0 ≤ a2 then if a2 ≤ (1200 : Int32) then b2 (f_X3_owedByAll  S) fun r8 S7 => b1 (f_X3_when_L52 S7 FU a1 a2 (-9 : Int32) (0 : Int32) (0 : Int32)) fun y17 => some (y17, S7) else b2 (f_X3_refuse (-6 : Int32) S) fun r21 S20 => some (r21, S20) else b2 (f_X3_refuse (-4 : Int32) S) fun r24 S23 => some (r24, S23)
set_option maxHeartbeats 4000000 in
set_option maxRecDepth 20000 in
theorem c_X3_when (l : Launch) (D : va_G) (cI cO : ClassId) (ad : Nat → Nat) (a1 : Int32) (a2 : Int32) (S : vS) (R9 : Int32) (S9 : vS) (hf : f_X3_when a1 a2 S = some (R9, S9)) : CI l yX3_when cX3_when 8 .int ({ frames := 6, cells := 0, slots := 0, locals := 133 }) [.ref (ad 0), .int a1, .int a2] D cI cO ad S R9 S9 := by
  refine CI.of (by decide +kernel) (Nat.le_of_ble_eq_true rfl) (fun p e s m args below meth c Q ls X hl hw hfin => ?_)
  have hl : lv_has ls 8 [(0, .ref (ad 0)), (1, .int a1), (2, .int a2)] := hl
  have hx := X.1
  have hb := X.2.1
  have L52 : ∀ (S : vS) (n : Nat) (x1 : Int32) (x2 : Int32) (x3 : Int32) (x4 : Int32) (x5 : Int32) (res : Int32), f_X3_when_L52 S n x1 x2 x3 x4 x5 = some res → (K : ∀ (y3 : Int32), some y3 = some res → ∀ (H : Heap) (locs : List Loc) (ls : Array Slot), WD D cI cO ad s S H locs → lv_has ls 8 [(3, .int y3)] → W p l e ({ frames := 6, cells := 0, slots := 0, locals := 133 }) s m args below meth c H locs 0 0 Q (F0 m 120 ls [])) → ∀ (H : Heap) (locs : List Loc) (ls : Array Slot), WD D cI cO ad s S H locs → lv_has ls 8 [(0, .ref (ad 0)), (1, .int x1), (2, .int x2), (3, .int x3), (4, .int x4), (5, .int x5)] → W p l e ({ frames := 6, cells := 0, slots := 0, locals := 133 }) s m args below meth c H locs 0 0 Q (F0 m 52 ls []) := by
    intro S n
    induction n with
    | zero => intro x1 x2 x3 x4 x5 res hf; cases hf
    | succ n ih =>
      intro x1 x2 x3 x4 x5 res hf K H locs ls hw hl
      unfold f_X3_when_L52 at hf
      refine lv_iload hx hb dX3_when_52 (lv_at hl 5 rfl) ?_
      refine lv_bipush (v := 10) hx hb dX3_when_54 (by decide +kernel) ?_
      refine lv_icmp_gt (tgt := 120) hx hb dX3_when_56 (by decide) (fun c9 => ?_) (fun c9 => ?_)
      · replace hf := if_t c9 hf
        exact K x3 hf _ _ _ hw (lv_sub hl [3] rfl)
      · replace hf := if_f c9 hf
        refine lv_aload_n hx hb dX3_when_59 rfl (lv_at hl 0 rfl) ?_
        refine x_get X hw 0 (Nat.le_of_ble_eq_true rfl) ce0 rfl i_X3 1 (by decide) q183 ⟨rfl, rfl, rfl⟩ rfl dX3_when_60 ?_
        refine x_getN X hw 2 (Nat.le_of_ble_eq_true rfl) ce2 rfl i_X0 1 (by decide) q116 ⟨rfl, rfl, rfl⟩ rfl dX3_when_63 ?_
        refine lv_iload_n hx hb dX3_when_66 rfl (lv_at hl 1 rfl) ?_
        obtain ⟨h10, hf⟩ := if_s hf
        refine x_aald X hw 7 (Nat.le_of_ble_eq_true rfl) ce7 h10 rfl dX3_when_67 ?_
        refine lv_iconst (v := 1) hx hb dX3_when_68 (by decide) ?_
        refine x_iald X hw (54 + x1.toNatClampNeg) (have q9 := inb_lt h10; ⟨by omega, by omega⟩) (alen_54 (inb_lt h10)) (by decide) 1 (by decide) dX3_when_69 ?_
        refine lv_iload hx hb dX3_when_70 (lv_at hl 5 rfl) ?_
        refine lv_bipush (v := 12) hx hb dX3_when_72 (by decide +kernel) ?_
        refine lv_imul hx hb dX3_when_74 ?_
        refine lv_iadd hx hb dX3_when_75 ?_
        refine lv_topi (fun v11 ev11 => ?_)
        replace hf := lt_e ev11 hf
        refine lv_istore (lv' := [(6, .int v11), (0, .ref (ad 0)), (1, .int x1), (2, .int x2), (3, .int x3), (4, .int x4), (5, .int x5)]) hx hb dX3_when_76 hl (by decide) rfl (fun ls hl => ?_)
        refine lv_iload hx hb dX3_when_78 (lv_at hl 0 rfl) ?_
        refine lv_sipush (v := 900) hx hb dX3_when_80 (by decide +kernel) ?_
        refine lv_icmp_le (tgt := 90) hx hb dX3_when_83 (by decide) (fun c12 => ?_) (fun c12 => ?_)
        · replace hf := if_t c12 hf
          refine lv_aload_n hx hb dX3_when_90 rfl (lv_at hl 1 rfl) ?_
          refine lv_iload_n hx hb dX3_when_91 rfl (lv_at hl 2 rfl) ?_
          refine lv_iload hx hb dX3_when_92 (lv_at hl 0 rfl) ?_
          refine lv_iload_n hx hb dX3_when_94 rfl (lv_at hl 3 rfl) ?_
          obtain ⟨r14, h13, hf⟩ := b1_s hf
          refine kVi X hw (c_X3_paidFrom l D cI cO ad x1 v11 x2 S r14 h13) (Nat.le_of_ble_eq_true rfl) ce0 rfl ⟨rfl, rfl⟩ q486 q488 q24 q59 q489 hd_X3_paidFrom ⟨Nat.le_of_ble_eq_true rfl, Nat.le_of_ble_eq_true rfl⟩ rfl hl.1 rfl (Nat.le_of_ble_eq_true rfl) dX3_when_95 (fun H locs hw => ?_)
          refine lv_istore (lv' := [(7, .int r14), (6, .int v11), (0, .ref (ad 0)), (1, .int x1), (2, .int x2), (3, .int x3), (4, .int x4), (5, .int x5)]) hx hb dX3_when_98 hl (by decide) rfl (fun ls hl => ?_)
          refine lv_iload hx hb dX3_when_100 (lv_at hl 0 rfl) ?_
          refine lv_iload hx hb dX3_when_102 (lv_at hl 6 rfl) ?_
          refine lv_icmp_le (tgt := 114) hx hb dX3_when_104 (by decide) (fun c15 => ?_) (fun c15 => ?_)
          · replace hf := if_t c15 hf
            refine lv_iinc (v := (x5 + 1)) (lv' := [(5, .int (x5 + 1)), (7, .int r14), (6, .int v11), (0, .ref (ad 0)), (1, .int x1), (2, .int x2), (3, .int x3), (4, .int x4)]) hx hb dX3_when_114 hl (k := 7) rfl rfl (by decide) rfl (fun ls hl => ?_)
            refine lv_goto (tgt := 52) hx hb dX3_when_117 (by decide) ?_
            exact ih x1 x2 x3 x4 (x5 + 1) _ hf K _ _ _ hw (lv_sub hl [3, 4, 5, 6, 7, 0] rfl)
          · replace hf := if_f c15 hf
            refine lv_iload hx hb dX3_when_107 (lv_at hl 0 rfl) ?_
            refine lv_istore (lv' := [(4, .int r14), (7, .int r14), (6, .int v11), (0, .ref (ad 0)), (1, .int x1), (2, .int x2), (3, .int x3), (5, .int x5)]) hx hb dX3_when_109 hl (by decide) rfl (fun ls hl => ?_)
            refine lv_iload hx hb dX3_when_111 (lv_at hl 2 rfl) ?_
            refine lv_istore_n (lv' := [(3, .int v11), (4, .int r14), (7, .int r14), (6, .int v11), (0, .ref (ad 0)), (1, .int x1), (2, .int x2), (5, .int x5)]) hx hb dX3_when_113 rfl hl (by decide) rfl (fun ls hl => ?_)
            refine lv_iinc (v := (x5 + 1)) (lv' := [(5, .int (x5 + 1)), (3, .int v11), (4, .int r14), (7, .int r14), (6, .int v11), (0, .ref (ad 0)), (1, .int x1), (2, .int x2)]) hx hb dX3_when_114 hl (k := 7) rfl rfl (by decide) rfl (fun ls hl => ?_)
            refine lv_goto (tgt := 52) hx hb dX3_when_117 (by decide) ?_
            exact ih x1 x2 v11 r14 (x5 + 1) _ hf K _ _ _ hw (lv_sub hl [5, 6, 7, 1, 2, 0] rfl)
        · replace hf := if_f c12 hf
          refine lv_iconst (v := 0) hx hb dX3_when_86 (by decide) ?_
          refine lv_goto (tgt := 98) hx hb dX3_when_87 (by decide) ?_
          refine lv_istore (lv' := [(7, .int (0 : Int32)), (6, .int v11), (0, .ref (ad 0)), (1, .int x1), (2, .int x2), (3, .int x3), (4, .int x4), (5, .int x5)]) hx hb dX3_when_98 hl (by decide) rfl (fun ls hl => ?_)
          refine lv_iload hx hb dX3_when_100 (lv_at hl 0 rfl) ?_
          refine lv_iload hx hb dX3_when_102 (lv_at hl 6 rfl) ?_
          refine lv_icmp_le (tgt := 114) hx hb dX3_when_104 (by decide) (fun c16 => ?_) (fun c16 => ?_)
          · replace hf := if_t c16 hf
            refine lv_iinc (v := (x5 + 1)) (lv' := [(5, .int (x5 + 1)), (7, .int (0 : Int32)), (6, .int v11), (0, .ref (ad 0)), (1, .int x1), (2, .int x2), (3, .int x3), (4, .int x4)]) hx hb dX3_when_114 hl (k := 7) rfl rfl (by decide) rfl (fun ls hl => ?_)
            refine lv_goto (tgt := 52) hx hb dX3_when_117 (by decide) ?_
            exact ih x1 x2 x3 x4 (x5 + 1) _ hf K _ _ _ hw (lv_sub hl [3, 4, 5, 6, 7, 0] rfl)
          · replace hf := if_f c16 hf
            refine lv_iload hx hb dX3_when_107 (lv_at hl 0 rfl) ?_
            refine lv_istore (lv' := [(4, .int (0 : Int32)), (7, .int (0 : Int32)), (6, .int v11), (0, .ref (ad 0)), (1, .int x1), (2, .int x2), (3, .int x3), (5, .int x5)]) hx hb dX3_when_109 hl (by decide) rfl (fun ls hl => ?_)
            refine lv_iload hx hb dX3_when_111 (lv_at hl 2 rfl) ?_
            refine lv_istore_n (lv' := [(3, .int v11), (4, .int (0 : Int32)), (7, .int (0 : Int32)), (6, .int v11), (0, .ref (ad 0)), (1, .int x1), (2, .int x2), (5, .int x5)]) hx hb dX3_when_113 rfl hl (by decide) rfl (fun ls hl => ?_)
            refine lv_iinc (v := (x5 + 1)) (lv' := [(5, .int (x5 + 1)), (3, .int v11), (4, .int (0 : Int32)), (7, .int (0 : Int32)), (6, .int v11), (0, .ref (ad 0)), (1, .int x1), (2, .int x2)]) hx hb dX3_when_114 hl (k := 7) rfl rfl (by decide) rfl (fun ls hl => ?_)
            refine lv_goto (tgt := 52) hx hb dX3_when_117 (by decide) ?_
            exact ih x1 x2 v11 (0 : Int32) (x5 + 1) _ hf K _ _ _ hw (lv_sub hl [5, 6, 7, 1, 2, 0] rfl)
  unfold f_X3_when at hf
  refine lv_iload_n hx hb dX3_when_0 rfl (lv_at hl 1 rfl) ?_
  obtain ⟨r2, h1, hf⟩ := b1_s hf
  refine kSi X hw (c_X3_isLand l D cI cO ad a1 S r2 h1) ⟨rfl, rfl⟩ q345 q346 q59 q347 hd_X3_isLand ⟨Nat.le_of_ble_eq_true rfl, Nat.le_of_ble_eq_true rfl⟩ rfl hl.1 rfl (Nat.le_of_ble_eq_true rfl) dX3_when_1 (fun H locs hw => ?_)
  refine lv_if_ne (tgt := 13) hx hb dX3_when_4 (by decide) (fun c3 => ?_) (fun c3 => ?_)
  · replace hf := if_f c3 hf
    refine lv_iload_n hx hb dX3_when_13 rfl (lv_at hl 2 rfl) ?_
    refine lv_if_ge (tgt := 24) hx hb dX3_when_14 (by decide) (fun c4 => ?_) (fun c4 => ?_)
    · replace hf := if_t c4 hf
      refine lv_iload_n hx hb dX3_when_24 rfl (lv_at hl 2 rfl) ?_
      refine lv_sipush (v := 1200) hx hb dX3_when_25 (by decide +kernel) ?_
      refine lv_icmp_le (tgt := 38) hx hb dX3_when_28 (by decide) (fun c5 => ?_) (fun c5 => ?_)
      · replace hf := if_t c5 hf
        refine lv_aload_n hx hb dX3_when_38 rfl (lv_at hl 0 rfl) ?_
        obtain ⟨r8, S7, h6, hf⟩ := b2_s hf
        refine kVi X hw (c_X3_owedByAll l D cI cO ad  S r8 S7 h6) (Nat.le_of_ble_eq_true rfl) ce0 rfl ⟨rfl, rfl⟩ q459 q461 q21 q59 q462 hd_X3_owedByAll ⟨Nat.le_of_ble_eq_true rfl, Nat.le_of_ble_eq_true rfl⟩ rfl hl.1 rfl (Nat.le_of_ble_eq_true rfl) dX3_when_39 (fun H locs hw => ?_)
        refine lv_pop hx hb dX3_when_42 rfl ?_
        refine lv_bipush (v := -9) hx hb dX3_when_43 (by decide +kernel) ?_
        refine lv_istore_n (lv' := [(3, .int (-9 : Int32)), (0, .ref (ad 0)), (1, .int a1), (2, .int a2)]) hx hb dX3_when_45 rfl hl (by decide) rfl (fun ls hl => ?_)
        refine lv_iconst (v := 0) hx hb dX3_when_46 (by decide) ?_
        refine lv_istore (lv' := [(4, .int (0 : Int32)), (3, .int (-9 : Int32)), (0, .ref (ad 0)), (1, .int a1), (2, .int a2)]) hx hb dX3_when_47 hl (by decide) rfl (fun ls hl => ?_)
        refine lv_iconst (v := 0) hx hb dX3_when_49 (by decide) ?_
        refine lv_istore (lv' := [(5, .int (0 : Int32)), (4, .int (0 : Int32)), (3, .int (-9 : Int32)), (0, .ref (ad 0)), (1, .int a1), (2, .int a2)]) hx hb dX3_when_50 hl (by decide) rfl (fun ls hl => ?_)
        obtain ⟨y17, h18, hf⟩ := b1_s hf
        refine L52 S7 FU a1 a2 (-9 : Int32) (0 : Int32) (0 : Int32) _ h18 (fun y17' eK H locs ls hw hl => ?_) _ _ _ hw (lv_sub hl [3, 4, 5, 2, 1, 0] rfl)
        cases eK
        refine lv_iload_n hx hb dX3_when_120 rfl (lv_at hl 0 rfl) ?_
        exact hfin _ _ _ _ _ _ hw (s2a hf) (s2b hf) (narI _) dX3_when_121
      · replace hf := if_f c5 hf
        refine lv_aload_n hx hb dX3_when_31 rfl (lv_at hl 0 rfl) ?_
        refine lv_bipush (v := -6) hx hb dX3_when_32 (by decide +kernel) ?_
        obtain ⟨r21, S20, h19, hf⟩ := b2_s hf
        refine kVi X hw (c_X3_refuse l D cI cO ad (-6 : Int32) S r21 S20 h19) (Nat.le_of_ble_eq_true rfl) ce0 rfl ⟨rfl, rfl⟩ q211 q213 q0 q59 q214 hd_X3_refuse ⟨Nat.le_of_ble_eq_true rfl, Nat.le_of_ble_eq_true rfl⟩ rfl hl.1 rfl (Nat.le_of_ble_eq_true rfl) dX3_when_34 (fun H locs hw => ?_)
        exact hfin _ _ _ _ _ _ hw (s2a hf) (s2b hf) (narI _) dX3_when_37
    · replace hf := if_f c4 hf
      refine lv_aload_n hx hb dX3_when_17 rfl (lv_at hl 0 rfl) ?_
      refine lv_bipush (v := -4) hx hb dX3_when_18 (by decide +kernel) ?_
      obtain ⟨r24, S23, h22, hf⟩ := b2_s hf
      refine kVi X hw (c_X3_refuse l D cI cO ad (-4 : Int32) S r24 S23 h22) (Nat.le_of_ble_eq_true rfl) ce0 rfl ⟨rfl, rfl⟩ q211 q213 q0 q59 q214 hd_X3_refuse ⟨Nat.le_of_ble_eq_true rfl, Nat.le_of_ble_eq_true rfl⟩ rfl hl.1 rfl (Nat.le_of_ble_eq_true rfl) dX3_when_20 (fun H locs hw => ?_)
      exact hfin _ _ _ _ _ _ hw (s2a hf) (s2b hf) (narI _) dX3_when_23
  · replace hf := if_t c3 hf
    refine lv_aload_n hx hb dX3_when_7 rfl (lv_at hl 0 rfl) ?_
    refine lv_iconst (v := -1) hx hb dX3_when_8 (by decide) ?_
    obtain ⟨r27, S26, h25, hf⟩ := b2_s hf
    refine kVi X hw (c_X3_refuse l D cI cO ad (-1 : Int32) S r27 S26 h25) (Nat.le_of_ble_eq_true rfl) ce0 rfl ⟨rfl, rfl⟩ q211 q213 q0 q59 q214 hd_X3_refuse ⟨Nat.le_of_ble_eq_true rfl, Nat.le_of_ble_eq_true rfl⟩ rfl hl.1 rfl (Nat.le_of_ble_eq_true rfl) dX3_when_9 (fun H locs hw => ?_)
    exact hfin _ _ _ _ _ _ hw (s2a hf) (s2b hf) (narI _) dX3_when_12
/-- NineLands.lives(I)I -/
theorem dX3_lives_0 : decode cX3_lives 0 = .ok (.iload_n 1, 1) := by decide +kernel
theorem dX3_lives_1 : decode cX3_lives 1 = .ok (.invokestatic 78, 3) := by decide +kernel
theorem dX3_lives_4 : decode cX3_lives 4 = .ok (.ifCond .ne 9, 3) := by decide +kernel
theorem dX3_lives_7 : decode cX3_lives 7 = .ok (.aload_n 0, 1) := by decide +kernel
theorem dX3_lives_8 : decode cX3_lives 8 = .ok (.iconst (-1), 1) := by decide +kernel
theorem dX3_lives_9 : decode cX3_lives 9 = .ok (.invokevirtual 48, 3) := by decide +kernel
theorem dX3_lives_12 : decode cX3_lives 12 = .ok (.ireturn, 1) := by decide +kernel
theorem dX3_lives_13 : decode cX3_lives 13 = .ok (.aload_n 0, 1) := by decide +kernel
theorem dX3_lives_14 : decode cX3_lives 14 = .ok (.invokevirtual 131, 3) := by decide +kernel
theorem dX3_lives_17 : decode cX3_lives 17 = .ok (.pop, 1) := by decide +kernel
theorem dX3_lives_18 : decode cX3_lives 18 = .ok (.aload_n 0, 1) := by decide +kernel
theorem dX3_lives_19 : decode cX3_lives 19 = .ok (.iload_n 1, 1) := by decide +kernel
theorem dX3_lives_20 : decode cX3_lives 20 = .ok (.invokevirtual 145, 3) := by decide +kernel
theorem dX3_lives_23 : decode cX3_lives 23 = .ok (.ireturn, 1) := by decide +kernel
theorem hd_X3_lives : yX3_lives.cls ≠ "java/lang/invoke/MethodHandle" ∧ yX3_lives.cls ≠ "java/lang/invoke/VarHandle" ∧ (parseMethodDescriptor yX3_lives.desc).map (fun d => d.parameters.length) = some 1 := by decide +kernel
def f_X3_lives (a1 : Int32) (S : vS) : Option (Int32 × vS) := b1 (f_X3_isLand a1 S) fun r2 => if r2 = 0 then b2 (f_X3_refuse (-1 : Int32) S) fun r11 S10 => some (r11, S10) else b2 (f_X3_owedByAll  S) fun r6 S5 => b1 (f_X3_paidLivingIn a1 S5) fun r8 => some (r8, S5)
set_option maxHeartbeats 4000000 in
set_option maxRecDepth 20000 in
theorem c_X3_lives (l : Launch) (D : va_G) (cI cO : ClassId) (ad : Nat → Nat) (a1 : Int32) (S : vS) (R9 : Int32) (S9 : vS) (hf : f_X3_lives a1 S = some (R9, S9)) : CI l yX3_lives cX3_lives 2 .int ({ frames := 6, cells := 0, slots := 0, locals := 133 }) [.ref (ad 0), .int a1] D cI cO ad S R9 S9 := by
  refine CI.of (by decide +kernel) (Nat.le_of_ble_eq_true rfl) (fun p e s m args below meth c Q ls X hl hw hfin => ?_)
  have hl : lv_has ls 2 [(0, .ref (ad 0)), (1, .int a1)] := hl
  have hx := X.1
  have hb := X.2.1
  unfold f_X3_lives at hf
  refine lv_iload_n hx hb dX3_lives_0 rfl (lv_at hl 1 rfl) ?_
  obtain ⟨r2, h1, hf⟩ := b1_s hf
  refine kSi X hw (c_X3_isLand l D cI cO ad a1 S r2 h1) ⟨rfl, rfl⟩ q345 q346 q59 q347 hd_X3_isLand ⟨Nat.le_of_ble_eq_true rfl, Nat.le_of_ble_eq_true rfl⟩ rfl hl.1 rfl (Nat.le_of_ble_eq_true rfl) dX3_lives_1 (fun H locs hw => ?_)
  refine lv_if_ne (tgt := 13) hx hb dX3_lives_4 (by decide) (fun c3 => ?_) (fun c3 => ?_)
  · replace hf := if_f c3 hf
    refine lv_aload_n hx hb dX3_lives_13 rfl (lv_at hl 0 rfl) ?_
    obtain ⟨r6, S5, h4, hf⟩ := b2_s hf
    refine kVi X hw (c_X3_owedByAll l D cI cO ad  S r6 S5 h4) (Nat.le_of_ble_eq_true rfl) ce0 rfl ⟨rfl, rfl⟩ q459 q461 q21 q59 q462 hd_X3_owedByAll ⟨Nat.le_of_ble_eq_true rfl, Nat.le_of_ble_eq_true rfl⟩ rfl hl.1 rfl (Nat.le_of_ble_eq_true rfl) dX3_lives_14 (fun H locs hw => ?_)
    refine lv_pop hx hb dX3_lives_17 rfl ?_
    refine lv_aload_n hx hb dX3_lives_18 rfl (lv_at hl 0 rfl) ?_
    refine lv_iload_n hx hb dX3_lives_19 rfl (lv_at hl 1 rfl) ?_
    obtain ⟨r8, h7, hf⟩ := b1_s hf
    refine kVi X hw (c_X3_paidLivingIn l D cI cO ad a1 S5 r8 h7) (Nat.le_of_ble_eq_true rfl) ce0 rfl ⟨rfl, rfl⟩ q498 q500 q25 q59 q501 hd_X3_paidLivingIn ⟨Nat.le_of_ble_eq_true rfl, Nat.le_of_ble_eq_true rfl⟩ rfl hl.1 rfl (Nat.le_of_ble_eq_true rfl) dX3_lives_20 (fun H locs hw => ?_)
    exact hfin _ _ _ _ _ _ hw (s2a hf) (s2b hf) (narI _) dX3_lives_23
  · replace hf := if_t c3 hf
    refine lv_aload_n hx hb dX3_lives_7 rfl (lv_at hl 0 rfl) ?_
    refine lv_iconst (v := -1) hx hb dX3_lives_8 (by decide) ?_
    obtain ⟨r11, S10, h9, hf⟩ := b2_s hf
    refine kVi X hw (c_X3_refuse l D cI cO ad (-1 : Int32) S r11 S10 h9) (Nat.le_of_ble_eq_true rfl) ce0 rfl ⟨rfl, rfl⟩ q211 q213 q0 q59 q214 hd_X3_refuse ⟨Nat.le_of_ble_eq_true rfl, Nat.le_of_ble_eq_true rfl⟩ rfl hl.1 rfl (Nat.le_of_ble_eq_true rfl) dX3_lives_9 (fun H locs hw => ?_)
    exact hfin _ _ _ _ _ _ hw (s2a hf) (s2b hf) (narI _) dX3_lives_12
/-- NineLands.where()I -/
theorem dX3_where_0 : decode cX3_where 0 = .ok (.aload_n 0, 1) := by decide +kernel
theorem dX3_where_1 : decode cX3_where 1 = .ok (.invokevirtual 131, 3) := by decide +kernel
theorem dX3_where_4 : decode cX3_where 4 = .ok (.pop, 1) := by decide +kernel
theorem dX3_where_5 : decode cX3_where 5 = .ok (.iconst 0, 1) := by decide +kernel
theorem dX3_where_6 : decode cX3_where 6 = .ok (.istore_n 1, 1) := by decide +kernel
theorem dX3_where_7 : decode cX3_where 7 = .ok (.iconst 1, 1) := by decide +kernel
theorem dX3_where_8 : decode cX3_where 8 = .ok (.istore_n 2, 1) := by decide +kernel
theorem dX3_where_9 : decode cX3_where 9 = .ok (.iload_n 2, 1) := by decide +kernel
theorem dX3_where_10 : decode cX3_where 10 = .ok (.bipush 6, 2) := by decide +kernel
theorem dX3_where_12 : decode cX3_where 12 = .ok (.if_icmp .ge 24, 3) := by decide +kernel
theorem dX3_where_15 : decode cX3_where 15 = .ok (.aload_n 0, 1) := by decide +kernel
theorem dX3_where_16 : decode cX3_where 16 = .ok (.iload_n 2, 1) := by decide +kernel
theorem dX3_where_17 : decode cX3_where 17 = .ok (.invokevirtual 145, 3) := by decide +kernel
theorem dX3_where_20 : decode cX3_where 20 = .ok (.aload_n 0, 1) := by decide +kernel
theorem dX3_where_21 : decode cX3_where 21 = .ok (.iload_n 1, 1) := by decide +kernel
theorem dX3_where_22 : decode cX3_where 22 = .ok (.invokevirtual 145, 3) := by decide +kernel
theorem dX3_where_25 : decode cX3_where 25 = .ok (.if_icmp .le 5, 3) := by decide +kernel
theorem dX3_where_28 : decode cX3_where 28 = .ok (.iload_n 2, 1) := by decide +kernel
theorem dX3_where_29 : decode cX3_where 29 = .ok (.istore_n 1, 1) := by decide +kernel
theorem dX3_where_30 : decode cX3_where 30 = .ok (.iinc 2 1, 3) := by decide +kernel
theorem dX3_where_33 : decode cX3_where 33 = .ok (.goto (-24), 3) := by decide +kernel
theorem dX3_where_36 : decode cX3_where 36 = .ok (.iload_n 1, 1) := by decide +kernel
theorem dX3_where_37 : decode cX3_where 37 = .ok (.ireturn, 1) := by decide +kernel
theorem hd_X3_where : yX3_where.cls ≠ "java/lang/invoke/MethodHandle" ∧ yX3_where.cls ≠ "java/lang/invoke/VarHandle" ∧ (parseMethodDescriptor yX3_where.desc).map (fun d => d.parameters.length) = some 0 := by decide +kernel
def f_X3_where_L9 (S : vS) : Nat → Int32 → Int32 →  Option Int32
  | 0, _, _ => none
  | n + 1, x1, x2 => if (6 : Int32) ≤ x2 then some x1 else b1 (f_X3_paidLivingIn x2 S) fun r6 => b1 (f_X3_paidLivingIn x1 S) fun r8 => if r6 ≤ r8 then (f_X3_where_L9 S n) x1 (x2 + 1) else (f_X3_where_L9 S n) x2 (x2 + 1)
def f_X3_where  (S : vS) : Option (Int32 × vS) := b2 (f_X3_owedByAll  S) fun r3 S2 => b1 (f_X3_where_L9 S2 FU (0 : Int32) (1 : Int32)) fun y10 => some (y10, S2)
set_option maxHeartbeats 4000000 in
set_option maxRecDepth 20000 in
theorem c_X3_where (l : Launch) (D : va_G) (cI cO : ClassId) (ad : Nat → Nat)  (S : vS) (R9 : Int32) (S9 : vS) (hf : f_X3_where  S = some (R9, S9)) : CI l yX3_where cX3_where 3 .int ({ frames := 6, cells := 0, slots := 0, locals := 133 }) [.ref (ad 0)] D cI cO ad S R9 S9 := by
  refine CI.of (by decide +kernel) (Nat.le_of_ble_eq_true rfl) (fun p e s m args below meth c Q ls X hl hw hfin => ?_)
  have hl : lv_has ls 3 [(0, .ref (ad 0))] := hl
  have hx := X.1
  have hb := X.2.1
  have L9 : ∀ (S : vS) (n : Nat) (x1 : Int32) (x2 : Int32) (res : Int32), f_X3_where_L9 S n x1 x2 = some res → (K : ∀ (y1 : Int32), some y1 = some res → ∀ (H : Heap) (locs : List Loc) (ls : Array Slot), WD D cI cO ad s S H locs → lv_has ls 3 [(1, .int y1)] → W p l e ({ frames := 6, cells := 0, slots := 0, locals := 133 }) s m args below meth c H locs 0 0 Q (F0 m 36 ls [])) → ∀ (H : Heap) (locs : List Loc) (ls : Array Slot), WD D cI cO ad s S H locs → lv_has ls 3 [(0, .ref (ad 0)), (1, .int x1), (2, .int x2)] → W p l e ({ frames := 6, cells := 0, slots := 0, locals := 133 }) s m args below meth c H locs 0 0 Q (F0 m 9 ls []) := by
    intro S n
    induction n with
    | zero => intro x1 x2 res hf; cases hf
    | succ n ih =>
      intro x1 x2 res hf K H locs ls hw hl
      unfold f_X3_where_L9 at hf
      refine lv_iload_n hx hb dX3_where_9 rfl (lv_at hl 2 rfl) ?_
      refine lv_bipush (v := 6) hx hb dX3_where_10 (by decide +kernel) ?_
      refine lv_icmp_ge (tgt := 36) hx hb dX3_where_12 (by decide) (fun c4 => ?_) (fun c4 => ?_)
      · replace hf := if_t c4 hf
        exact K x1 hf _ _ _ hw (lv_sub hl [1] rfl)
      · replace hf := if_f c4 hf
        refine lv_aload_n hx hb dX3_where_15 rfl (lv_at hl 0 rfl) ?_
        refine lv_iload_n hx hb dX3_where_16 rfl (lv_at hl 2 rfl) ?_
        obtain ⟨r6, h5, hf⟩ := b1_s hf
        refine kVi X hw (c_X3_paidLivingIn l D cI cO ad x2 S r6 h5) (Nat.le_of_ble_eq_true rfl) ce0 rfl ⟨rfl, rfl⟩ q498 q500 q25 q59 q501 hd_X3_paidLivingIn ⟨Nat.le_of_ble_eq_true rfl, Nat.le_of_ble_eq_true rfl⟩ rfl hl.1 rfl (Nat.le_of_ble_eq_true rfl) dX3_where_17 (fun H locs hw => ?_)
        refine lv_aload_n hx hb dX3_where_20 rfl (lv_at hl 0 rfl) ?_
        refine lv_iload_n hx hb dX3_where_21 rfl (lv_at hl 1 rfl) ?_
        obtain ⟨r8, h7, hf⟩ := b1_s hf
        refine kVi X hw (c_X3_paidLivingIn l D cI cO ad x1 S r8 h7) (Nat.le_of_ble_eq_true rfl) ce0 rfl ⟨rfl, rfl⟩ q498 q500 q25 q59 q501 hd_X3_paidLivingIn ⟨Nat.le_of_ble_eq_true rfl, Nat.le_of_ble_eq_true rfl⟩ rfl hl.1 rfl (Nat.le_of_ble_eq_true rfl) dX3_where_22 (fun H locs hw => ?_)
        refine lv_icmp_le (tgt := 30) hx hb dX3_where_25 (by decide) (fun c9 => ?_) (fun c9 => ?_)
        · replace hf := if_t c9 hf
          refine lv_iinc (v := (x2 + 1)) (lv' := [(2, .int (x2 + 1)), (0, .ref (ad 0)), (1, .int x1)]) hx hb dX3_where_30 hl (k := 2) rfl rfl (by decide) rfl (fun ls hl => ?_)
          refine lv_goto (tgt := 9) hx hb dX3_where_33 (by decide) ?_
          exact ih x1 (x2 + 1) _ hf K _ _ _ hw (lv_sub hl [1, 2, 0] rfl)
        · replace hf := if_f c9 hf
          refine lv_iload_n hx hb dX3_where_28 rfl (lv_at hl 2 rfl) ?_
          refine lv_istore_n (lv' := [(1, .int x2), (0, .ref (ad 0)), (2, .int x2)]) hx hb dX3_where_29 rfl hl (by decide) rfl (fun ls hl => ?_)
          refine lv_iinc (v := (x2 + 1)) (lv' := [(2, .int (x2 + 1)), (1, .int x2), (0, .ref (ad 0))]) hx hb dX3_where_30 hl (k := 2) rfl rfl (by decide) rfl (fun ls hl => ?_)
          refine lv_goto (tgt := 9) hx hb dX3_where_33 (by decide) ?_
          exact ih x2 (x2 + 1) _ hf K _ _ _ hw (lv_sub hl [2, 1, 0] rfl)
  unfold f_X3_where at hf
  refine lv_aload_n hx hb dX3_where_0 rfl (lv_at hl 0 rfl) ?_
  obtain ⟨r3, S2, h1, hf⟩ := b2_s hf
  refine kVi X hw (c_X3_owedByAll l D cI cO ad  S r3 S2 h1) (Nat.le_of_ble_eq_true rfl) ce0 rfl ⟨rfl, rfl⟩ q459 q461 q21 q59 q462 hd_X3_owedByAll ⟨Nat.le_of_ble_eq_true rfl, Nat.le_of_ble_eq_true rfl⟩ rfl hl.1 rfl (Nat.le_of_ble_eq_true rfl) dX3_where_1 (fun H locs hw => ?_)
  refine lv_pop hx hb dX3_where_4 rfl ?_
  refine lv_iconst (v := 0) hx hb dX3_where_5 (by decide) ?_
  refine lv_istore_n (lv' := [(1, .int (0 : Int32)), (0, .ref (ad 0))]) hx hb dX3_where_6 rfl hl (by decide) rfl (fun ls hl => ?_)
  refine lv_iconst (v := 1) hx hb dX3_where_7 (by decide) ?_
  refine lv_istore_n (lv' := [(2, .int (1 : Int32)), (1, .int (0 : Int32)), (0, .ref (ad 0))]) hx hb dX3_where_8 rfl hl (by decide) rfl (fun ls hl => ?_)
  obtain ⟨y10, h11, hf⟩ := b1_s hf
  refine L9 S2 FU (0 : Int32) (1 : Int32) _ h11 (fun y10' eK H locs ls hw hl => ?_) _ _ _ hw (lv_sub hl [2, 1, 0] rfl)
  cases eK
  refine lv_iload_n hx hb dX3_where_36 rfl (lv_at hl 0 rfl) ?_
  exact hfin _ _ _ _ _ _ hw (s2a hf) (s2b hf) (narI _) dX3_where_37
/-- NineLands.edge(II)I -/
theorem dX3_edge_0 : decode cX3_edge 0 = .ok (.iload_n 1, 1) := by decide +kernel
theorem dX3_edge_1 : decode cX3_edge 1 = .ok (.invokestatic 78, 3) := by decide +kernel
theorem dX3_edge_4 : decode cX3_edge 4 = .ok (.ifCond .ne 9, 3) := by decide +kernel
theorem dX3_edge_7 : decode cX3_edge 7 = .ok (.aload_n 0, 1) := by decide +kernel
theorem dX3_edge_8 : decode cX3_edge 8 = .ok (.iconst (-1), 1) := by decide +kernel
theorem dX3_edge_9 : decode cX3_edge 9 = .ok (.invokevirtual 48, 3) := by decide +kernel
theorem dX3_edge_12 : decode cX3_edge 12 = .ok (.ireturn, 1) := by decide +kernel
theorem dX3_edge_13 : decode cX3_edge 13 = .ok (.iload_n 2, 1) := by decide +kernel
theorem dX3_edge_14 : decode cX3_edge 14 = .ok (.ifCond .ge 10, 3) := by decide +kernel
theorem dX3_edge_17 : decode cX3_edge 17 = .ok (.aload_n 0, 1) := by decide +kernel
theorem dX3_edge_18 : decode cX3_edge 18 = .ok (.bipush (-4), 2) := by decide +kernel
theorem dX3_edge_20 : decode cX3_edge 20 = .ok (.invokevirtual 48, 3) := by decide +kernel
theorem dX3_edge_23 : decode cX3_edge 23 = .ok (.ireturn, 1) := by decide +kernel
theorem dX3_edge_24 : decode cX3_edge 24 = .ok (.iload_n 2, 1) := by decide +kernel
theorem dX3_edge_25 : decode cX3_edge 25 = .ok (.sipush 999, 3) := by decide +kernel
theorem dX3_edge_28 : decode cX3_edge 28 = .ok (.if_icmp .le 10, 3) := by decide +kernel
theorem dX3_edge_31 : decode cX3_edge 31 = .ok (.aload_n 0, 1) := by decide +kernel
theorem dX3_edge_32 : decode cX3_edge 32 = .ok (.bipush (-6), 2) := by decide +kernel
theorem dX3_edge_34 : decode cX3_edge 34 = .ok (.invokevirtual 48, 3) := by decide +kernel
theorem dX3_edge_37 : decode cX3_edge 37 = .ok (.ireturn, 1) := by decide +kernel
theorem dX3_edge_38 : decode cX3_edge 38 = .ok (.aload_n 0, 1) := by decide +kernel
theorem dX3_edge_39 : decode cX3_edge 39 = .ok (.getfield 19, 3) := by decide +kernel
theorem dX3_edge_42 : decode cX3_edge 42 = .ok (.getfield 60, 3) := by decide +kernel
theorem dX3_edge_45 : decode cX3_edge 45 = .ok (.bipush 20, 2) := by decide +kernel
theorem dX3_edge_47 : decode cX3_edge 47 = .ok (.if_icmp .lt 10, 3) := by decide +kernel
theorem dX3_edge_50 : decode cX3_edge 50 = .ok (.aload_n 0, 1) := by decide +kernel
theorem dX3_edge_51 : decode cX3_edge 51 = .ok (.bipush (-3), 2) := by decide +kernel
theorem dX3_edge_53 : decode cX3_edge 53 = .ok (.invokevirtual 48, 3) := by decide +kernel
theorem dX3_edge_56 : decode cX3_edge 56 = .ok (.ireturn, 1) := by decide +kernel
theorem dX3_edge_57 : decode cX3_edge 57 = .ok (.aload_n 0, 1) := by decide +kernel
theorem dX3_edge_58 : decode cX3_edge 58 = .ok (.invokevirtual 131, 3) := by decide +kernel
theorem dX3_edge_61 : decode cX3_edge 61 = .ok (.pop, 1) := by decide +kernel
theorem dX3_edge_62 : decode cX3_edge 62 = .ok (.aload_n 0, 1) := by decide +kernel
theorem dX3_edge_63 : decode cX3_edge 63 = .ok (.getfield 29, 3) := by decide +kernel
theorem dX3_edge_66 : decode cX3_edge 66 = .ok (.getfield 135, 3) := by decide +kernel
theorem dX3_edge_69 : decode cX3_edge 69 = .ok (.iload_n 1, 1) := by decide +kernel
theorem dX3_edge_70 : decode cX3_edge 70 = .ok (.iaload, 1) := by decide +kernel
theorem dX3_edge_71 : decode cX3_edge 71 = .ok (.istore_n 3, 1) := by decide +kernel
theorem dX3_edge_72 : decode cX3_edge 72 = .ok (.bipush 120, 2) := by decide +kernel
theorem dX3_edge_74 : decode cX3_edge 74 = .ok (.sipush 900, 3) := by decide +kernel
theorem dX3_edge_77 : decode cX3_edge 77 = .ok (.aload_n 0, 1) := by decide +kernel
theorem dX3_edge_78 : decode cX3_edge 78 = .ok (.getfield 19, 3) := by decide +kernel
theorem dX3_edge_81 : decode cX3_edge 81 = .ok (.invokevirtual 148, 3) := by decide +kernel
theorem dX3_edge_84 : decode cX3_edge 84 = .ok (.isub, 1) := by decide +kernel
theorem dX3_edge_85 : decode cX3_edge 85 = .ok (.invokestatic 151, 3) := by decide +kernel
theorem dX3_edge_88 : decode cX3_edge 88 = .ok (.istore 4, 2) := by decide +kernel
theorem dX3_edge_90 : decode cX3_edge 90 = .ok (.iconst 1, 1) := by decide +kernel
theorem dX3_edge_91 : decode cX3_edge 91 = .ok (.istore 5, 2) := by decide +kernel
theorem dX3_edge_93 : decode cX3_edge 93 = .ok (.iload 5, 2) := by decide +kernel
theorem dX3_edge_95 : decode cX3_edge 95 = .ok (.iload 4, 2) := by decide +kernel
theorem dX3_edge_97 : decode cX3_edge 97 = .ok (.if_icmp .gt 51, 3) := by decide +kernel
theorem dX3_edge_100 : decode cX3_edge 100 = .ok (.aload_n 0, 1) := by decide +kernel
theorem dX3_edge_101 : decode cX3_edge 101 = .ok (.getfield 29, 3) := by decide +kernel
theorem dX3_edge_104 : decode cX3_edge 104 = .ok (.aload_n 0, 1) := by decide +kernel
theorem dX3_edge_105 : decode cX3_edge 105 = .ok (.getfield 19, 3) := by decide +kernel
theorem dX3_edge_108 : decode cX3_edge 108 = .ok (.iload_n 1, 1) := by decide +kernel
theorem dX3_edge_109 : decode cX3_edge 109 = .ok (.iconst 1, 1) := by decide +kernel
theorem dX3_edge_110 : decode cX3_edge 110 = .ok (.iload_n 2, 1) := by decide +kernel
theorem dX3_edge_111 : decode cX3_edge 111 = .ok (.invokevirtual 154, 3) := by decide +kernel
theorem dX3_edge_114 : decode cX3_edge 114 = .ok (.aload_n 0, 1) := by decide +kernel
theorem dX3_edge_115 : decode cX3_edge 115 = .ok (.getfield 29, 3) := by decide +kernel
theorem dX3_edge_118 : decode cX3_edge 118 = .ok (.aload_n 0, 1) := by decide +kernel
theorem dX3_edge_119 : decode cX3_edge 119 = .ok (.getfield 19, 3) := by decide +kernel
theorem dX3_edge_122 : decode cX3_edge 122 = .ok (.invokevirtual 158, 3) := by decide +kernel
theorem dX3_edge_125 : decode cX3_edge 125 = .ok (.pop, 1) := by decide +kernel
theorem dX3_edge_126 : decode cX3_edge 126 = .ok (.aload_n 0, 1) := by decide +kernel
theorem dX3_edge_127 : decode cX3_edge 127 = .ok (.getfield 29, 3) := by decide +kernel
theorem dX3_edge_130 : decode cX3_edge 130 = .ok (.getfield 135, 3) := by decide +kernel
theorem dX3_edge_133 : decode cX3_edge 133 = .ok (.iload_n 1, 1) := by decide +kernel
theorem dX3_edge_134 : decode cX3_edge 134 = .ok (.iaload, 1) := by decide +kernel
theorem dX3_edge_135 : decode cX3_edge 135 = .ok (.iload_n 3, 1) := by decide +kernel
theorem dX3_edge_136 : decode cX3_edge 136 = .ok (.if_icmp .le 6, 3) := by decide +kernel
theorem dX3_edge_139 : decode cX3_edge 139 = .ok (.iload 5, 2) := by decide +kernel
theorem dX3_edge_141 : decode cX3_edge 141 = .ok (.ireturn, 1) := by decide +kernel
theorem dX3_edge_142 : decode cX3_edge 142 = .ok (.iinc 5 1, 3) := by decide +kernel
theorem dX3_edge_145 : decode cX3_edge 145 = .ok (.goto (-52), 3) := by decide +kernel
theorem dX3_edge_148 : decode cX3_edge 148 = .ok (.bipush (-9), 2) := by decide +kernel
theorem dX3_edge_150 : decode cX3_edge 150 = .ok (.ireturn, 1) := by decide +kernel
theorem hd_X3_edge : yX3_edge.cls ≠ "java/lang/invoke/MethodHandle" ∧ yX3_edge.cls ≠ "java/lang/invoke/VarHandle" ∧ (parseMethodDescriptor yX3_edge.desc).map (fun d => d.parameters.length) = some 2 := by decide +kernel
def f_X3_edge_L93 : Nat → Int32 → Int32 → Int32 → Int32 → Int32 → vS → Option (vS ⊕ (Int32 × vS))
  | 0, _, _, _, _, _, _ => none
  | n + 1, x1, x2, x3, x4, x5, S => if x4 < x5 then some (.inl S) else b1 (f_X1_addBench x1 (1 : Int32) x2 S) fun S17 => b2 (f_X1_settle  S17) fun r20 S19 => if inb x1 6 = true then if (S19 31 (x1.toNatClampNeg)) ≤ x3 then (f_X3_edge_L93 n) x1 x2 x3 x4 (x5 + 1) S19 else some (.inr (x5, S19)) else none
def f_X3_edge (a1 : Int32) (a2 : Int32) (S : vS) : Option (Int32 × vS) := b1 (f_X3_isLand a1 S) fun r2 => if r2 = 0 then b2 (f_X3_refuse (-1 : Int32) S) fun r36 S35 => some (r36, S35) else if 0 ≤ a2 then if a2 ≤ (999 : Int32) then if (S 0 12) < (20 : Int32) then b2 (f_X3_owedByAll  S) fun r9 S8 => if inb a1 6 = true then lt ((S8 31 (a1.toNatClampNeg))) fun v11 => b1 (f_X0_behind  S8) fun r13 => lt ((mn (120 : Int32) ((900 : Int32) - r13))) fun v14 => bS (f_X3_edge_L93 FU a1 a2 v11 v14 (1 : Int32) S8) some fun S23 => some ((-9 : Int32), S23) else none else b2 (f_X3_refuse (-3 : Int32) S) fun r27 S26 => some (r27, S26) else b2 (f_X3_refuse (-6 : Int32) S) fun r30 S29 => some (r30, S29) else b2 (f_X3_refuse (-4 : Int32) S) fun r33 S32 => some (r33, S32)
set_option maxHeartbeats 4000000 in
set_option maxRecDepth 20000 in
theorem c_X3_edge (l : Launch) (D : va_G) (cI cO : ClassId) (ad : Nat → Nat) (a1 : Int32) (a2 : Int32) (S : vS) (R9 : Int32) (S9 : vS) (hf : f_X3_edge a1 a2 S = some (R9, S9)) : CI l yX3_edge cX3_edge 6 .int ({ frames := 6, cells := 0, slots := 0, locals := 133 }) [.ref (ad 0), .int a1, .int a2] D cI cO ad S R9 S9 := by
  refine CI.of (by decide +kernel) (Nat.le_of_ble_eq_true rfl) (fun p e s m args below meth c Q ls X hl hw hfin => ?_)
  have hl : lv_has ls 6 [(0, .ref (ad 0)), (1, .int a1), (2, .int a2)] := hl
  have hx := X.1
  have hb := X.2.1
  have L93 : ∀ (n : Nat) (x1 : Int32) (x2 : Int32) (x3 : Int32) (x4 : Int32) (x5 : Int32) (S : vS) (res : (vS ⊕ (Int32 × vS))), f_X3_edge_L93 n x1 x2 x3 x4 x5 S = some res → (K : ∀  (S2 : vS), some (Sum.inl S2) = some res → ∀ (H : Heap) (locs : List Loc) (ls : Array Slot), WD D cI cO ad s S2 H locs → lv_has ls 6 [] → W p l e ({ frames := 6, cells := 0, slots := 0, locals := 133 }) s m args below meth c H locs 0 0 Q (F0 m 148 ls [])) → (K2 : ∀ q : (Int32 × vS), some (Sum.inr q) = some res → some q = some (R9, S9)) → ∀ (H : Heap) (locs : List Loc) (ls : Array Slot), WD D cI cO ad s S H locs → lv_has ls 6 [(0, .ref (ad 0)), (1, .int x1), (2, .int x2), (3, .int x3), (4, .int x4), (5, .int x5)] → W p l e ({ frames := 6, cells := 0, slots := 0, locals := 133 }) s m args below meth c H locs 0 0 Q (F0 m 93 ls []) := by
    intro n
    induction n with
    | zero => intro x1 x2 x3 x4 x5 S res hf; cases hf
    | succ n ih =>
      intro x1 x2 x3 x4 x5 S res hf K K2 H locs ls hw hl
      unfold f_X3_edge_L93 at hf
      refine lv_iload hx hb dX3_edge_93 (lv_at hl 5 rfl) ?_
      refine lv_iload hx hb dX3_edge_95 (lv_at hl 4 rfl) ?_
      refine lv_icmp_gt (tgt := 148) hx hb dX3_edge_97 (by decide) (fun c15 => ?_) (fun c15 => ?_)
      · replace hf := if_t c15 hf
        exact K S hf _ _ _ hw (lv_sub hl [] rfl)
      · replace hf := if_f c15 hf
        refine lv_aload_n hx hb dX3_edge_100 rfl (lv_at hl 0 rfl) ?_
        refine x_get X hw 0 (Nat.le_of_ble_eq_true rfl) ce0 rfl i_X3 3 (by decide) q185 ⟨rfl, rfl, rfl⟩ rfl dX3_edge_101 ?_
        refine lv_aload_n hx hb dX3_edge_104 rfl (lv_at hl 0 rfl) ?_
        refine x_get X hw 0 (Nat.le_of_ble_eq_true rfl) ce0 rfl i_X3 1 (by decide) q183 ⟨rfl, rfl, rfl⟩ rfl dX3_edge_105 ?_
        refine lv_iload_n hx hb dX3_edge_108 rfl (lv_at hl 1 rfl) ?_
        refine lv_iconst (v := 1) hx hb dX3_edge_109 (by decide) ?_
        refine lv_iload_n hx hb dX3_edge_110 rfl (lv_at hl 2 rfl) ?_
        obtain ⟨S17, h16, hf⟩ := b1_s hf
        refine kNv X hw (c_X1_addBench l D cI cO ad x1 (1 : Int32) x2 S S17 h16) (Nat.le_of_ble_eq_true rfl) ce4 rfl ⟨rfl, rfl⟩ q515 q517 q27 q63 q518 hd_X1_addBench ⟨Nat.le_of_ble_eq_true rfl, Nat.le_of_ble_eq_true rfl⟩ rfl hl.1 rfl (Nat.le_of_ble_eq_true rfl) dX3_edge_111 (fun H locs hw => ?_)
        refine lv_aload_n hx hb dX3_edge_114 rfl (lv_at hl 0 rfl) ?_
        refine x_get X hw 0 (Nat.le_of_ble_eq_true rfl) ce0 rfl i_X3 3 (by decide) q185 ⟨rfl, rfl, rfl⟩ rfl dX3_edge_115 ?_
        refine lv_aload_n hx hb dX3_edge_118 rfl (lv_at hl 0 rfl) ?_
        refine x_get X hw 0 (Nat.le_of_ble_eq_true rfl) ce0 rfl i_X3 1 (by decide) q183 ⟨rfl, rfl, rfl⟩ rfl dX3_edge_119 ?_
        obtain ⟨r20, S19, h18, hf⟩ := b2_s hf
        refine kNi X hw (c_X1_settle l D cI cO ad  S17 r20 S19 h18) (Nat.le_of_ble_eq_true rfl) ce4 rfl ⟨rfl, rfl⟩ q463 q465 q22 q63 q466 hd_X1_settle ⟨Nat.le_of_ble_eq_true rfl, Nat.le_of_ble_eq_true rfl⟩ rfl hl.1 rfl (Nat.le_of_ble_eq_true rfl) dX3_edge_122 (fun H locs hw => ?_)
        refine lv_pop hx hb dX3_edge_125 rfl ?_
        refine lv_aload_n hx hb dX3_edge_126 rfl (lv_at hl 0 rfl) ?_
        refine x_get X hw 0 (Nat.le_of_ble_eq_true rfl) ce0 rfl i_X3 3 (by decide) q185 ⟨rfl, rfl, rfl⟩ rfl dX3_edge_127 ?_
        refine x_getN X hw 4 (Nat.le_of_ble_eq_true rfl) ce4 rfl i_X1 6 (by decide) q154 ⟨rfl, rfl, rfl⟩ rfl dX3_edge_130 ?_
        refine lv_iload_n hx hb dX3_edge_133 rfl (lv_at hl 1 rfl) ?_
        obtain ⟨h21, hf⟩ := if_s hf
        refine x_iald X hw 31 ⟨Nat.le_of_ble_eq_true rfl, Nat.le_of_ble_eq_true rfl⟩ rfl h21 (x1.toNatClampNeg) rfl dX3_edge_134 ?_
        refine lv_iload_n hx hb dX3_edge_135 rfl (lv_at hl 3 rfl) ?_
        refine lv_icmp_le (tgt := 142) hx hb dX3_edge_136 (by decide) (fun c22 => ?_) (fun c22 => ?_)
        · replace hf := if_t c22 hf
          refine lv_iinc (v := (x5 + 1)) (lv' := [(5, .int (x5 + 1)), (0, .ref (ad 0)), (1, .int x1), (2, .int x2), (3, .int x3), (4, .int x4)]) hx hb dX3_edge_142 hl (k := 5) rfl rfl (by decide) rfl (fun ls hl => ?_)
          refine lv_goto (tgt := 93) hx hb dX3_edge_145 (by decide) ?_
          exact ih x1 x2 x3 x4 (x5 + 1) S19 _ hf K K2 _ _ _ hw (lv_sub hl [1, 2, 3, 4, 5, 0] rfl)
        · replace hf := if_f c22 hf
          refine lv_iload hx hb dX3_edge_139 (lv_at hl 5 rfl) ?_
          replace hf := K2 _ hf
          exact hfin _ _ _ _ _ _ hw (s2a hf) (s2b hf) (narI _) dX3_edge_141
  unfold f_X3_edge at hf
  refine lv_iload_n hx hb dX3_edge_0 rfl (lv_at hl 1 rfl) ?_
  obtain ⟨r2, h1, hf⟩ := b1_s hf
  refine kSi X hw (c_X3_isLand l D cI cO ad a1 S r2 h1) ⟨rfl, rfl⟩ q345 q346 q59 q347 hd_X3_isLand ⟨Nat.le_of_ble_eq_true rfl, Nat.le_of_ble_eq_true rfl⟩ rfl hl.1 rfl (Nat.le_of_ble_eq_true rfl) dX3_edge_1 (fun H locs hw => ?_)
  refine lv_if_ne (tgt := 13) hx hb dX3_edge_4 (by decide) (fun c3 => ?_) (fun c3 => ?_)
  · replace hf := if_f c3 hf
    refine lv_iload_n hx hb dX3_edge_13 rfl (lv_at hl 2 rfl) ?_
    refine lv_if_ge (tgt := 24) hx hb dX3_edge_14 (by decide) (fun c4 => ?_) (fun c4 => ?_)
    · replace hf := if_t c4 hf
      refine lv_iload_n hx hb dX3_edge_24 rfl (lv_at hl 2 rfl) ?_
      refine lv_sipush (v := 999) hx hb dX3_edge_25 (by decide +kernel) ?_
      refine lv_icmp_le (tgt := 38) hx hb dX3_edge_28 (by decide) (fun c5 => ?_) (fun c5 => ?_)
      · replace hf := if_t c5 hf
        refine lv_aload_n hx hb dX3_edge_38 rfl (lv_at hl 0 rfl) ?_
        refine x_get X hw 0 (Nat.le_of_ble_eq_true rfl) ce0 rfl i_X3 1 (by decide) q183 ⟨rfl, rfl, rfl⟩ rfl dX3_edge_39 ?_
        refine x_getN X hw 2 (Nat.le_of_ble_eq_true rfl) ce2 rfl i_X0 4 (by decide) q125 ⟨rfl, rfl, rfl⟩ rfl dX3_edge_42 ?_
        refine lv_bipush (v := 20) hx hb dX3_edge_45 (by decide +kernel) ?_
        refine lv_icmp_lt (tgt := 57) hx hb dX3_edge_47 (by decide) (fun c6 => ?_) (fun c6 => ?_)
        · replace hf := if_t c6 hf
          refine lv_aload_n hx hb dX3_edge_57 rfl (lv_at hl 0 rfl) ?_
          obtain ⟨r9, S8, h7, hf⟩ := b2_s hf
          refine kVi X hw (c_X3_owedByAll l D cI cO ad  S r9 S8 h7) (Nat.le_of_ble_eq_true rfl) ce0 rfl ⟨rfl, rfl⟩ q459 q461 q21 q59 q462 hd_X3_owedByAll ⟨Nat.le_of_ble_eq_true rfl, Nat.le_of_ble_eq_true rfl⟩ rfl hl.1 rfl (Nat.le_of_ble_eq_true rfl) dX3_edge_58 (fun H locs hw => ?_)
          refine lv_pop hx hb dX3_edge_61 rfl ?_
          refine lv_aload_n hx hb dX3_edge_62 rfl (lv_at hl 0 rfl) ?_
          refine x_get X hw 0 (Nat.le_of_ble_eq_true rfl) ce0 rfl i_X3 3 (by decide) q185 ⟨rfl, rfl, rfl⟩ rfl dX3_edge_63 ?_
          refine x_getN X hw 4 (Nat.le_of_ble_eq_true rfl) ce4 rfl i_X1 6 (by decide) q154 ⟨rfl, rfl, rfl⟩ rfl dX3_edge_66 ?_
          refine lv_iload_n hx hb dX3_edge_69 rfl (lv_at hl 1 rfl) ?_
          obtain ⟨h10, hf⟩ := if_s hf
          refine x_iald X hw 31 ⟨Nat.le_of_ble_eq_true rfl, Nat.le_of_ble_eq_true rfl⟩ rfl h10 (a1.toNatClampNeg) rfl dX3_edge_70 ?_
          refine lv_topi (fun v11 ev11 => ?_)
          replace hf := lt_e ev11 hf
          refine lv_istore_n (lv' := [(3, .int v11), (0, .ref (ad 0)), (1, .int a1), (2, .int a2)]) hx hb dX3_edge_71 rfl hl (by decide) rfl (fun ls hl => ?_)
          refine lv_bipush (v := 120) hx hb dX3_edge_72 (by decide +kernel) ?_
          refine lv_sipush (v := 900) hx hb dX3_edge_74 (by decide +kernel) ?_
          refine lv_aload_n hx hb dX3_edge_77 rfl (lv_at hl 1 rfl) ?_
          refine x_get X hw 0 (Nat.le_of_ble_eq_true rfl) ce0 rfl i_X3 1 (by decide) q183 ⟨rfl, rfl, rfl⟩ rfl dX3_edge_78 ?_
          obtain ⟨r13, h12, hf⟩ := b1_s hf
          refine kNi X hw (c_X0_behind l D cI cO ad  S8 r13 h12) (Nat.le_of_ble_eq_true rfl) ce2 rfl ⟨rfl, rfl⟩ q510 q512 q26 q61 q513 hd_X0_behind ⟨Nat.le_of_ble_eq_true rfl, Nat.le_of_ble_eq_true rfl⟩ rfl hl.1 rfl (Nat.le_of_ble_eq_true rfl) dX3_edge_81 (fun H locs hw => ?_)
          refine lv_isub hx hb dX3_edge_84 ?_
          refine x_min X hl.1 q514 q261 q67 q262 (Nat.le_of_ble_eq_true rfl) (Nat.le_of_ble_eq_true rfl) dX3_edge_85 ?_
          refine lv_topi (fun v14 ev14 => ?_)
          replace hf := lt_e ev14 hf
          refine lv_istore (lv' := [(4, .int v14), (3, .int v11), (0, .ref (ad 0)), (1, .int a1), (2, .int a2)]) hx hb dX3_edge_88 hl (by decide) rfl (fun ls hl => ?_)
          refine lv_iconst (v := 1) hx hb dX3_edge_90 (by decide) ?_
          refine lv_istore (lv' := [(5, .int (1 : Int32)), (4, .int v14), (3, .int v11), (0, .ref (ad 0)), (1, .int a1), (2, .int a2)]) hx hb dX3_edge_91 hl (by decide) rfl (fun ls hl => ?_)
          obtain ⟨res, h24, hk1, hk2⟩ := bS_x hf
          refine L93 FU a1 a2 v11 v14 (1 : Int32) S8 res h24 (fun S23 eK H locs ls hw hl => ?_) (fun q eK => hk2 q (Option.some.inj eK).symm) _ _ _ hw (lv_sub hl [3, 4, 5, 2, 1, 0] rfl)
          replace hf := hk1 _ (Option.some.inj eK).symm
          refine lv_bipush (v := -9) hx hb dX3_edge_148 (by decide +kernel) ?_
          exact hfin _ _ _ _ _ _ hw (s2a hf) (s2b hf) (narI _) dX3_edge_150
        · replace hf := if_f c6 hf
          refine lv_aload_n hx hb dX3_edge_50 rfl (lv_at hl 0 rfl) ?_
          refine lv_bipush (v := -3) hx hb dX3_edge_51 (by decide +kernel) ?_
          obtain ⟨r27, S26, h25, hf⟩ := b2_s hf
          refine kVi X hw (c_X3_refuse l D cI cO ad (-3 : Int32) S r27 S26 h25) (Nat.le_of_ble_eq_true rfl) ce0 rfl ⟨rfl, rfl⟩ q211 q213 q0 q59 q214 hd_X3_refuse ⟨Nat.le_of_ble_eq_true rfl, Nat.le_of_ble_eq_true rfl⟩ rfl hl.1 rfl (Nat.le_of_ble_eq_true rfl) dX3_edge_53 (fun H locs hw => ?_)
          exact hfin _ _ _ _ _ _ hw (s2a hf) (s2b hf) (narI _) dX3_edge_56
      · replace hf := if_f c5 hf
        refine lv_aload_n hx hb dX3_edge_31 rfl (lv_at hl 0 rfl) ?_
        refine lv_bipush (v := -6) hx hb dX3_edge_32 (by decide +kernel) ?_
        obtain ⟨r30, S29, h28, hf⟩ := b2_s hf
        refine kVi X hw (c_X3_refuse l D cI cO ad (-6 : Int32) S r30 S29 h28) (Nat.le_of_ble_eq_true rfl) ce0 rfl ⟨rfl, rfl⟩ q211 q213 q0 q59 q214 hd_X3_refuse ⟨Nat.le_of_ble_eq_true rfl, Nat.le_of_ble_eq_true rfl⟩ rfl hl.1 rfl (Nat.le_of_ble_eq_true rfl) dX3_edge_34 (fun H locs hw => ?_)
        exact hfin _ _ _ _ _ _ hw (s2a hf) (s2b hf) (narI _) dX3_edge_37
    · replace hf := if_f c4 hf
      refine lv_aload_n hx hb dX3_edge_17 rfl (lv_at hl 0 rfl) ?_
      refine lv_bipush (v := -4) hx hb dX3_edge_18 (by decide +kernel) ?_
      obtain ⟨r33, S32, h31, hf⟩ := b2_s hf
      refine kVi X hw (c_X3_refuse l D cI cO ad (-4 : Int32) S r33 S32 h31) (Nat.le_of_ble_eq_true rfl) ce0 rfl ⟨rfl, rfl⟩ q211 q213 q0 q59 q214 hd_X3_refuse ⟨Nat.le_of_ble_eq_true rfl, Nat.le_of_ble_eq_true rfl⟩ rfl hl.1 rfl (Nat.le_of_ble_eq_true rfl) dX3_edge_20 (fun H locs hw => ?_)
      exact hfin _ _ _ _ _ _ hw (s2a hf) (s2b hf) (narI _) dX3_edge_23
  · replace hf := if_t c3 hf
    refine lv_aload_n hx hb dX3_edge_7 rfl (lv_at hl 0 rfl) ?_
    refine lv_iconst (v := -1) hx hb dX3_edge_8 (by decide) ?_
    obtain ⟨r36, S35, h34, hf⟩ := b2_s hf
    refine kVi X hw (c_X3_refuse l D cI cO ad (-1 : Int32) S r36 S35 h34) (Nat.le_of_ble_eq_true rfl) ce0 rfl ⟨rfl, rfl⟩ q211 q213 q0 q59 q214 hd_X3_refuse ⟨Nat.le_of_ble_eq_true rfl, Nat.le_of_ble_eq_true rfl⟩ rfl hl.1 rfl (Nat.le_of_ble_eq_true rfl) dX3_edge_9 (fun H locs hw => ?_)
    exact hfin _ _ _ _ _ _ hw (s2a hf) (s2b hf) (narI _) dX3_edge_12
/-- NineLands.hangs()I -/
theorem dX3_hangs_0 : decode cX3_hangs 0 = .ok (.aload_n 0, 1) := by decide +kernel
theorem dX3_hangs_1 : decode cX3_hangs 1 = .ok (.invokevirtual 131, 3) := by decide +kernel
theorem dX3_hangs_4 : decode cX3_hangs 4 = .ok (.istore_n 1, 1) := by decide +kernel
theorem dX3_hangs_5 : decode cX3_hangs 5 = .ok (.bipush (-9), 2) := by decide +kernel
theorem dX3_hangs_7 : decode cX3_hangs 7 = .ok (.istore_n 2, 1) := by decide +kernel
theorem dX3_hangs_8 : decode cX3_hangs 8 = .ok (.iconst 0, 1) := by decide +kernel
theorem dX3_hangs_9 : decode cX3_hangs 9 = .ok (.istore_n 3, 1) := by decide +kernel
theorem dX3_hangs_10 : decode cX3_hangs 10 = .ok (.iload_n 3, 1) := by decide +kernel
theorem dX3_hangs_11 : decode cX3_hangs 11 = .ok (.aload_n 0, 1) := by decide +kernel
theorem dX3_hangs_12 : decode cX3_hangs 12 = .ok (.getfield 19, 3) := by decide +kernel
theorem dX3_hangs_15 : decode cX3_hangs 15 = .ok (.getfield 60, 3) := by decide +kernel
theorem dX3_hangs_18 : decode cX3_hangs 18 = .ok (.if_icmp .ge 28, 3) := by decide +kernel
theorem dX3_hangs_21 : decode cX3_hangs 21 = .ok (.aload_n 0, 1) := by decide +kernel
theorem dX3_hangs_22 : decode cX3_hangs 22 = .ok (.iload_n 3, 1) := by decide +kernel
theorem dX3_hangs_23 : decode cX3_hangs 23 = .ok (.iconst 0, 1) := by decide +kernel
theorem dX3_hangs_24 : decode cX3_hangs 24 = .ok (.invokevirtual 162, 3) := by decide +kernel
theorem dX3_hangs_27 : decode cX3_hangs 27 = .ok (.istore 4, 2) := by decide +kernel
theorem dX3_hangs_29 : decode cX3_hangs 29 = .ok (.iload 4, 2) := by decide +kernel
theorem dX3_hangs_31 : decode cX3_hangs 31 = .ok (.iload_n 1, 1) := by decide +kernel
theorem dX3_hangs_32 : decode cX3_hangs 32 = .ok (.if_icmp .ge 8, 3) := by decide +kernel
theorem dX3_hangs_35 : decode cX3_hangs 35 = .ok (.iload 4, 2) := by decide +kernel
theorem dX3_hangs_37 : decode cX3_hangs 37 = .ok (.istore_n 1, 1) := by decide +kernel
theorem dX3_hangs_38 : decode cX3_hangs 38 = .ok (.iload_n 3, 1) := by decide +kernel
theorem dX3_hangs_39 : decode cX3_hangs 39 = .ok (.istore_n 2, 1) := by decide +kernel
theorem dX3_hangs_40 : decode cX3_hangs 40 = .ok (.iinc 3 1, 3) := by decide +kernel
theorem dX3_hangs_43 : decode cX3_hangs 43 = .ok (.goto (-33), 3) := by decide +kernel
theorem dX3_hangs_46 : decode cX3_hangs 46 = .ok (.iload_n 2, 1) := by decide +kernel
theorem dX3_hangs_47 : decode cX3_hangs 47 = .ok (.ireturn, 1) := by decide +kernel
theorem hd_X3_hangs : yX3_hangs.cls ≠ "java/lang/invoke/MethodHandle" ∧ yX3_hangs.cls ≠ "java/lang/invoke/VarHandle" ∧ (parseMethodDescriptor yX3_hangs.desc).map (fun d => d.parameters.length) = some 0 := by decide +kernel
def f_X3_hangs_L10 : Nat → Int32 → Int32 → Int32 → vS → Option (Int32 × vS)
  | 0, _, _, _, _ => none
  | n + 1, x1, x2, x3, S => if (S 0 12) ≤ x3 then some (x2, S) else b2 (f_X3_owedByAllIf x3 (0 : Int32) S) fun r7 S6 => if x1 ≤ r7 then (f_X3_hangs_L10 n) x1 x2 (x3 + 1) S6 else (f_X3_hangs_L10 n) r7 x3 (x3 + 1) S6
def f_X3_hangs  (S : vS) : Option (Int32 × vS) := b2 (f_X3_owedByAll  S) fun r3 S2 => b2 (f_X3_hangs_L10 FU r3 (-9 : Int32) (0 : Int32) S2) fun y9 S10 => some (y9, S10)
set_option maxHeartbeats 4000000 in
set_option maxRecDepth 20000 in
theorem c_X3_hangs (l : Launch) (D : va_G) (cI cO : ClassId) (ad : Nat → Nat)  (S : vS) (R9 : Int32) (S9 : vS) (hf : f_X3_hangs  S = some (R9, S9)) : CI l yX3_hangs cX3_hangs 5 .int ({ frames := 7, cells := 0, slots := 0, locals := 157 }) [.ref (ad 0)] D cI cO ad S R9 S9 := by
  refine CI.of (by decide +kernel) (Nat.le_of_ble_eq_true rfl) (fun p e s m args below meth c Q ls X hl hw hfin => ?_)
  have hl : lv_has ls 5 [(0, .ref (ad 0))] := hl
  have hx := X.1
  have hb := X.2.1
  have L10 : ∀ (n : Nat) (x1 : Int32) (x2 : Int32) (x3 : Int32) (S : vS) (res : (Int32 × vS)), f_X3_hangs_L10 n x1 x2 x3 S = some res → (K : ∀ (y2 : Int32) (S2 : vS), some (y2, S2) = some res → ∀ (H : Heap) (locs : List Loc) (ls : Array Slot), WD D cI cO ad s S2 H locs → lv_has ls 5 [(2, .int y2)] → W p l e ({ frames := 7, cells := 0, slots := 0, locals := 157 }) s m args below meth c H locs 0 0 Q (F0 m 46 ls [])) → ∀ (H : Heap) (locs : List Loc) (ls : Array Slot), WD D cI cO ad s S H locs → lv_has ls 5 [(0, .ref (ad 0)), (1, .int x1), (2, .int x2), (3, .int x3)] → W p l e ({ frames := 7, cells := 0, slots := 0, locals := 157 }) s m args below meth c H locs 0 0 Q (F0 m 10 ls []) := by
    intro n
    induction n with
    | zero => intro x1 x2 x3 S res hf; cases hf
    | succ n ih =>
      intro x1 x2 x3 S res hf K H locs ls hw hl
      unfold f_X3_hangs_L10 at hf
      refine lv_iload_n hx hb dX3_hangs_10 rfl (lv_at hl 3 rfl) ?_
      refine lv_aload_n hx hb dX3_hangs_11 rfl (lv_at hl 0 rfl) ?_
      refine x_get X hw 0 (Nat.le_of_ble_eq_true rfl) ce0 rfl i_X3 1 (by decide) q183 ⟨rfl, rfl, rfl⟩ rfl dX3_hangs_12 ?_
      refine x_getN X hw 2 (Nat.le_of_ble_eq_true rfl) ce2 rfl i_X0 4 (by decide) q125 ⟨rfl, rfl, rfl⟩ rfl dX3_hangs_15 ?_
      refine lv_icmp_ge (tgt := 46) hx hb dX3_hangs_18 (by decide) (fun c4 => ?_) (fun c4 => ?_)
      · replace hf := if_t c4 hf
        exact K x2 S hf _ _ _ hw (lv_sub hl [2] rfl)
      · replace hf := if_f c4 hf
        refine lv_aload_n hx hb dX3_hangs_21 rfl (lv_at hl 0 rfl) ?_
        refine lv_iload_n hx hb dX3_hangs_22 rfl (lv_at hl 3 rfl) ?_
        refine lv_iconst (v := 0) hx hb dX3_hangs_23 (by decide) ?_
        obtain ⟨r7, S6, h5, hf⟩ := b2_s hf
        refine kVi X hw (c_X3_owedByAllIf l D cI cO ad x3 (0 : Int32) S r7 S6 h5) (Nat.le_of_ble_eq_true rfl) ce0 rfl ⟨rfl, rfl⟩ q524 q526 q28 q59 q527 hd_X3_owedByAllIf ⟨Nat.le_of_ble_eq_true rfl, Nat.le_of_ble_eq_true rfl⟩ rfl hl.1 rfl (Nat.le_of_ble_eq_true rfl) dX3_hangs_24 (fun H locs hw => ?_)
        refine lv_istore (lv' := [(4, .int r7), (0, .ref (ad 0)), (1, .int x1), (2, .int x2), (3, .int x3)]) hx hb dX3_hangs_27 hl (by decide) rfl (fun ls hl => ?_)
        refine lv_iload hx hb dX3_hangs_29 (lv_at hl 0 rfl) ?_
        refine lv_iload_n hx hb dX3_hangs_31 rfl (lv_at hl 2 rfl) ?_
        refine lv_icmp_ge (tgt := 40) hx hb dX3_hangs_32 (by decide) (fun c8 => ?_) (fun c8 => ?_)
        · replace hf := if_t c8 hf
          refine lv_iinc (v := (x3 + 1)) (lv' := [(3, .int (x3 + 1)), (4, .int r7), (0, .ref (ad 0)), (1, .int x1), (2, .int x2)]) hx hb dX3_hangs_40 hl (k := 4) rfl rfl (by decide) rfl (fun ls hl => ?_)
          refine lv_goto (tgt := 10) hx hb dX3_hangs_43 (by decide) ?_
          exact ih x1 x2 (x3 + 1) S6 _ hf K _ _ _ hw (lv_sub hl [2, 3, 4, 0] rfl)
        · replace hf := if_f c8 hf
          refine lv_iload hx hb dX3_hangs_35 (lv_at hl 0 rfl) ?_
          refine lv_istore_n (lv' := [(1, .int r7), (4, .int r7), (0, .ref (ad 0)), (2, .int x2), (3, .int x3)]) hx hb dX3_hangs_37 rfl hl (by decide) rfl (fun ls hl => ?_)
          refine lv_iload_n hx hb dX3_hangs_38 rfl (lv_at hl 4 rfl) ?_
          refine lv_istore_n (lv' := [(2, .int x3), (1, .int r7), (4, .int r7), (0, .ref (ad 0)), (3, .int x3)]) hx hb dX3_hangs_39 rfl hl (by decide) rfl (fun ls hl => ?_)
          refine lv_iinc (v := (x3 + 1)) (lv' := [(3, .int (x3 + 1)), (2, .int x3), (1, .int r7), (4, .int r7), (0, .ref (ad 0))]) hx hb dX3_hangs_40 hl (k := 4) rfl rfl (by decide) rfl (fun ls hl => ?_)
          refine lv_goto (tgt := 10) hx hb dX3_hangs_43 (by decide) ?_
          exact ih r7 x3 (x3 + 1) S6 _ hf K _ _ _ hw (lv_sub hl [4, 2, 1, 0] rfl)
  unfold f_X3_hangs at hf
  refine lv_aload_n hx hb dX3_hangs_0 rfl (lv_at hl 0 rfl) ?_
  obtain ⟨r3, S2, h1, hf⟩ := b2_s hf
  refine kVi X hw (c_X3_owedByAll l D cI cO ad  S r3 S2 h1) (Nat.le_of_ble_eq_true rfl) ce0 rfl ⟨rfl, rfl⟩ q459 q461 q21 q59 q462 hd_X3_owedByAll ⟨Nat.le_of_ble_eq_true rfl, Nat.le_of_ble_eq_true rfl⟩ rfl hl.1 rfl (Nat.le_of_ble_eq_true rfl) dX3_hangs_1 (fun H locs hw => ?_)
  refine lv_istore_n (lv' := [(1, .int r3), (0, .ref (ad 0))]) hx hb dX3_hangs_4 rfl hl (by decide) rfl (fun ls hl => ?_)
  refine lv_bipush (v := -9) hx hb dX3_hangs_5 (by decide +kernel) ?_
  refine lv_istore_n (lv' := [(2, .int (-9 : Int32)), (1, .int r3), (0, .ref (ad 0))]) hx hb dX3_hangs_7 rfl hl (by decide) rfl (fun ls hl => ?_)
  refine lv_iconst (v := 0) hx hb dX3_hangs_8 (by decide) ?_
  refine lv_istore_n (lv' := [(3, .int (0 : Int32)), (2, .int (-9 : Int32)), (1, .int r3), (0, .ref (ad 0))]) hx hb dX3_hangs_9 rfl hl (by decide) rfl (fun ls hl => ?_)
  obtain ⟨y9, S10, h11, hf⟩ := b2_s hf
  refine L10 FU r3 (-9 : Int32) (0 : Int32) S2 _ h11 (fun y9' S10' eK H locs ls hw hl => ?_) _ _ _ hw (lv_sub hl [3, 2, 1, 0] rfl)
  cases eK
  refine lv_iload_n hx hb dX3_hangs_46 rfl (lv_at hl 0 rfl) ?_
  exact hfin _ _ _ _ _ _ hw (s2a hf) (s2b hf) (narI _) dX3_hangs_47
/-- NineLands.year(II)I -/
theorem dX3_year_0 : decode cX3_year 0 = .ok (.iload_n 2, 1) := by decide +kernel
theorem dX3_year_1 : decode cX3_year 1 = .ok (.ifCond .lt 8, 3) := by decide +kernel
theorem dX3_year_4 : decode cX3_year 4 = .ok (.iload_n 2, 1) := by decide +kernel
theorem dX3_year_5 : decode cX3_year 5 = .ok (.iconst 1, 1) := by decide +kernel
theorem dX3_year_6 : decode cX3_year 6 = .ok (.if_icmp .le 10, 3) := by decide +kernel
theorem dX3_year_9 : decode cX3_year 9 = .ok (.aload_n 0, 1) := by decide +kernel
theorem dX3_year_10 : decode cX3_year 10 = .ok (.bipush (-2), 2) := by decide +kernel
theorem dX3_year_12 : decode cX3_year 12 = .ok (.invokevirtual 165, 3) := by decide +kernel
theorem dX3_year_15 : decode cX3_year 15 = .ok (.ireturn, 1) := by decide +kernel
theorem dX3_year_16 : decode cX3_year 16 = .ok (.iload_n 1, 1) := by decide +kernel
theorem dX3_year_17 : decode cX3_year 17 = .ok (.ifCond .ge 10, 3) := by decide +kernel
theorem dX3_year_20 : decode cX3_year 20 = .ok (.aload_n 0, 1) := by decide +kernel
theorem dX3_year_21 : decode cX3_year 21 = .ok (.bipush (-4), 2) := by decide +kernel
theorem dX3_year_23 : decode cX3_year 23 = .ok (.invokevirtual 165, 3) := by decide +kernel
theorem dX3_year_26 : decode cX3_year 26 = .ok (.ireturn, 1) := by decide +kernel
theorem dX3_year_27 : decode cX3_year 27 = .ok (.iload_n 1, 1) := by decide +kernel
theorem dX3_year_28 : decode cX3_year 28 = .ok (.sipush 999, 3) := by decide +kernel
theorem dX3_year_31 : decode cX3_year 31 = .ok (.if_icmp .le 10, 3) := by decide +kernel
theorem dX3_year_34 : decode cX3_year 34 = .ok (.aload_n 0, 1) := by decide +kernel
theorem dX3_year_35 : decode cX3_year 35 = .ok (.bipush (-6), 2) := by decide +kernel
theorem dX3_year_37 : decode cX3_year 37 = .ok (.invokevirtual 165, 3) := by decide +kernel
theorem dX3_year_40 : decode cX3_year 40 = .ok (.ireturn, 1) := by decide +kernel
theorem dX3_year_41 : decode cX3_year 41 = .ok (.aload_n 0, 1) := by decide +kernel
theorem dX3_year_42 : decode cX3_year 42 = .ok (.getfield 19, 3) := by decide +kernel
theorem dX3_year_45 : decode cX3_year 45 = .ok (.getfield 60, 3) := by decide +kernel
theorem dX3_year_48 : decode cX3_year 48 = .ok (.bipush 20, 2) := by decide +kernel
theorem dX3_year_50 : decode cX3_year 50 = .ok (.if_icmp .ge 16, 3) := by decide +kernel
theorem dX3_year_53 : decode cX3_year 53 = .ok (.aload_n 0, 1) := by decide +kernel
theorem dX3_year_54 : decode cX3_year 54 = .ok (.getfield 19, 3) := by decide +kernel
theorem dX3_year_57 : decode cX3_year 57 = .ok (.invokevirtual 148, 3) := by decide +kernel
theorem dX3_year_60 : decode cX3_year 60 = .ok (.sipush 900, 3) := by decide +kernel
theorem dX3_year_63 : decode cX3_year 63 = .ok (.if_icmp .lt 10, 3) := by decide +kernel
theorem dX3_year_66 : decode cX3_year 66 = .ok (.aload_n 0, 1) := by decide +kernel
theorem dX3_year_67 : decode cX3_year 67 = .ok (.bipush (-3), 2) := by decide +kernel
theorem dX3_year_69 : decode cX3_year 69 = .ok (.invokevirtual 165, 3) := by decide +kernel
theorem dX3_year_72 : decode cX3_year 72 = .ok (.ireturn, 1) := by decide +kernel
theorem dX3_year_73 : decode cX3_year 73 = .ok (.aload_n 0, 1) := by decide +kernel
theorem dX3_year_74 : decode cX3_year 74 = .ok (.invokevirtual 131, 3) := by decide +kernel
theorem dX3_year_77 : decode cX3_year 77 = .ok (.istore_n 3, 1) := by decide +kernel
theorem dX3_year_78 : decode cX3_year 78 = .ok (.iconst 0, 1) := by decide +kernel
theorem dX3_year_79 : decode cX3_year 79 = .ok (.istore 4, 2) := by decide +kernel
theorem dX3_year_81 : decode cX3_year 81 = .ok (.aload_n 0, 1) := by decide +kernel
theorem dX3_year_82 : decode cX3_year 82 = .ok (.iconst 0, 1) := by decide +kernel
theorem dX3_year_83 : decode cX3_year 83 = .ok (.iload_n 1, 1) := by decide +kernel
theorem dX3_year_84 : decode cX3_year 84 = .ok (.invokevirtual 168, 3) := by decide +kernel
theorem dX3_year_87 : decode cX3_year 87 = .ok (.istore 5, 2) := by decide +kernel
theorem dX3_year_89 : decode cX3_year 89 = .ok (.iconst 1, 1) := by decide +kernel
theorem dX3_year_90 : decode cX3_year 90 = .ok (.istore 6, 2) := by decide +kernel
theorem dX3_year_92 : decode cX3_year 92 = .ok (.iload 6, 2) := by decide +kernel
theorem dX3_year_94 : decode cX3_year 94 = .ok (.bipush 6, 2) := by decide +kernel
theorem dX3_year_96 : decode cX3_year 96 = .ok (.if_icmp .ge 33, 3) := by decide +kernel
theorem dX3_year_99 : decode cX3_year 99 = .ok (.aload_n 0, 1) := by decide +kernel
theorem dX3_year_100 : decode cX3_year 100 = .ok (.iload 6, 2) := by decide +kernel
theorem dX3_year_102 : decode cX3_year 102 = .ok (.iload_n 1, 1) := by decide +kernel
theorem dX3_year_103 : decode cX3_year 103 = .ok (.invokevirtual 168, 3) := by decide +kernel
theorem dX3_year_106 : decode cX3_year 106 = .ok (.istore 7, 2) := by decide +kernel
theorem dX3_year_108 : decode cX3_year 108 = .ok (.iload 7, 2) := by decide +kernel
theorem dX3_year_110 : decode cX3_year 110 = .ok (.iload 5, 2) := by decide +kernel
theorem dX3_year_112 : decode cX3_year 112 = .ok (.if_icmp .le 11, 3) := by decide +kernel
theorem dX3_year_115 : decode cX3_year 115 = .ok (.iload 7, 2) := by decide +kernel
theorem dX3_year_117 : decode cX3_year 117 = .ok (.istore 5, 2) := by decide +kernel
theorem dX3_year_119 : decode cX3_year 119 = .ok (.iload 6, 2) := by decide +kernel
theorem dX3_year_121 : decode cX3_year 121 = .ok (.istore 4, 2) := by decide +kernel
theorem dX3_year_123 : decode cX3_year 123 = .ok (.iinc 6 1, 3) := by decide +kernel
theorem dX3_year_126 : decode cX3_year 126 = .ok (.goto (-34), 3) := by decide +kernel
theorem dX3_year_129 : decode cX3_year 129 = .ok (.iload_n 2, 1) := by decide +kernel
theorem dX3_year_130 : decode cX3_year 130 = .ok (.ifCond .ne 8, 3) := by decide +kernel
theorem dX3_year_133 : decode cX3_year 133 = .ok (.iload 4, 2) := by decide +kernel
theorem dX3_year_135 : decode cX3_year 135 = .ok (.goto 7, 3) := by decide +kernel
theorem dX3_year_138 : decode cX3_year 138 = .ok (.iload 5, 2) := by decide +kernel
theorem dX3_year_140 : decode cX3_year 140 = .ok (.iload_n 3, 1) := by decide +kernel
theorem dX3_year_141 : decode cX3_year 141 = .ok (.isub, 1) := by decide +kernel
theorem dX3_year_142 : decode cX3_year 142 = .ok (.ireturn, 1) := by decide +kernel
theorem hd_X3_year : yX3_year.cls ≠ "java/lang/invoke/MethodHandle" ∧ yX3_year.cls ≠ "java/lang/invoke/VarHandle" ∧ (parseMethodDescriptor yX3_year.desc).map (fun d => d.parameters.length) = some 2 := by decide +kernel
def f_X3_year_L92 : Nat → Int32 → Int32 → Int32 → Int32 → Int32 → Int32 → vS → Option (Int32 × Int32 × vS)
  | 0, _, _, _, _, _, _, _ => none
  | n + 1, x1, x2, x3, x4, x5, x6, S => if (6 : Int32) ≤ x6 then some (x4, x5, S) else b2 (f_X3_owedByAllWithYear x6 x1 S) fun r24 S23 => if r24 ≤ x5 then (f_X3_year_L92 n) x1 x2 x3 x4 x5 (x6 + 1) S23 else (f_X3_year_L92 n) x1 x2 x3 x6 r24 (x6 + 1) S23
def f_X3_year (a1 : Int32) (a2 : Int32) (S : vS) : Option (Int32 × vS) := if a2 < 0 then b2 (f_X3_refuseSum (-2 : Int32) S) fun r4 S3 => some (r4, S3) else if a2 ≤ (1 : Int32) then if 0 ≤ a1 then if a1 ≤ (999 : Int32) then if (20 : Int32) ≤ (S 0 12) then b2 (f_X3_refuseSum (-3 : Int32) S) fun r11 S10 => some (r11, S10) else b1 (f_X0_behind  S) fun r13 => if r13 < (900 : Int32) then b2 (f_X3_owedByAll  S) fun r17 S16 => b2 (f_X3_owedByAllWithYear (0 : Int32) a1 S16) fun r20 S19 => b3 (f_X3_year_L92 FU a1 a2 r17 (0 : Int32) r20 (1 : Int32) S19) fun y26 y27 S28 => if a2 = 0 then some (y26, S28) else some ((y27 - r17), S28) else b2 (f_X3_refuseSum (-3 : Int32) S) fun r33 S32 => some (r33, S32) else b2 (f_X3_refuseSum (-6 : Int32) S) fun r36 S35 => some (r36, S35) else b2 (f_X3_refuseSum (-4 : Int32) S) fun r39 S38 => some (r39, S38) else b2 (f_X3_refuseSum (-2 : Int32) S) fun r42 S41 => some (r42, S41)
set_option maxHeartbeats 4000000 in
set_option maxRecDepth 20000 in
theorem c_X3_year (l : Launch) (D : va_G) (cI cO : ClassId) (ad : Nat → Nat) (a1 : Int32) (a2 : Int32) (S : vS) (R9 : Int32) (S9 : vS) (hf : f_X3_year a1 a2 S = some (R9, S9)) : CI l yX3_year cX3_year 8 .int ({ frames := 6, cells := 0, slots := 0, locals := 135 }) [.ref (ad 0), .int a1, .int a2] D cI cO ad S R9 S9 := by
  refine CI.of (by decide +kernel) (Nat.le_of_ble_eq_true rfl) (fun p e s m args below meth c Q ls X hl hw hfin => ?_)
  have hl : lv_has ls 8 [(0, .ref (ad 0)), (1, .int a1), (2, .int a2)] := hl
  have hx := X.1
  have hb := X.2.1
  have L92 : ∀ (n : Nat) (x1 : Int32) (x2 : Int32) (x3 : Int32) (x4 : Int32) (x5 : Int32) (x6 : Int32) (S : vS) (res : (Int32 × Int32 × vS)), f_X3_year_L92 n x1 x2 x3 x4 x5 x6 S = some res → (K : ∀ (y4 : Int32) (y5 : Int32) (S2 : vS), some (y4, y5, S2) = some res → ∀ (H : Heap) (locs : List Loc) (ls : Array Slot), WD D cI cO ad s S2 H locs → lv_has ls 8 [(2, .int x2), (3, .int x3), (4, .int y4), (5, .int y5)] → W p l e ({ frames := 6, cells := 0, slots := 0, locals := 135 }) s m args below meth c H locs 0 0 Q (F0 m 129 ls [])) → ∀ (H : Heap) (locs : List Loc) (ls : Array Slot), WD D cI cO ad s S H locs → lv_has ls 8 [(0, .ref (ad 0)), (1, .int x1), (2, .int x2), (3, .int x3), (4, .int x4), (5, .int x5), (6, .int x6)] → W p l e ({ frames := 6, cells := 0, slots := 0, locals := 135 }) s m args below meth c H locs 0 0 Q (F0 m 92 ls []) := by
    intro n
    induction n with
    | zero => intro x1 x2 x3 x4 x5 x6 S res hf; cases hf
    | succ n ih =>
      intro x1 x2 x3 x4 x5 x6 S res hf K H locs ls hw hl
      unfold f_X3_year_L92 at hf
      refine lv_iload hx hb dX3_year_92 (lv_at hl 6 rfl) ?_
      refine lv_bipush (v := 6) hx hb dX3_year_94 (by decide +kernel) ?_
      refine lv_icmp_ge (tgt := 129) hx hb dX3_year_96 (by decide) (fun c21 => ?_) (fun c21 => ?_)
      · replace hf := if_t c21 hf
        exact K x4 x5 S hf _ _ _ hw (lv_sub hl [2, 3, 4, 5] rfl)
      · replace hf := if_f c21 hf
        refine lv_aload_n hx hb dX3_year_99 rfl (lv_at hl 0 rfl) ?_
        refine lv_iload hx hb dX3_year_100 (lv_at hl 6 rfl) ?_
        refine lv_iload_n hx hb dX3_year_102 rfl (lv_at hl 1 rfl) ?_
        obtain ⟨r24, S23, h22, hf⟩ := b2_s hf
        refine kVi X hw (c_X3_owedByAllWithYear l D cI cO ad x6 x1 S r24 S23 h22) (Nat.le_of_ble_eq_true rfl) ce0 rfl ⟨rfl, rfl⟩ q537 q539 q30 q59 q540 hd_X3_owedByAllWithYear ⟨Nat.le_of_ble_eq_true rfl, Nat.le_of_ble_eq_true rfl⟩ rfl hl.1 rfl (Nat.le_of_ble_eq_true rfl) dX3_year_103 (fun H locs hw => ?_)
        refine lv_istore (lv' := [(7, .int r24), (0, .ref (ad 0)), (1, .int x1), (2, .int x2), (3, .int x3), (4, .int x4), (5, .int x5), (6, .int x6)]) hx hb dX3_year_106 hl (by decide) rfl (fun ls hl => ?_)
        refine lv_iload hx hb dX3_year_108 (lv_at hl 0 rfl) ?_
        refine lv_iload hx hb dX3_year_110 (lv_at hl 6 rfl) ?_
        refine lv_icmp_le (tgt := 123) hx hb dX3_year_112 (by decide) (fun c25 => ?_) (fun c25 => ?_)
        · replace hf := if_t c25 hf
          refine lv_iinc (v := (x6 + 1)) (lv' := [(6, .int (x6 + 1)), (7, .int r24), (0, .ref (ad 0)), (1, .int x1), (2, .int x2), (3, .int x3), (4, .int x4), (5, .int x5)]) hx hb dX3_year_123 hl (k := 7) rfl rfl (by decide) rfl (fun ls hl => ?_)
          refine lv_goto (tgt := 92) hx hb dX3_year_126 (by decide) ?_
          exact ih x1 x2 x3 x4 x5 (x6 + 1) S23 _ hf K _ _ _ hw (lv_sub hl [2, 3, 4, 5, 6, 7, 0] rfl)
        · replace hf := if_f c25 hf
          refine lv_iload hx hb dX3_year_115 (lv_at hl 0 rfl) ?_
          refine lv_istore (lv' := [(5, .int r24), (7, .int r24), (0, .ref (ad 0)), (1, .int x1), (2, .int x2), (3, .int x3), (4, .int x4), (6, .int x6)]) hx hb dX3_year_117 hl (by decide) rfl (fun ls hl => ?_)
          refine lv_iload hx hb dX3_year_119 (lv_at hl 7 rfl) ?_
          refine lv_istore (lv' := [(4, .int x6), (5, .int r24), (7, .int r24), (0, .ref (ad 0)), (1, .int x1), (2, .int x2), (3, .int x3), (6, .int x6)]) hx hb dX3_year_121 hl (by decide) rfl (fun ls hl => ?_)
          refine lv_iinc (v := (x6 + 1)) (lv' := [(6, .int (x6 + 1)), (4, .int x6), (5, .int r24), (7, .int r24), (0, .ref (ad 0)), (1, .int x1), (2, .int x2), (3, .int x3)]) hx hb dX3_year_123 hl (k := 7) rfl rfl (by decide) rfl (fun ls hl => ?_)
          refine lv_goto (tgt := 92) hx hb dX3_year_126 (by decide) ?_
          exact ih x1 x2 x3 x6 r24 (x6 + 1) S23 _ hf K _ _ _ hw (lv_sub hl [4, 5, 6, 7, 1, 2, 0] rfl)
  unfold f_X3_year at hf
  refine lv_iload_n hx hb dX3_year_0 rfl (lv_at hl 2 rfl) ?_
  refine lv_if_lt (tgt := 9) hx hb dX3_year_1 (by decide) (fun c1 => ?_) (fun c1 => ?_)
  · replace hf := if_t c1 hf
    refine lv_aload_n hx hb dX3_year_9 rfl (lv_at hl 0 rfl) ?_
    refine lv_bipush (v := -2) hx hb dX3_year_10 (by decide +kernel) ?_
    obtain ⟨r4, S3, h2, hf⟩ := b2_s hf
    refine kVi X hw (c_X3_refuseSum l D cI cO ad (-2 : Int32) S r4 S3 h2) (Nat.le_of_ble_eq_true rfl) ce0 rfl ⟨rfl, rfl⟩ q532 q534 q29 q59 q535 hd_X3_refuseSum ⟨Nat.le_of_ble_eq_true rfl, Nat.le_of_ble_eq_true rfl⟩ rfl hl.1 rfl (Nat.le_of_ble_eq_true rfl) dX3_year_12 (fun H locs hw => ?_)
    exact hfin _ _ _ _ _ _ hw (s2a hf) (s2b hf) (narI _) dX3_year_15
  · replace hf := if_f c1 hf
    refine lv_iload_n hx hb dX3_year_4 rfl (lv_at hl 2 rfl) ?_
    refine lv_iconst (v := 1) hx hb dX3_year_5 (by decide) ?_
    refine lv_icmp_le (tgt := 16) hx hb dX3_year_6 (by decide) (fun c5 => ?_) (fun c5 => ?_)
    · replace hf := if_t c5 hf
      refine lv_iload_n hx hb dX3_year_16 rfl (lv_at hl 1 rfl) ?_
      refine lv_if_ge (tgt := 27) hx hb dX3_year_17 (by decide) (fun c6 => ?_) (fun c6 => ?_)
      · replace hf := if_t c6 hf
        refine lv_iload_n hx hb dX3_year_27 rfl (lv_at hl 1 rfl) ?_
        refine lv_sipush (v := 999) hx hb dX3_year_28 (by decide +kernel) ?_
        refine lv_icmp_le (tgt := 41) hx hb dX3_year_31 (by decide) (fun c7 => ?_) (fun c7 => ?_)
        · replace hf := if_t c7 hf
          refine lv_aload_n hx hb dX3_year_41 rfl (lv_at hl 0 rfl) ?_
          refine x_get X hw 0 (Nat.le_of_ble_eq_true rfl) ce0 rfl i_X3 1 (by decide) q183 ⟨rfl, rfl, rfl⟩ rfl dX3_year_42 ?_
          refine x_getN X hw 2 (Nat.le_of_ble_eq_true rfl) ce2 rfl i_X0 4 (by decide) q125 ⟨rfl, rfl, rfl⟩ rfl dX3_year_45 ?_
          refine lv_bipush (v := 20) hx hb dX3_year_48 (by decide +kernel) ?_
          refine lv_icmp_ge (tgt := 66) hx hb dX3_year_50 (by decide) (fun c8 => ?_) (fun c8 => ?_)
          · replace hf := if_t c8 hf
            refine lv_aload_n hx hb dX3_year_66 rfl (lv_at hl 0 rfl) ?_
            refine lv_bipush (v := -3) hx hb dX3_year_67 (by decide +kernel) ?_
            obtain ⟨r11, S10, h9, hf⟩ := b2_s hf
            refine kVi X hw (c_X3_refuseSum l D cI cO ad (-3 : Int32) S r11 S10 h9) (Nat.le_of_ble_eq_true rfl) ce0 rfl ⟨rfl, rfl⟩ q532 q534 q29 q59 q535 hd_X3_refuseSum ⟨Nat.le_of_ble_eq_true rfl, Nat.le_of_ble_eq_true rfl⟩ rfl hl.1 rfl (Nat.le_of_ble_eq_true rfl) dX3_year_69 (fun H locs hw => ?_)
            exact hfin _ _ _ _ _ _ hw (s2a hf) (s2b hf) (narI _) dX3_year_72
          · replace hf := if_f c8 hf
            refine lv_aload_n hx hb dX3_year_53 rfl (lv_at hl 0 rfl) ?_
            refine x_get X hw 0 (Nat.le_of_ble_eq_true rfl) ce0 rfl i_X3 1 (by decide) q183 ⟨rfl, rfl, rfl⟩ rfl dX3_year_54 ?_
            obtain ⟨r13, h12, hf⟩ := b1_s hf
            refine kNi X hw (c_X0_behind l D cI cO ad  S r13 h12) (Nat.le_of_ble_eq_true rfl) ce2 rfl ⟨rfl, rfl⟩ q510 q512 q26 q61 q513 hd_X0_behind ⟨Nat.le_of_ble_eq_true rfl, Nat.le_of_ble_eq_true rfl⟩ rfl hl.1 rfl (Nat.le_of_ble_eq_true rfl) dX3_year_57 (fun H locs hw => ?_)
            refine lv_sipush (v := 900) hx hb dX3_year_60 (by decide +kernel) ?_
            refine lv_icmp_lt (tgt := 73) hx hb dX3_year_63 (by decide) (fun c14 => ?_) (fun c14 => ?_)
            · replace hf := if_t c14 hf
              refine lv_aload_n hx hb dX3_year_73 rfl (lv_at hl 0 rfl) ?_
              obtain ⟨r17, S16, h15, hf⟩ := b2_s hf
              refine kVi X hw (c_X3_owedByAll l D cI cO ad  S r17 S16 h15) (Nat.le_of_ble_eq_true rfl) ce0 rfl ⟨rfl, rfl⟩ q459 q461 q21 q59 q462 hd_X3_owedByAll ⟨Nat.le_of_ble_eq_true rfl, Nat.le_of_ble_eq_true rfl⟩ rfl hl.1 rfl (Nat.le_of_ble_eq_true rfl) dX3_year_74 (fun H locs hw => ?_)
              refine lv_istore_n (lv' := [(3, .int r17), (0, .ref (ad 0)), (1, .int a1), (2, .int a2)]) hx hb dX3_year_77 rfl hl (by decide) rfl (fun ls hl => ?_)
              refine lv_iconst (v := 0) hx hb dX3_year_78 (by decide) ?_
              refine lv_istore (lv' := [(4, .int (0 : Int32)), (3, .int r17), (0, .ref (ad 0)), (1, .int a1), (2, .int a2)]) hx hb dX3_year_79 hl (by decide) rfl (fun ls hl => ?_)
              refine lv_aload_n hx hb dX3_year_81 rfl (lv_at hl 2 rfl) ?_
              refine lv_iconst (v := 0) hx hb dX3_year_82 (by decide) ?_
              refine lv_iload_n hx hb dX3_year_83 rfl (lv_at hl 3 rfl) ?_
              obtain ⟨r20, S19, h18, hf⟩ := b2_s hf
              refine kVi X hw (c_X3_owedByAllWithYear l D cI cO ad (0 : Int32) a1 S16 r20 S19 h18) (Nat.le_of_ble_eq_true rfl) ce0 rfl ⟨rfl, rfl⟩ q537 q539 q30 q59 q540 hd_X3_owedByAllWithYear ⟨Nat.le_of_ble_eq_true rfl, Nat.le_of_ble_eq_true rfl⟩ rfl hl.1 rfl (Nat.le_of_ble_eq_true rfl) dX3_year_84 (fun H locs hw => ?_)
              refine lv_istore (lv' := [(5, .int r20), (4, .int (0 : Int32)), (3, .int r17), (0, .ref (ad 0)), (1, .int a1), (2, .int a2)]) hx hb dX3_year_87 hl (by decide) rfl (fun ls hl => ?_)
              refine lv_iconst (v := 1) hx hb dX3_year_89 (by decide) ?_
              refine lv_istore (lv' := [(6, .int (1 : Int32)), (5, .int r20), (4, .int (0 : Int32)), (3, .int r17), (0, .ref (ad 0)), (1, .int a1), (2, .int a2)]) hx hb dX3_year_90 hl (by decide) rfl (fun ls hl => ?_)
              obtain ⟨y26, y27, S28, h30, hf⟩ := b3_s hf
              refine L92 FU a1 a2 r17 (0 : Int32) r20 (1 : Int32) S19 _ h30 (fun y26' y27' S28' eK H locs ls hw hl => ?_) _ _ _ hw (lv_sub hl [4, 5, 6, 3, 2, 1, 0] rfl)
              cases eK
              refine lv_iload_n hx hb dX3_year_129 rfl (lv_at hl 0 rfl) ?_
              refine lv_if_ne (tgt := 138) hx hb dX3_year_130 (by decide) (fun c29 => ?_) (fun c29 => ?_)
              · replace hf := if_f c29 hf
                refine lv_iload hx hb dX3_year_138 (lv_at hl 3 rfl) ?_
                refine lv_iload_n hx hb dX3_year_140 rfl (lv_at hl 1 rfl) ?_
                refine lv_isub hx hb dX3_year_141 ?_
                exact hfin _ _ _ _ _ _ hw (s2a hf) (s2b hf) (narI _) dX3_year_142
              · replace hf := if_t c29 hf
                refine lv_iload hx hb dX3_year_133 (lv_at hl 2 rfl) ?_
                refine lv_goto (tgt := 142) hx hb dX3_year_135 (by decide) ?_
                exact hfin _ _ _ _ _ _ hw (s2a hf) (s2b hf) (narI _) dX3_year_142
            · replace hf := if_f c14 hf
              refine lv_aload_n hx hb dX3_year_66 rfl (lv_at hl 0 rfl) ?_
              refine lv_bipush (v := -3) hx hb dX3_year_67 (by decide +kernel) ?_
              obtain ⟨r33, S32, h31, hf⟩ := b2_s hf
              refine kVi X hw (c_X3_refuseSum l D cI cO ad (-3 : Int32) S r33 S32 h31) (Nat.le_of_ble_eq_true rfl) ce0 rfl ⟨rfl, rfl⟩ q532 q534 q29 q59 q535 hd_X3_refuseSum ⟨Nat.le_of_ble_eq_true rfl, Nat.le_of_ble_eq_true rfl⟩ rfl hl.1 rfl (Nat.le_of_ble_eq_true rfl) dX3_year_69 (fun H locs hw => ?_)
              exact hfin _ _ _ _ _ _ hw (s2a hf) (s2b hf) (narI _) dX3_year_72
        · replace hf := if_f c7 hf
          refine lv_aload_n hx hb dX3_year_34 rfl (lv_at hl 0 rfl) ?_
          refine lv_bipush (v := -6) hx hb dX3_year_35 (by decide +kernel) ?_
          obtain ⟨r36, S35, h34, hf⟩ := b2_s hf
          refine kVi X hw (c_X3_refuseSum l D cI cO ad (-6 : Int32) S r36 S35 h34) (Nat.le_of_ble_eq_true rfl) ce0 rfl ⟨rfl, rfl⟩ q532 q534 q29 q59 q535 hd_X3_refuseSum ⟨Nat.le_of_ble_eq_true rfl, Nat.le_of_ble_eq_true rfl⟩ rfl hl.1 rfl (Nat.le_of_ble_eq_true rfl) dX3_year_37 (fun H locs hw => ?_)
          exact hfin _ _ _ _ _ _ hw (s2a hf) (s2b hf) (narI _) dX3_year_40
      · replace hf := if_f c6 hf
        refine lv_aload_n hx hb dX3_year_20 rfl (lv_at hl 0 rfl) ?_
        refine lv_bipush (v := -4) hx hb dX3_year_21 (by decide +kernel) ?_
        obtain ⟨r39, S38, h37, hf⟩ := b2_s hf
        refine kVi X hw (c_X3_refuseSum l D cI cO ad (-4 : Int32) S r39 S38 h37) (Nat.le_of_ble_eq_true rfl) ce0 rfl ⟨rfl, rfl⟩ q532 q534 q29 q59 q535 hd_X3_refuseSum ⟨Nat.le_of_ble_eq_true rfl, Nat.le_of_ble_eq_true rfl⟩ rfl hl.1 rfl (Nat.le_of_ble_eq_true rfl) dX3_year_23 (fun H locs hw => ?_)
        exact hfin _ _ _ _ _ _ hw (s2a hf) (s2b hf) (narI _) dX3_year_26
    · replace hf := if_f c5 hf
      refine lv_aload_n hx hb dX3_year_9 rfl (lv_at hl 0 rfl) ?_
      refine lv_bipush (v := -2) hx hb dX3_year_10 (by decide +kernel) ?_
      obtain ⟨r42, S41, h40, hf⟩ := b2_s hf
      refine kVi X hw (c_X3_refuseSum l D cI cO ad (-2 : Int32) S r42 S41 h40) (Nat.le_of_ble_eq_true rfl) ce0 rfl ⟨rfl, rfl⟩ q532 q534 q29 q59 q535 hd_X3_refuseSum ⟨Nat.le_of_ble_eq_true rfl, Nat.le_of_ble_eq_true rfl⟩ rfl hl.1 rfl (Nat.le_of_ble_eq_true rfl) dX3_year_12 (fun H locs hw => ?_)
      exact hfin _ _ _ _ _ _ hw (s2a hf) (s2b hf) (narI _) dX3_year_15
/-- NineLands.proof(I)I -/
theorem dX3_proof_0 : decode cX3_proof 0 = .ok (.aload_n 0, 1) := by decide +kernel
theorem dX3_proof_1 : decode cX3_proof 1 = .ok (.iload_n 1, 1) := by decide +kernel
theorem dX3_proof_2 : decode cX3_proof 2 = .ok (.invokevirtual 74, 3) := by decide +kernel
theorem dX3_proof_5 : decode cX3_proof 5 = .ok (.ifCond .ne 9, 3) := by decide +kernel
theorem dX3_proof_8 : decode cX3_proof 8 = .ok (.aload_n 0, 1) := by decide +kernel
theorem dX3_proof_9 : decode cX3_proof 9 = .ok (.iconst (-1), 1) := by decide +kernel
theorem dX3_proof_10 : decode cX3_proof 10 = .ok (.invokevirtual 165, 3) := by decide +kernel
theorem dX3_proof_13 : decode cX3_proof 13 = .ok (.ireturn, 1) := by decide +kernel
theorem dX3_proof_14 : decode cX3_proof 14 = .ok (.aload_n 0, 1) := by decide +kernel
theorem dX3_proof_15 : decode cX3_proof 15 = .ok (.getfield 19, 3) := by decide +kernel
theorem dX3_proof_18 : decode cX3_proof 18 = .ok (.getfield 63, 3) := by decide +kernel
theorem dX3_proof_21 : decode cX3_proof 21 = .ok (.iload_n 1, 1) := by decide +kernel
theorem dX3_proof_22 : decode cX3_proof 22 = .ok (.aaload, 1) := by decide +kernel
theorem dX3_proof_23 : decode cX3_proof 23 = .ok (.bipush 6, 2) := by decide +kernel
theorem dX3_proof_25 : decode cX3_proof 25 = .ok (.iaload, 1) := by decide +kernel
theorem dX3_proof_26 : decode cX3_proof 26 = .ok (.iconst 1, 1) := by decide +kernel
theorem dX3_proof_27 : decode cX3_proof 27 = .ok (.if_icmp .ne 10, 3) := by decide +kernel
theorem dX3_proof_30 : decode cX3_proof 30 = .ok (.aload_n 0, 1) := by decide +kernel
theorem dX3_proof_31 : decode cX3_proof 31 = .ok (.bipush (-3), 2) := by decide +kernel
theorem dX3_proof_33 : decode cX3_proof 33 = .ok (.invokevirtual 165, 3) := by decide +kernel
theorem dX3_proof_36 : decode cX3_proof 36 = .ok (.ireturn, 1) := by decide +kernel
theorem dX3_proof_37 : decode cX3_proof 37 = .ok (.aload_n 0, 1) := by decide +kernel
theorem dX3_proof_38 : decode cX3_proof 38 = .ok (.invokevirtual 131, 3) := by decide +kernel
theorem dX3_proof_41 : decode cX3_proof 41 = .ok (.istore_n 2, 1) := by decide +kernel
theorem dX3_proof_42 : decode cX3_proof 42 = .ok (.aload_n 0, 1) := by decide +kernel
theorem dX3_proof_43 : decode cX3_proof 43 = .ok (.iload_n 1, 1) := by decide +kernel
theorem dX3_proof_44 : decode cX3_proof 44 = .ok (.iconst 1, 1) := by decide +kernel
theorem dX3_proof_45 : decode cX3_proof 45 = .ok (.invokevirtual 162, 3) := by decide +kernel
theorem dX3_proof_48 : decode cX3_proof 48 = .ok (.iload_n 2, 1) := by decide +kernel
theorem dX3_proof_49 : decode cX3_proof 49 = .ok (.isub, 1) := by decide +kernel
theorem dX3_proof_50 : decode cX3_proof 50 = .ok (.ireturn, 1) := by decide +kernel
theorem hd_X3_proof : yX3_proof.cls ≠ "java/lang/invoke/MethodHandle" ∧ yX3_proof.cls ≠ "java/lang/invoke/VarHandle" ∧ (parseMethodDescriptor yX3_proof.desc).map (fun d => d.parameters.length) = some 1 := by decide +kernel
def f_X3_proof (a1 : Int32) (S : vS) : Option (Int32 × vS) := b1 (f_X3_isSpell a1 S) fun r2 => if r2 = 0 then b2 (f_X3_refuseSum (-1 : Int32) S) fun r17 S16 => some (r17, S16) else if inb a1 20 = true then if (S (34 + a1.toNatClampNeg) 6) = (1 : Int32) then b2 (f_X3_refuseSum (-3 : Int32) S) fun r14 S13 => some (r14, S13) else b2 (f_X3_owedByAll  S) fun r8 S7 => b2 (f_X3_owedByAllIf a1 (1 : Int32) S7) fun r11 S10 => some ((r11 - r8), S10) else none
set_option maxHeartbeats 4000000 in
set_option maxRecDepth 20000 in
theorem c_X3_proof (l : Launch) (D : va_G) (cI cO : ClassId) (ad : Nat → Nat) (a1 : Int32) (S : vS) (R9 : Int32) (S9 : vS) (hf : f_X3_proof a1 S = some (R9, S9)) : CI l yX3_proof cX3_proof 3 .int ({ frames := 7, cells := 0, slots := 0, locals := 157 }) [.ref (ad 0), .int a1] D cI cO ad S R9 S9 := by
  refine CI.of (by decide +kernel) (Nat.le_of_ble_eq_true rfl) (fun p e s m args below meth c Q ls X hl hw hfin => ?_)
  have hl : lv_has ls 3 [(0, .ref (ad 0)), (1, .int a1)] := hl
  have hx := X.1
  have hb := X.2.1
  unfold f_X3_proof at hf
  refine lv_aload_n hx hb dX3_proof_0 rfl (lv_at hl 0 rfl) ?_
  refine lv_iload_n hx hb dX3_proof_1 rfl (lv_at hl 1 rfl) ?_
  obtain ⟨r2, h1, hf⟩ := b1_s hf
  refine kVi X hw (c_X3_isSpell l D cI cO ad a1 S r2 h1) (Nat.le_of_ble_eq_true rfl) ce0 rfl ⟨rfl, rfl⟩ q333 q335 q6 q59 q336 hd_X3_isSpell ⟨Nat.le_of_ble_eq_true rfl, Nat.le_of_ble_eq_true rfl⟩ rfl hl.1 rfl (Nat.le_of_ble_eq_true rfl) dX3_proof_2 (fun H locs hw => ?_)
  refine lv_if_ne (tgt := 14) hx hb dX3_proof_5 (by decide) (fun c3 => ?_) (fun c3 => ?_)
  · replace hf := if_f c3 hf
    refine lv_aload_n hx hb dX3_proof_14 rfl (lv_at hl 0 rfl) ?_
    refine x_get X hw 0 (Nat.le_of_ble_eq_true rfl) ce0 rfl i_X3 1 (by decide) q183 ⟨rfl, rfl, rfl⟩ rfl dX3_proof_15 ?_
    refine x_getN X hw 2 (Nat.le_of_ble_eq_true rfl) ce2 rfl i_X0 0 (by decide) q114 ⟨rfl, rfl, rfl⟩ rfl dX3_proof_18 ?_
    refine lv_iload_n hx hb dX3_proof_21 rfl (lv_at hl 1 rfl) ?_
    obtain ⟨h4, hf⟩ := if_s hf
    refine x_aald X hw 6 (Nat.le_of_ble_eq_true rfl) ce6 h4 rfl dX3_proof_22 ?_
    refine lv_bipush (v := 6) hx hb dX3_proof_23 (by decide +kernel) ?_
    refine x_iald X hw (34 + a1.toNatClampNeg) (have q9 := inb_lt h4; ⟨by omega, by omega⟩) (alen_34 (inb_lt h4)) (by decide) 6 (by decide) dX3_proof_25 ?_
    refine lv_iconst (v := 1) hx hb dX3_proof_26 (by decide) ?_
    refine lv_icmp_ne (tgt := 37) hx hb dX3_proof_27 (by decide) (fun c5 => ?_) (fun c5 => ?_)
    · replace hf := if_f c5 hf
      refine lv_aload_n hx hb dX3_proof_37 rfl (lv_at hl 0 rfl) ?_
      obtain ⟨r8, S7, h6, hf⟩ := b2_s hf
      refine kVi X hw (c_X3_owedByAll l D cI cO ad  S r8 S7 h6) (Nat.le_of_ble_eq_true rfl) ce0 rfl ⟨rfl, rfl⟩ q459 q461 q21 q59 q462 hd_X3_owedByAll ⟨Nat.le_of_ble_eq_true rfl, Nat.le_of_ble_eq_true rfl⟩ rfl hl.1 rfl (Nat.le_of_ble_eq_true rfl) dX3_proof_38 (fun H locs hw => ?_)
      refine lv_istore_n (lv' := [(2, .int r8), (0, .ref (ad 0)), (1, .int a1)]) hx hb dX3_proof_41 rfl hl (by decide) rfl (fun ls hl => ?_)
      refine lv_aload_n hx hb dX3_proof_42 rfl (lv_at hl 1 rfl) ?_
      refine lv_iload_n hx hb dX3_proof_43 rfl (lv_at hl 2 rfl) ?_
      refine lv_iconst (v := 1) hx hb dX3_proof_44 (by decide) ?_
      obtain ⟨r11, S10, h9, hf⟩ := b2_s hf
      refine kVi X hw (c_X3_owedByAllIf l D cI cO ad a1 (1 : Int32) S7 r11 S10 h9) (Nat.le_of_ble_eq_true rfl) ce0 rfl ⟨rfl, rfl⟩ q524 q526 q28 q59 q527 hd_X3_owedByAllIf ⟨Nat.le_of_ble_eq_true rfl, Nat.le_of_ble_eq_true rfl⟩ rfl hl.1 rfl (Nat.le_of_ble_eq_true rfl) dX3_proof_45 (fun H locs hw => ?_)
      refine lv_iload_n hx hb dX3_proof_48 rfl (lv_at hl 0 rfl) ?_
      refine lv_isub hx hb dX3_proof_49 ?_
      exact hfin _ _ _ _ _ _ hw (s2a hf) (s2b hf) (narI _) dX3_proof_50
    · replace hf := if_t c5 hf
      refine lv_aload_n hx hb dX3_proof_30 rfl (lv_at hl 0 rfl) ?_
      refine lv_bipush (v := -3) hx hb dX3_proof_31 (by decide +kernel) ?_
      obtain ⟨r14, S13, h12, hf⟩ := b2_s hf
      refine kVi X hw (c_X3_refuseSum l D cI cO ad (-3 : Int32) S r14 S13 h12) (Nat.le_of_ble_eq_true rfl) ce0 rfl ⟨rfl, rfl⟩ q532 q534 q29 q59 q535 hd_X3_refuseSum ⟨Nat.le_of_ble_eq_true rfl, Nat.le_of_ble_eq_true rfl⟩ rfl hl.1 rfl (Nat.le_of_ble_eq_true rfl) dX3_proof_33 (fun H locs hw => ?_)
      exact hfin _ _ _ _ _ _ hw (s2a hf) (s2b hf) (narI _) dX3_proof_36
  · replace hf := if_t c3 hf
    refine lv_aload_n hx hb dX3_proof_8 rfl (lv_at hl 0 rfl) ?_
    refine lv_iconst (v := -1) hx hb dX3_proof_9 (by decide) ?_
    obtain ⟨r17, S16, h15, hf⟩ := b2_s hf
    refine kVi X hw (c_X3_refuseSum l D cI cO ad (-1 : Int32) S r17 S16 h15) (Nat.le_of_ble_eq_true rfl) ce0 rfl ⟨rfl, rfl⟩ q532 q534 q29 q59 q535 hd_X3_refuseSum ⟨Nat.le_of_ble_eq_true rfl, Nat.le_of_ble_eq_true rfl⟩ rfl hl.1 rfl (Nat.le_of_ble_eq_true rfl) dX3_proof_10 (fun H locs hw => ?_)
    exact hfin _ _ _ _ _ _ hw (s2a hf) (s2b hf) (narI _) dX3_proof_13
/-- NineLands.put(I)I -/
theorem dX3_put_0 : decode cX3_put 0 = .ok (.iload_n 1, 1) := by decide +kernel
theorem dX3_put_1 : decode cX3_put 1 = .ok (.ifCond .ge 10, 3) := by decide +kernel
theorem dX3_put_4 : decode cX3_put 4 = .ok (.aload_n 0, 1) := by decide +kernel
theorem dX3_put_5 : decode cX3_put 5 = .ok (.bipush (-4), 2) := by decide +kernel
theorem dX3_put_7 : decode cX3_put 7 = .ok (.invokevirtual 48, 3) := by decide +kernel
theorem dX3_put_10 : decode cX3_put 10 = .ok (.ireturn, 1) := by decide +kernel
theorem dX3_put_11 : decode cX3_put 11 = .ok (.iload_n 1, 1) := by decide +kernel
theorem dX3_put_12 : decode cX3_put 12 = .ok (.sipush 9999, 3) := by decide +kernel
theorem dX3_put_15 : decode cX3_put 15 = .ok (.if_icmp .gt 12, 3) := by decide +kernel
theorem dX3_put_18 : decode cX3_put 18 = .ok (.aload_n 0, 1) := by decide +kernel
theorem dX3_put_19 : decode cX3_put 19 = .ok (.getfield 40, 3) := by decide +kernel
theorem dX3_put_22 : decode cX3_put 22 = .ok (.bipush 6, 2) := by decide +kernel
theorem dX3_put_24 : decode cX3_put 24 = .ok (.if_icmp .lt 10, 3) := by decide +kernel
theorem dX3_put_27 : decode cX3_put 27 = .ok (.aload_n 0, 1) := by decide +kernel
theorem dX3_put_28 : decode cX3_put 28 = .ok (.bipush (-6), 2) := by decide +kernel
theorem dX3_put_30 : decode cX3_put 30 = .ok (.invokevirtual 48, 3) := by decide +kernel
theorem dX3_put_33 : decode cX3_put 33 = .ok (.ireturn, 1) := by decide +kernel
theorem dX3_put_34 : decode cX3_put 34 = .ok (.aload_n 0, 1) := by decide +kernel
theorem dX3_put_35 : decode cX3_put 35 = .ok (.getfield 33, 3) := by decide +kernel
theorem dX3_put_38 : decode cX3_put 38 = .ok (.aload_n 0, 1) := by decide +kernel
theorem dX3_put_39 : decode cX3_put 39 = .ok (.getfield 40, 3) := by decide +kernel
theorem dX3_put_42 : decode cX3_put 42 = .ok (.iload_n 1, 1) := by decide +kernel
theorem dX3_put_43 : decode cX3_put 43 = .ok (.iastore, 1) := by decide +kernel
theorem dX3_put_44 : decode cX3_put 44 = .ok (.aload_n 0, 1) := by decide +kernel
theorem dX3_put_45 : decode cX3_put 45 = .ok (.dup, 1) := by decide +kernel
theorem dX3_put_46 : decode cX3_put 46 = .ok (.getfield 40, 3) := by decide +kernel
theorem dX3_put_49 : decode cX3_put 49 = .ok (.iconst 1, 1) := by decide +kernel
theorem dX3_put_50 : decode cX3_put 50 = .ok (.iadd, 1) := by decide +kernel
theorem dX3_put_51 : decode cX3_put 51 = .ok (.putfield 40, 3) := by decide +kernel
theorem dX3_put_54 : decode cX3_put 54 = .ok (.aload_n 0, 1) := by decide +kernel
theorem dX3_put_55 : decode cX3_put 55 = .ok (.getfield 40, 3) := by decide +kernel
theorem dX3_put_58 : decode cX3_put 58 = .ok (.ireturn, 1) := by decide +kernel
theorem hd_X3_put : yX3_put.cls ≠ "java/lang/invoke/MethodHandle" ∧ yX3_put.cls ≠ "java/lang/invoke/VarHandle" ∧ (parseMethodDescriptor yX3_put.desc).map (fun d => d.parameters.length) = some 1 := by decide +kernel
def f_X3_put (a1 : Int32) (S : vS) : Option (Int32 × vS) := if 0 ≤ a1 then if (9999 : Int32) < a1 then b2 (f_X3_refuse (-6 : Int32) S) fun r5 S4 => some (r5, S4) else if (S 0 17) < (6 : Int32) then if inb (S 0 17) 6 = true then lt (upk S 32 (upd (S 32) ((S 0 17).toNatClampNeg) a1)) fun S8 => lt (upk S8 0 (upd (S8 0) 17 ((S8 0 17) + (1 : Int32)))) fun S9 => some ((S9 0 17), S9) else none else b2 (f_X3_refuse (-6 : Int32) S) fun r12 S11 => some (r12, S11) else b2 (f_X3_refuse (-4 : Int32) S) fun r15 S14 => some (r15, S14)
set_option maxHeartbeats 4000000 in
set_option maxRecDepth 20000 in
theorem c_X3_put (l : Launch) (D : va_G) (cI cO : ClassId) (ad : Nat → Nat) (a1 : Int32) (S : vS) (R9 : Int32) (S9 : vS) (hf : f_X3_put a1 S = some (R9, S9)) : CI l yX3_put cX3_put 2 .int ({ frames := 1, cells := 0, slots := 0, locals := 21 }) [.ref (ad 0), .int a1] D cI cO ad S R9 S9 := by
  refine CI.of (by decide +kernel) (Nat.le_of_ble_eq_true rfl) (fun p e s m args below meth c Q ls X hl hw hfin => ?_)
  have hl : lv_has ls 2 [(0, .ref (ad 0)), (1, .int a1)] := hl
  have hx := X.1
  have hb := X.2.1
  unfold f_X3_put at hf
  refine lv_iload_n hx hb dX3_put_0 rfl (lv_at hl 1 rfl) ?_
  refine lv_if_ge (tgt := 11) hx hb dX3_put_1 (by decide) (fun c1 => ?_) (fun c1 => ?_)
  · replace hf := if_t c1 hf
    refine lv_iload_n hx hb dX3_put_11 rfl (lv_at hl 1 rfl) ?_
    refine lv_sipush (v := 9999) hx hb dX3_put_12 (by decide +kernel) ?_
    refine lv_icmp_gt (tgt := 27) hx hb dX3_put_15 (by decide) (fun c2 => ?_) (fun c2 => ?_)
    · replace hf := if_t c2 hf
      refine lv_aload_n hx hb dX3_put_27 rfl (lv_at hl 0 rfl) ?_
      refine lv_bipush (v := -6) hx hb dX3_put_28 (by decide +kernel) ?_
      obtain ⟨r5, S4, h3, hf⟩ := b2_s hf
      refine kVi X hw (c_X3_refuse l D cI cO ad (-6 : Int32) S r5 S4 h3) (Nat.le_of_ble_eq_true rfl) ce0 rfl ⟨rfl, rfl⟩ q211 q213 q0 q59 q214 hd_X3_refuse ⟨Nat.le_of_ble_eq_true rfl, Nat.le_of_ble_eq_true rfl⟩ rfl hl.1 rfl (Nat.le_of_ble_eq_true rfl) dX3_put_30 (fun H locs hw => ?_)
      exact hfin _ _ _ _ _ _ hw (s2a hf) (s2b hf) (narI _) dX3_put_33
    · replace hf := if_f c2 hf
      refine lv_aload_n hx hb dX3_put_18 rfl (lv_at hl 0 rfl) ?_
      refine x_get X hw 0 (Nat.le_of_ble_eq_true rfl) ce0 rfl i_X3 6 (by decide) q188 ⟨rfl, rfl, rfl⟩ rfl dX3_put_19 ?_
      refine lv_bipush (v := 6) hx hb dX3_put_22 (by decide +kernel) ?_
      refine lv_icmp_lt (tgt := 34) hx hb dX3_put_24 (by decide) (fun c6 => ?_) (fun c6 => ?_)
      · replace hf := if_t c6 hf
        refine lv_aload_n hx hb dX3_put_34 rfl (lv_at hl 0 rfl) ?_
        refine x_get X hw 0 (Nat.le_of_ble_eq_true rfl) ce0 rfl i_X3 4 (by decide) q186 ⟨rfl, rfl, rfl⟩ rfl dX3_put_35 ?_
        refine lv_aload_n hx hb dX3_put_38 rfl (lv_at hl 0 rfl) ?_
        refine x_get X hw 0 (Nat.le_of_ble_eq_true rfl) ce0 rfl i_X3 6 (by decide) q188 ⟨rfl, rfl, rfl⟩ rfl dX3_put_39 ?_
        refine lv_iload_n hx hb dX3_put_42 rfl (lv_at hl 1 rfl) ?_
        obtain ⟨h7, hf⟩ := if_s hf
        refine x_iast X hw 32 ⟨Nat.le_of_ble_eq_true rfl, Nat.le_of_ble_eq_true rfl⟩ rfl h7 ((S 0 17).toNatClampNeg) rfl dX3_put_43 (fun S8 eS8 H locs hw => ?_)
        replace hf := lt_e eS8 hf
        refine lv_aload_n hx hb dX3_put_44 rfl (lv_at hl 0 rfl) ?_
        refine lv_dup hx hb dX3_put_45 rfl ?_
        refine x_get X hw 0 (Nat.le_of_ble_eq_true rfl) ce0 rfl i_X3 6 (by decide) q188 ⟨rfl, rfl, rfl⟩ rfl dX3_put_46 ?_
        refine lv_iconst (v := 1) hx hb dX3_put_49 (by decide) ?_
        refine lv_iadd hx hb dX3_put_50 ?_
        refine x_put X hw 0 (Nat.le_of_ble_eq_true rfl) ce0 rfl i_X3 tyX3_ok nmX3 6 (by decide) q188 ⟨rfl, rfl, rfl⟩ rfl pfI rfl rfl (Nat.le_of_ble_eq_true rfl) 17 (ws_17 _) dX3_put_51 (fun S9 eS9 H locs hw => ?_)
        replace hf := lt_e eS9 hf
        refine lv_aload_n hx hb dX3_put_54 rfl (lv_at hl 0 rfl) ?_
        refine x_get X hw 0 (Nat.le_of_ble_eq_true rfl) ce0 rfl i_X3 6 (by decide) q188 ⟨rfl, rfl, rfl⟩ rfl dX3_put_55 ?_
        exact hfin _ _ _ _ _ _ hw (s2a hf) (s2b hf) (narI _) dX3_put_58
      · replace hf := if_f c6 hf
        refine lv_aload_n hx hb dX3_put_27 rfl (lv_at hl 0 rfl) ?_
        refine lv_bipush (v := -6) hx hb dX3_put_28 (by decide +kernel) ?_
        obtain ⟨r12, S11, h10, hf⟩ := b2_s hf
        refine kVi X hw (c_X3_refuse l D cI cO ad (-6 : Int32) S r12 S11 h10) (Nat.le_of_ble_eq_true rfl) ce0 rfl ⟨rfl, rfl⟩ q211 q213 q0 q59 q214 hd_X3_refuse ⟨Nat.le_of_ble_eq_true rfl, Nat.le_of_ble_eq_true rfl⟩ rfl hl.1 rfl (Nat.le_of_ble_eq_true rfl) dX3_put_30 (fun H locs hw => ?_)
        exact hfin _ _ _ _ _ _ hw (s2a hf) (s2b hf) (narI _) dX3_put_33
  · replace hf := if_f c1 hf
    refine lv_aload_n hx hb dX3_put_4 rfl (lv_at hl 0 rfl) ?_
    refine lv_bipush (v := -4) hx hb dX3_put_5 (by decide +kernel) ?_
    obtain ⟨r15, S14, h13, hf⟩ := b2_s hf
    refine kVi X hw (c_X3_refuse l D cI cO ad (-4 : Int32) S r15 S14 h13) (Nat.le_of_ble_eq_true rfl) ce0 rfl ⟨rfl, rfl⟩ q211 q213 q0 q59 q214 hd_X3_refuse ⟨Nat.le_of_ble_eq_true rfl, Nat.le_of_ble_eq_true rfl⟩ rfl hl.1 rfl (Nat.le_of_ble_eq_true rfl) dX3_put_7 (fun H locs hw => ?_)
    exact hfin _ _ _ _ _ _ hw (s2a hf) (s2b hf) (narI _) dX3_put_10
/-- NineLands.judge()I -/
theorem dX3_judge_0 : decode cX3_judge 0 = .ok (.aload_n 0, 1) := by decide +kernel
theorem dX3_judge_1 : decode cX3_judge 1 = .ok (.getfield 33, 3) := by decide +kernel
theorem dX3_judge_4 : decode cX3_judge 4 = .ok (.aload_n 0, 1) := by decide +kernel
theorem dX3_judge_5 : decode cX3_judge 5 = .ok (.getfield 40, 3) := by decide +kernel
theorem dX3_judge_8 : decode cX3_judge 8 = .ok (.bipush 6, 2) := by decide +kernel
theorem dX3_judge_10 : decode cX3_judge 10 = .ok (.iconst 0, 1) := by decide +kernel
theorem dX3_judge_11 : decode cX3_judge 11 = .ok (.invokestatic 171, 3) := by decide +kernel
theorem dX3_judge_14 : decode cX3_judge 14 = .ok (.aload_n 0, 1) := by decide +kernel
theorem dX3_judge_15 : decode cX3_judge 15 = .ok (.getfield 40, 3) := by decide +kernel
theorem dX3_judge_18 : decode cX3_judge 18 = .ok (.istore_n 1, 1) := by decide +kernel
theorem dX3_judge_19 : decode cX3_judge 19 = .ok (.aload_n 0, 1) := by decide +kernel
theorem dX3_judge_20 : decode cX3_judge 20 = .ok (.iconst 0, 1) := by decide +kernel
theorem dX3_judge_21 : decode cX3_judge 21 = .ok (.putfield 40, 3) := by decide +kernel
theorem dX3_judge_24 : decode cX3_judge 24 = .ok (.aload_n 0, 1) := by decide +kernel
theorem dX3_judge_25 : decode cX3_judge 25 = .ok (.getfield 29, 3) := by decide +kernel
theorem dX3_judge_28 : decode cX3_judge 28 = .ok (.aload_n 0, 1) := by decide +kernel
theorem dX3_judge_29 : decode cX3_judge 29 = .ok (.getfield 19, 3) := by decide +kernel
theorem dX3_judge_32 : decode cX3_judge 32 = .ok (.invokevirtual 96, 3) := by decide +kernel
theorem dX3_judge_35 : decode cX3_judge 35 = .ok (.aload_n 0, 1) := by decide +kernel
theorem dX3_judge_36 : decode cX3_judge 36 = .ok (.getfield 33, 3) := by decide +kernel
theorem dX3_judge_39 : decode cX3_judge 39 = .ok (.invokestatic 177, 3) := by decide +kernel
theorem dX3_judge_42 : decode cX3_judge 42 = .ok (.istore_n 2, 1) := by decide +kernel
theorem dX3_judge_43 : decode cX3_judge 43 = .ok (.iconst 0, 1) := by decide +kernel
theorem dX3_judge_44 : decode cX3_judge 44 = .ok (.istore_n 3, 1) := by decide +kernel
theorem dX3_judge_45 : decode cX3_judge 45 = .ok (.iload_n 3, 1) := by decide +kernel
theorem dX3_judge_46 : decode cX3_judge 46 = .ok (.bipush 6, 2) := by decide +kernel
theorem dX3_judge_48 : decode cX3_judge 48 = .ok (.if_icmp .ge 54, 3) := by decide +kernel
theorem dX3_judge_51 : decode cX3_judge 51 = .ok (.iload_n 3, 1) := by decide +kernel
theorem dX3_judge_52 : decode cX3_judge 52 = .ok (.iload_n 1, 1) := by decide +kernel
theorem dX3_judge_53 : decode cX3_judge 53 = .ok (.if_icmp .ge 41, 3) := by decide +kernel
theorem dX3_judge_56 : decode cX3_judge 56 = .ok (.aload_n 0, 1) := by decide +kernel
theorem dX3_judge_57 : decode cX3_judge 57 = .ok (.getfield 33, 3) := by decide +kernel
theorem dX3_judge_60 : decode cX3_judge 60 = .ok (.iload_n 3, 1) := by decide +kernel
theorem dX3_judge_61 : decode cX3_judge 61 = .ok (.iaload, 1) := by decide +kernel
theorem dX3_judge_62 : decode cX3_judge 62 = .ok (.aload_n 0, 1) := by decide +kernel
theorem dX3_judge_63 : decode cX3_judge 63 = .ok (.getfield 29, 3) := by decide +kernel
theorem dX3_judge_66 : decode cX3_judge 66 = .ok (.aload_n 0, 1) := by decide +kernel
theorem dX3_judge_67 : decode cX3_judge 67 = .ok (.getfield 19, 3) := by decide +kernel
theorem dX3_judge_70 : decode cX3_judge 70 = .ok (.iload_n 3, 1) := by decide +kernel
theorem dX3_judge_71 : decode cX3_judge 71 = .ok (.aload_n 0, 1) := by decide +kernel
theorem dX3_judge_72 : decode cX3_judge 72 = .ok (.getfield 19, 3) := by decide +kernel
theorem dX3_judge_75 : decode cX3_judge 75 = .ok (.getfield 90, 3) := by decide +kernel
theorem dX3_judge_78 : decode cX3_judge 78 = .ok (.iload_n 3, 1) := by decide +kernel
theorem dX3_judge_79 : decode cX3_judge 79 = .ok (.iaload, 1) := by decide +kernel
theorem dX3_judge_80 : decode cX3_judge 80 = .ok (.iload_n 2, 1) := by decide +kernel
theorem dX3_judge_81 : decode cX3_judge 81 = .ok (.aload_n 0, 1) := by decide +kernel
theorem dX3_judge_82 : decode cX3_judge 82 = .ok (.getfield 33, 3) := by decide +kernel
theorem dX3_judge_85 : decode cX3_judge 85 = .ok (.iload_n 3, 1) := by decide +kernel
theorem dX3_judge_86 : decode cX3_judge 86 = .ok (.iaload, 1) := by decide +kernel
theorem dX3_judge_87 : decode cX3_judge 87 = .ok (.isub, 1) := by decide +kernel
theorem dX3_judge_88 : decode cX3_judge 88 = .ok (.invokevirtual 122, 3) := by decide +kernel
theorem dX3_judge_91 : decode cX3_judge 91 = .ok (.if_icmp .eq 5, 3) := by decide +kernel
theorem dX3_judge_94 : decode cX3_judge 94 = .ok (.iload_n 3, 1) := by decide +kernel
theorem dX3_judge_95 : decode cX3_judge 95 = .ok (.ireturn, 1) := by decide +kernel
theorem dX3_judge_96 : decode cX3_judge 96 = .ok (.iinc 3 1, 3) := by decide +kernel
theorem dX3_judge_99 : decode cX3_judge 99 = .ok (.goto (-54), 3) := by decide +kernel
theorem dX3_judge_102 : decode cX3_judge 102 = .ok (.bipush (-9), 2) := by decide +kernel
theorem dX3_judge_104 : decode cX3_judge 104 = .ok (.ireturn, 1) := by decide +kernel
theorem hd_X3_judge : yX3_judge.cls ≠ "java/lang/invoke/MethodHandle" ∧ yX3_judge.cls ≠ "java/lang/invoke/VarHandle" ∧ (parseMethodDescriptor yX3_judge.desc).map (fun d => d.parameters.length) = some 0 := by decide +kernel
def f_X3_judge_L45 (S : vS) : Nat → Int32 → Int32 → Int32 →  Option (Unit ⊕ (Int32 × vS))
  | 0, _, _, _ => none
  | n + 1, x1, x2, x3 => if (6 : Int32) ≤ x3 then some (.inl (())) else if x1 ≤ x3 then some (.inr (x3, S)) else if inb x3 6 = true then b1 (f_X1_dueBy x3 (S 23 (x3.toNatClampNeg)) (x2 - (S 32 (x3.toNatClampNeg))) S) fun r12 => if (S 32 (x3.toNatClampNeg)) = r12 then (f_X3_judge_L45 S n) x1 x2 (x3 + 1) else some (.inr (x3, S)) else none
def f_X3_judge  (S : vS) : Option (Int32 × vS) := b1 (f_J7_fill_fda19 32 (S 0 17) (6 : Int32) (0 : Int32) S) fun S2 => lt (upk S2 0 (upd (S2 0) 17 (0 : Int32))) fun S3 => b1 (f_X1_reckon  S3) fun S5 => b1 (f_X3_sumOf 32 S5) fun r7 => bS (f_X3_judge_L45 S5 FU (S2 0 17) r7 (0 : Int32)) some fun _ => some ((-9 : Int32), S5)
set_option maxHeartbeats 4000000 in
set_option maxRecDepth 20000 in
theorem c_X3_judge (l : Launch) (D : va_G) (cI cO : ClassId) (ad : Nat → Nat)  (S : vS) (R9 : Int32) (S9 : vS) (hf : f_X3_judge  S = some (R9, S9)) : CI l yX3_judge cX3_judge 4 .int ({ frames := 5, cells := 0, slots := 0, locals := 116 }) [.ref (ad 0)] D cI cO ad S R9 S9 := by
  refine CI.of (by decide +kernel) (Nat.le_of_ble_eq_true rfl) (fun p e s m args below meth c Q ls X hl hw hfin => ?_)
  have hl : lv_has ls 4 [(0, .ref (ad 0))] := hl
  have hx := X.1
  have hb := X.2.1
  have L45 : ∀ (S : vS) (n : Nat) (x1 : Int32) (x2 : Int32) (x3 : Int32) (res : (Unit ⊕ (Int32 × vS))), f_X3_judge_L45 S n x1 x2 x3 = some res → (K : some (Sum.inl (())) = some res → ∀ (H : Heap) (locs : List Loc) (ls : Array Slot), WD D cI cO ad s S H locs → lv_has ls 4 [] → W p l e ({ frames := 5, cells := 0, slots := 0, locals := 116 }) s m args below meth c H locs 0 0 Q (F0 m 102 ls [])) → (K2 : ∀ q : (Int32 × vS), some (Sum.inr q) = some res → some q = some (R9, S9)) → ∀ (H : Heap) (locs : List Loc) (ls : Array Slot), WD D cI cO ad s S H locs → lv_has ls 4 [(0, .ref (ad 0)), (1, .int x1), (2, .int x2), (3, .int x3)] → W p l e ({ frames := 5, cells := 0, slots := 0, locals := 116 }) s m args below meth c H locs 0 0 Q (F0 m 45 ls []) := by
    intro S n
    induction n with
    | zero => intro x1 x2 x3 res hf; cases hf
    | succ n ih =>
      intro x1 x2 x3 res hf K K2 H locs ls hw hl
      unfold f_X3_judge_L45 at hf
      refine lv_iload_n hx hb dX3_judge_45 rfl (lv_at hl 3 rfl) ?_
      refine lv_bipush (v := 6) hx hb dX3_judge_46 (by decide +kernel) ?_
      refine lv_icmp_ge (tgt := 102) hx hb dX3_judge_48 (by decide) (fun c8 => ?_) (fun c8 => ?_)
      · replace hf := if_t c8 hf
        exact K  hf _ _ _ hw (lv_sub hl [] rfl)
      · replace hf := if_f c8 hf
        refine lv_iload_n hx hb dX3_judge_51 rfl (lv_at hl 3 rfl) ?_
        refine lv_iload_n hx hb dX3_judge_52 rfl (lv_at hl 1 rfl) ?_
        refine lv_icmp_ge (tgt := 94) hx hb dX3_judge_53 (by decide) (fun c9 => ?_) (fun c9 => ?_)
        · replace hf := if_t c9 hf
          refine lv_iload_n hx hb dX3_judge_94 rfl (lv_at hl 3 rfl) ?_
          replace hf := K2 _ hf
          exact hfin _ _ _ _ _ _ hw (s2a hf) (s2b hf) (narI _) dX3_judge_95
        · replace hf := if_f c9 hf
          refine lv_aload_n hx hb dX3_judge_56 rfl (lv_at hl 0 rfl) ?_
          refine x_get X hw 0 (Nat.le_of_ble_eq_true rfl) ce0 rfl i_X3 4 (by decide) q186 ⟨rfl, rfl, rfl⟩ rfl dX3_judge_57 ?_
          refine lv_iload_n hx hb dX3_judge_60 rfl (lv_at hl 3 rfl) ?_
          obtain ⟨h10, hf⟩ := if_s hf
          refine x_iald X hw 32 ⟨Nat.le_of_ble_eq_true rfl, Nat.le_of_ble_eq_true rfl⟩ rfl h10 (x3.toNatClampNeg) rfl dX3_judge_61 ?_
          refine lv_aload_n hx hb dX3_judge_62 rfl (lv_at hl 0 rfl) ?_
          refine x_get X hw 0 (Nat.le_of_ble_eq_true rfl) ce0 rfl i_X3 3 (by decide) q185 ⟨rfl, rfl, rfl⟩ rfl dX3_judge_63 ?_
          refine lv_aload_n hx hb dX3_judge_66 rfl (lv_at hl 0 rfl) ?_
          refine x_get X hw 0 (Nat.le_of_ble_eq_true rfl) ce0 rfl i_X3 1 (by decide) q183 ⟨rfl, rfl, rfl⟩ rfl dX3_judge_67 ?_
          refine lv_iload_n hx hb dX3_judge_70 rfl (lv_at hl 3 rfl) ?_
          refine lv_aload_n hx hb dX3_judge_71 rfl (lv_at hl 0 rfl) ?_
          refine x_get X hw 0 (Nat.le_of_ble_eq_true rfl) ce0 rfl i_X3 1 (by decide) q183 ⟨rfl, rfl, rfl⟩ rfl dX3_judge_72 ?_
          refine x_getN X hw 2 (Nat.le_of_ble_eq_true rfl) ce2 rfl i_X0 2 (by decide) q119 ⟨rfl, rfl, rfl⟩ rfl dX3_judge_75 ?_
          refine lv_iload_n hx hb dX3_judge_78 rfl (lv_at hl 3 rfl) ?_
          refine x_iald X hw 23 ⟨Nat.le_of_ble_eq_true rfl, Nat.le_of_ble_eq_true rfl⟩ rfl h10 (x3.toNatClampNeg) rfl dX3_judge_79 ?_
          refine lv_iload_n hx hb dX3_judge_80 rfl (lv_at hl 2 rfl) ?_
          refine lv_aload_n hx hb dX3_judge_81 rfl (lv_at hl 0 rfl) ?_
          refine x_get X hw 0 (Nat.le_of_ble_eq_true rfl) ce0 rfl i_X3 4 (by decide) q186 ⟨rfl, rfl, rfl⟩ rfl dX3_judge_82 ?_
          refine lv_iload_n hx hb dX3_judge_85 rfl (lv_at hl 3 rfl) ?_
          refine x_iald X hw 32 ⟨Nat.le_of_ble_eq_true rfl, Nat.le_of_ble_eq_true rfl⟩ rfl h10 (x3.toNatClampNeg) rfl dX3_judge_86 ?_
          refine lv_isub hx hb dX3_judge_87 ?_
          obtain ⟨r12, h11, hf⟩ := b1_s hf
          refine kNi X hw (c_X1_dueBy l D cI cO ad x3 (S 23 (x3.toNatClampNeg)) (x2 - (S 32 (x3.toNatClampNeg))) S r12 h11) (Nat.le_of_ble_eq_true rfl) ce4 rfl ⟨rfl, rfl⟩ q427 q429 q18 q63 q430 hd_X1_dueBy ⟨Nat.le_of_ble_eq_true rfl, Nat.le_of_ble_eq_true rfl⟩ rfl hl.1 rfl (Nat.le_of_ble_eq_true rfl) dX3_judge_88 (fun H locs hw => ?_)
          refine lv_icmp_eq (tgt := 96) hx hb dX3_judge_91 (by decide) (fun c13 => ?_) (fun c13 => ?_)
          · replace hf := if_t c13 hf
            refine lv_iinc (v := (x3 + 1)) (lv' := [(3, .int (x3 + 1)), (0, .ref (ad 0)), (1, .int x1), (2, .int x2)]) hx hb dX3_judge_96 hl (k := 3) rfl rfl (by decide) rfl (fun ls hl => ?_)
            refine lv_goto (tgt := 45) hx hb dX3_judge_99 (by decide) ?_
            exact ih x1 x2 (x3 + 1) _ hf K K2 _ _ _ hw (lv_sub hl [1, 2, 3, 0] rfl)
          · replace hf := if_f c13 hf
            refine lv_iload_n hx hb dX3_judge_94 rfl (lv_at hl 3 rfl) ?_
            replace hf := K2 _ hf
            exact hfin _ _ _ _ _ _ hw (s2a hf) (s2b hf) (narI _) dX3_judge_95
  unfold f_X3_judge at hf
  refine lv_aload_n hx hb dX3_judge_0 rfl (lv_at hl 0 rfl) ?_
  refine x_get X hw 0 (Nat.le_of_ble_eq_true rfl) ce0 rfl i_X3 4 (by decide) q186 ⟨rfl, rfl, rfl⟩ rfl dX3_judge_1 ?_
  refine lv_aload_n hx hb dX3_judge_4 rfl (lv_at hl 0 rfl) ?_
  refine x_get X hw 0 (Nat.le_of_ble_eq_true rfl) ce0 rfl i_X3 6 (by decide) q188 ⟨rfl, rfl, rfl⟩ rfl dX3_judge_5 ?_
  refine lv_bipush (v := 6) hx hb dX3_judge_8 (by decide +kernel) ?_
  refine lv_iconst (v := 0) hx hb dX3_judge_10 (by decide) ?_
  obtain ⟨S2, h1, hf⟩ := b1_s hf
  refine kSv X hw (c_J7_fill_fda19 l D cI cO ad 32 (S 0 17) (6 : Int32) (0 : Int32) S S2 h1) ⟨rfl, rfl⟩ q553 q554 q71 q555 hd_J7_fill_fda19 ⟨Nat.le_of_ble_eq_true rfl, Nat.le_of_ble_eq_true rfl⟩ rfl hl.1 rfl (Nat.le_of_ble_eq_true rfl) dX3_judge_11 (fun H locs hw => ?_)
  refine lv_aload_n hx hb dX3_judge_14 rfl (lv_at hl 0 rfl) ?_
  refine x_get X hw 0 (Nat.le_of_ble_eq_true rfl) ce0 rfl i_X3 6 (by decide) q188 ⟨rfl, rfl, rfl⟩ rfl dX3_judge_15 ?_
  refine lv_istore_n (lv' := [(1, .int (S2 0 17)), (0, .ref (ad 0))]) hx hb dX3_judge_18 rfl hl (by decide) rfl (fun ls hl => ?_)
  refine lv_aload_n hx hb dX3_judge_19 rfl (lv_at hl 1 rfl) ?_
  refine lv_iconst (v := 0) hx hb dX3_judge_20 (by decide) ?_
  refine x_put X hw 0 (Nat.le_of_ble_eq_true rfl) ce0 rfl i_X3 tyX3_ok nmX3 6 (by decide) q188 ⟨rfl, rfl, rfl⟩ rfl pfI rfl rfl (Nat.le_of_ble_eq_true rfl) 17 (ws_17 _) dX3_judge_21 (fun S3 eS3 H locs hw => ?_)
  replace hf := lt_e eS3 hf
  refine lv_aload_n hx hb dX3_judge_24 rfl (lv_at hl 1 rfl) ?_
  refine x_get X hw 0 (Nat.le_of_ble_eq_true rfl) ce0 rfl i_X3 3 (by decide) q185 ⟨rfl, rfl, rfl⟩ rfl dX3_judge_25 ?_
  refine lv_aload_n hx hb dX3_judge_28 rfl (lv_at hl 1 rfl) ?_
  refine x_get X hw 0 (Nat.le_of_ble_eq_true rfl) ce0 rfl i_X3 1 (by decide) q183 ⟨rfl, rfl, rfl⟩ rfl dX3_judge_29 ?_
  obtain ⟨S5, h4, hf⟩ := b1_s hf
  refine kNv X hw (c_X1_reckon l D cI cO ad  S3 S5 h4) (Nat.le_of_ble_eq_true rfl) ce4 rfl ⟨rfl, rfl⟩ q365 q367 q7 q63 q368 hd_X1_reckon ⟨Nat.le_of_ble_eq_true rfl, Nat.le_of_ble_eq_true rfl⟩ rfl hl.1 rfl (Nat.le_of_ble_eq_true rfl) dX3_judge_32 (fun H locs hw => ?_)
  refine lv_aload_n hx hb dX3_judge_35 rfl (lv_at hl 1 rfl) ?_
  refine x_get X hw 0 (Nat.le_of_ble_eq_true rfl) ce0 rfl i_X3 4 (by decide) q186 ⟨rfl, rfl, rfl⟩ rfl dX3_judge_36 ?_
  obtain ⟨r7, h6, hf⟩ := b1_s hf
  refine kSi X hw (c_X3_sumOf l D cI cO ad 32 S5 r7 h6) ⟨rfl, rfl⟩ q559 q472 q59 q473 hd_X3_sumOf ⟨Nat.le_of_ble_eq_true rfl, Nat.le_of_ble_eq_true rfl⟩ rfl hl.1 rfl (Nat.le_of_ble_eq_true rfl) dX3_judge_39 (fun H locs hw => ?_)
  refine lv_istore_n (lv' := [(2, .int r7), (1, .int (S2 0 17)), (0, .ref (ad 0))]) hx hb dX3_judge_42 rfl hl (by decide) rfl (fun ls hl => ?_)
  refine lv_iconst (v := 0) hx hb dX3_judge_43 (by decide) ?_
  refine lv_istore_n (lv' := [(3, .int (0 : Int32)), (2, .int r7), (1, .int (S2 0 17)), (0, .ref (ad 0))]) hx hb dX3_judge_44 rfl hl (by decide) rfl (fun ls hl => ?_)
  obtain ⟨res, h14, hk1, hk2⟩ := bS_x hf
  refine L45 S5 FU (S2 0 17) r7 (0 : Int32) res h14 (fun eK H locs ls hw hl => ?_) (fun q eK => hk2 q (Option.some.inj eK).symm) _ _ _ hw (lv_sub hl [3, 2, 1, 0] rfl)
  replace hf := hk1 _ (Option.some.inj eK).symm
  refine lv_bipush (v := -9) hx hb dX3_judge_102 (by decide +kernel) ?_
  exact hfin _ _ _ _ _ _ hw (s2a hf) (s2b hf) (narI _) dX3_judge_104
/-- NineLands.image()I -/
theorem dX3_image_0 : decode cX3_image 0 = .ok (.aload_n 0, 1) := by decide +kernel
theorem dX3_image_1 : decode cX3_image 1 = .ok (.getfield 23, 3) := by decide +kernel
theorem dX3_image_4 : decode cX3_image 4 = .ok (.aload_n 0, 1) := by decide +kernel
theorem dX3_image_5 : decode cX3_image 5 = .ok (.getfield 19, 3) := by decide +kernel
theorem dX3_image_8 : decode cX3_image 8 = .ok (.invokevirtual 181, 3) := by decide +kernel
theorem dX3_image_11 : decode cX3_image 11 = .ok (.aload_n 0, 1) := by decide +kernel
theorem dX3_image_12 : decode cX3_image 12 = .ok (.iconst 1, 1) := by decide +kernel
theorem dX3_image_13 : decode cX3_image 13 = .ok (.putfield 44, 3) := by decide +kernel
theorem dX3_image_16 : decode cX3_image 16 = .ok (.aload_n 0, 1) := by decide +kernel
theorem dX3_image_17 : decode cX3_image 17 = .ok (.getfield 19, 3) := by decide +kernel
theorem dX3_image_20 : decode cX3_image 20 = .ok (.getfield 60, 3) := by decide +kernel
theorem dX3_image_23 : decode cX3_image 23 = .ok (.ireturn, 1) := by decide +kernel
theorem hd_X3_image : yX3_image.cls ≠ "java/lang/invoke/MethodHandle" ∧ yX3_image.cls ≠ "java/lang/invoke/VarHandle" ∧ (parseMethodDescriptor yX3_image.desc).map (fun d => d.parameters.length) = some 0 := by decide +kernel
def f_X3_image  (S : vS) : Option (Int32 × vS) := b1 (f_X0_copyFrom_kb  S) fun S2 => lt (upk S2 0 (upd (S2 0) 18 (1 : Int32))) fun S3 => some ((S3 0 12), S3)
set_option maxHeartbeats 4000000 in
set_option maxRecDepth 20000 in
theorem c_X3_image (l : Launch) (D : va_G) (cI cO : ClassId) (ad : Nat → Nat)  (S : vS) (R9 : Int32) (S9 : vS) (hf : f_X3_image  S = some (R9, S9)) : CI l yX3_image cX3_image 1 .int ({ frames := 2, cells := 0, slots := 0, locals := 48 }) [.ref (ad 0)] D cI cO ad S R9 S9 := by
  refine CI.of (by decide +kernel) (Nat.le_of_ble_eq_true rfl) (fun p e s m args below meth c Q ls X hl hw hfin => ?_)
  have hl : lv_has ls 1 [(0, .ref (ad 0))] := hl
  have hx := X.1
  have hb := X.2.1
  unfold f_X3_image at hf
  refine lv_aload_n hx hb dX3_image_0 rfl (lv_at hl 0 rfl) ?_
  refine x_get X hw 0 (Nat.le_of_ble_eq_true rfl) ce0 rfl i_X3 2 (by decide) q184 ⟨rfl, rfl, rfl⟩ rfl dX3_image_1 ?_
  refine lv_aload_n hx hb dX3_image_4 rfl (lv_at hl 0 rfl) ?_
  refine x_get X hw 0 (Nat.le_of_ble_eq_true rfl) ce0 rfl i_X3 1 (by decide) q183 ⟨rfl, rfl, rfl⟩ rfl dX3_image_5 ?_
  obtain ⟨S2, h1, hf⟩ := b1_s hf
  refine kNv X hw (c_X0_copyFrom_kb l D cI cO ad  S S2 h1) (Nat.le_of_ble_eq_true rfl) ce3 rfl ⟨rfl, rfl⟩ q564 q566 q31 q61 q567 hd_X0_copyFrom ⟨Nat.le_of_ble_eq_true rfl, Nat.le_of_ble_eq_true rfl⟩ rfl hl.1 rfl (Nat.le_of_ble_eq_true rfl) dX3_image_8 (fun H locs hw => ?_)
  refine lv_aload_n hx hb dX3_image_11 rfl (lv_at hl 0 rfl) ?_
  refine lv_iconst (v := 1) hx hb dX3_image_12 (by decide) ?_
  refine x_put X hw 0 (Nat.le_of_ble_eq_true rfl) ce0 rfl i_X3 tyX3_ok nmX3 7 (by decide) q189 ⟨rfl, rfl, rfl⟩ rfl pfZ rfl rfl (Nat.le_of_ble_eq_true rfl) 18 (ws_18 _) dX3_image_13 (fun S3 eS3 H locs hw => ?_)
  replace hf := lt_e eS3 hf
  refine lv_aload_n hx hb dX3_image_16 rfl (lv_at hl 0 rfl) ?_
  refine x_get X hw 0 (Nat.le_of_ble_eq_true rfl) ce0 rfl i_X3 1 (by decide) q183 ⟨rfl, rfl, rfl⟩ rfl dX3_image_17 ?_
  refine x_getN X hw 2 (Nat.le_of_ble_eq_true rfl) ce2 rfl i_X0 4 (by decide) q125 ⟨rfl, rfl, rfl⟩ rfl dX3_image_20 ?_
  exact hfin _ _ _ _ _ _ hw (s2a hf) (s2b hf) (narI _) dX3_image_23
/-- NineLands.on()I -/
theorem dX3_on_0 : decode cX3_on 0 = .ok (.aload_n 0, 1) := by decide +kernel
theorem dX3_on_1 : decode cX3_on 1 = .ok (.getfield 44, 3) := by decide +kernel
theorem dX3_on_4 : decode cX3_on 4 = .ok (.ifCond .ne 10, 3) := by decide +kernel
theorem dX3_on_7 : decode cX3_on 7 = .ok (.aload_n 0, 1) := by decide +kernel
theorem dX3_on_8 : decode cX3_on 8 = .ok (.bipush (-3), 2) := by decide +kernel
theorem dX3_on_10 : decode cX3_on 10 = .ok (.invokevirtual 48, 3) := by decide +kernel
theorem dX3_on_13 : decode cX3_on 13 = .ok (.ireturn, 1) := by decide +kernel
theorem dX3_on_14 : decode cX3_on 14 = .ok (.aload_n 0, 1) := by decide +kernel
theorem dX3_on_15 : decode cX3_on 15 = .ok (.getfield 19, 3) := by decide +kernel
theorem dX3_on_18 : decode cX3_on 18 = .ok (.aload_n 0, 1) := by decide +kernel
theorem dX3_on_19 : decode cX3_on 19 = .ok (.getfield 23, 3) := by decide +kernel
theorem dX3_on_22 : decode cX3_on 22 = .ok (.invokevirtual 181, 3) := by decide +kernel
theorem dX3_on_25 : decode cX3_on 25 = .ok (.aload_n 0, 1) := by decide +kernel
theorem dX3_on_26 : decode cX3_on 26 = .ok (.getfield 19, 3) := by decide +kernel
theorem dX3_on_29 : decode cX3_on 29 = .ok (.getfield 60, 3) := by decide +kernel
theorem dX3_on_32 : decode cX3_on 32 = .ok (.ireturn, 1) := by decide +kernel
theorem hd_X3_on : yX3_on.cls ≠ "java/lang/invoke/MethodHandle" ∧ yX3_on.cls ≠ "java/lang/invoke/VarHandle" ∧ (parseMethodDescriptor yX3_on.desc).map (fun d => d.parameters.length) = some 0 := by decide +kernel
def f_X3_on  (S : vS) : Option (Int32 × vS) := if (S 0 18) = 0 then b2 (f_X3_refuse (-3 : Int32) S) fun r6 S5 => some (r6, S5) else b1 (f_X0_copyFrom_bk  S) fun S3 => some ((S3 0 12), S3)
set_option maxHeartbeats 4000000 in
set_option maxRecDepth 20000 in
theorem c_X3_on (l : Launch) (D : va_G) (cI cO : ClassId) (ad : Nat → Nat)  (S : vS) (R9 : Int32) (S9 : vS) (hf : f_X3_on  S = some (R9, S9)) : CI l yX3_on cX3_on 1 .int ({ frames := 2, cells := 0, slots := 0, locals := 48 }) [.ref (ad 0)] D cI cO ad S R9 S9 := by
  refine CI.of (by decide +kernel) (Nat.le_of_ble_eq_true rfl) (fun p e s m args below meth c Q ls X hl hw hfin => ?_)
  have hl : lv_has ls 1 [(0, .ref (ad 0))] := hl
  have hx := X.1
  have hb := X.2.1
  unfold f_X3_on at hf
  refine lv_aload_n hx hb dX3_on_0 rfl (lv_at hl 0 rfl) ?_
  refine x_get X hw 0 (Nat.le_of_ble_eq_true rfl) ce0 rfl i_X3 7 (by decide) q189 ⟨rfl, rfl, rfl⟩ rfl dX3_on_1 ?_
  refine lv_if_ne (tgt := 14) hx hb dX3_on_4 (by decide) (fun c1 => ?_) (fun c1 => ?_)
  · replace hf := if_f c1 hf
    refine lv_aload_n hx hb dX3_on_14 rfl (lv_at hl 0 rfl) ?_
    refine x_get X hw 0 (Nat.le_of_ble_eq_true rfl) ce0 rfl i_X3 1 (by decide) q183 ⟨rfl, rfl, rfl⟩ rfl dX3_on_15 ?_
    refine lv_aload_n hx hb dX3_on_18 rfl (lv_at hl 0 rfl) ?_
    refine x_get X hw 0 (Nat.le_of_ble_eq_true rfl) ce0 rfl i_X3 2 (by decide) q184 ⟨rfl, rfl, rfl⟩ rfl dX3_on_19 ?_
    obtain ⟨S3, h2, hf⟩ := b1_s hf
    refine kNv X hw (c_X0_copyFrom_bk l D cI cO ad  S S3 h2) (Nat.le_of_ble_eq_true rfl) ce2 rfl ⟨rfl, rfl⟩ q564 q566 q31 q61 q567 hd_X0_copyFrom ⟨Nat.le_of_ble_eq_true rfl, Nat.le_of_ble_eq_true rfl⟩ rfl hl.1 rfl (Nat.le_of_ble_eq_true rfl) dX3_on_22 (fun H locs hw => ?_)
    refine lv_aload_n hx hb dX3_on_25 rfl (lv_at hl 0 rfl) ?_
    refine x_get X hw 0 (Nat.le_of_ble_eq_true rfl) ce0 rfl i_X3 1 (by decide) q183 ⟨rfl, rfl, rfl⟩ rfl dX3_on_26 ?_
    refine x_getN X hw 2 (Nat.le_of_ble_eq_true rfl) ce2 rfl i_X0 4 (by decide) q125 ⟨rfl, rfl, rfl⟩ rfl dX3_on_29 ?_
    exact hfin _ _ _ _ _ _ hw (s2a hf) (s2b hf) (narI _) dX3_on_32
  · replace hf := if_t c1 hf
    refine lv_aload_n hx hb dX3_on_7 rfl (lv_at hl 0 rfl) ?_
    refine lv_bipush (v := -3) hx hb dX3_on_8 (by decide +kernel) ?_
    obtain ⟨r6, S5, h4, hf⟩ := b2_s hf
    refine kVi X hw (c_X3_refuse l D cI cO ad (-3 : Int32) S r6 S5 h4) (Nat.le_of_ble_eq_true rfl) ce0 rfl ⟨rfl, rfl⟩ q211 q213 q0 q59 q214 hd_X3_refuse ⟨Nat.le_of_ble_eq_true rfl, Nat.le_of_ble_eq_true rfl⟩ rfl hl.1 rfl (Nat.le_of_ble_eq_true rfl) dX3_on_10 (fun H locs hw => ?_)
    exact hfin _ _ _ _ _ _ hw (s2a hf) (s2b hf) (narI _) dX3_on_13
/-- NineLands.count(I)I -/
theorem dX3_count_0 : decode cX3_count 0 = .ok (.iload_n 1, 1) := by decide +kernel
theorem dX3_count_1 : decode cX3_count 1 = .ok (.tableswitch 84 0 5 #[39, 47, 55, 63, 71, 76], 39) := by decide +kernel
theorem dX3_count_40 : decode cX3_count 40 = .ok (.aload_n 0, 1) := by decide +kernel
theorem dX3_count_41 : decode cX3_count 41 = .ok (.getfield 19, 3) := by decide +kernel
theorem dX3_count_44 : decode cX3_count 44 = .ok (.getfield 60, 3) := by decide +kernel
theorem dX3_count_47 : decode cX3_count 47 = .ok (.ireturn, 1) := by decide +kernel
theorem dX3_count_48 : decode cX3_count 48 = .ok (.aload_n 0, 1) := by decide +kernel
theorem dX3_count_49 : decode cX3_count 49 = .ok (.getfield 19, 3) := by decide +kernel
theorem dX3_count_52 : decode cX3_count 52 = .ok (.invokevirtual 184, 3) := by decide +kernel
theorem dX3_count_55 : decode cX3_count 55 = .ok (.ireturn, 1) := by decide +kernel
theorem dX3_count_56 : decode cX3_count 56 = .ok (.aload_n 0, 1) := by decide +kernel
theorem dX3_count_57 : decode cX3_count 57 = .ok (.getfield 19, 3) := by decide +kernel
theorem dX3_count_60 : decode cX3_count 60 = .ok (.invokevirtual 187, 3) := by decide +kernel
theorem dX3_count_63 : decode cX3_count 63 = .ok (.ireturn, 1) := by decide +kernel
theorem dX3_count_64 : decode cX3_count 64 = .ok (.aload_n 0, 1) := by decide +kernel
theorem dX3_count_65 : decode cX3_count 65 = .ok (.getfield 10, 3) := by decide +kernel
theorem dX3_count_68 : decode cX3_count 68 = .ok (.getfield 52, 3) := by decide +kernel
theorem dX3_count_71 : decode cX3_count 71 = .ok (.ireturn, 1) := by decide +kernel
theorem dX3_count_72 : decode cX3_count 72 = .ok (.aload_n 0, 1) := by decide +kernel
theorem dX3_count_73 : decode cX3_count 73 = .ok (.getfield 40, 3) := by decide +kernel
theorem dX3_count_76 : decode cX3_count 76 = .ok (.ireturn, 1) := by decide +kernel
theorem dX3_count_77 : decode cX3_count 77 = .ok (.aload_n 0, 1) := by decide +kernel
theorem dX3_count_78 : decode cX3_count 78 = .ok (.getfield 19, 3) := by decide +kernel
theorem dX3_count_81 : decode cX3_count 81 = .ok (.invokevirtual 148, 3) := by decide +kernel
theorem dX3_count_84 : decode cX3_count 84 = .ok (.ireturn, 1) := by decide +kernel
theorem dX3_count_85 : decode cX3_count 85 = .ok (.iload_n 1, 1) := by decide +kernel
theorem dX3_count_86 : decode cX3_count 86 = .ok (.bipush 10, 2) := by decide +kernel
theorem dX3_count_88 : decode cX3_count 88 = .ok (.if_icmp .le 21, 3) := by decide +kernel
theorem dX3_count_91 : decode cX3_count 91 = .ok (.iload_n 1, 1) := by decide +kernel
theorem dX3_count_92 : decode cX3_count 92 = .ok (.bipush 16, 2) := by decide +kernel
theorem dX3_count_94 : decode cX3_count 94 = .ok (.if_icmp .gt 15, 3) := by decide +kernel
theorem dX3_count_97 : decode cX3_count 97 = .ok (.aload_n 0, 1) := by decide +kernel
theorem dX3_count_98 : decode cX3_count 98 = .ok (.getfield 37, 3) := by decide +kernel
theorem dX3_count_101 : decode cX3_count 101 = .ok (.iload_n 1, 1) := by decide +kernel
theorem dX3_count_102 : decode cX3_count 102 = .ok (.bipush 10, 2) := by decide +kernel
theorem dX3_count_104 : decode cX3_count 104 = .ok (.isub, 1) := by decide +kernel
theorem dX3_count_105 : decode cX3_count 105 = .ok (.iaload, 1) := by decide +kernel
theorem dX3_count_106 : decode cX3_count 106 = .ok (.goto 5, 3) := by decide +kernel
theorem dX3_count_109 : decode cX3_count 109 = .ok (.bipush (-9), 2) := by decide +kernel
theorem dX3_count_111 : decode cX3_count 111 = .ok (.ireturn, 1) := by decide +kernel
theorem hd_X3_count : yX3_count.cls ≠ "java/lang/invoke/MethodHandle" ∧ yX3_count.cls ≠ "java/lang/invoke/VarHandle" ∧ (parseMethodDescriptor yX3_count.desc).map (fun d => d.parameters.length) = some 1 := by decide +kernel
def f_X3_count (a1 : Int32) (S : vS) : Option Int32 := if a1 = (0 : Int32) then some (S 0 12) else if a1 = (1 : Int32) then b1 (f_X0_shownSpells  S) fun r4 => some r4 else if a1 = (2 : Int32) then b1 (f_X0_madePacts  S) fun r7 => some r7 else if a1 = (3 : Int32) then some (S 0 10) else if a1 = (4 : Int32) then some (S 0 17) else if a1 = (5 : Int32) then b1 (f_X0_behind  S) fun r12 => some r12 else if a1 ≤ (10 : Int32) then some (-9 : Int32) else if (16 : Int32) < a1 then some (-9 : Int32) else if inb (a1 - (10 : Int32)) 7 = true then some (S 33 ((a1 - (10 : Int32)).toNatClampNeg)) else none
set_option maxHeartbeats 4000000 in
set_option maxRecDepth 20000 in
theorem c_X3_count (l : Launch) (D : va_G) (cI cO : ClassId) (ad : Nat → Nat) (a1 : Int32) (S : vS) (R9 : Int32) (hf : f_X3_count a1 S = some R9) : CI l yX3_count cX3_count 2 .int ({ frames := 2, cells := 0, slots := 0, locals := 43 }) [.ref (ad 0), .int a1] D cI cO ad S R9 S := by
  refine CI.of (by decide +kernel) (Nat.le_of_ble_eq_true rfl) (fun p e s m args below meth c Q ls X hl hw hfin => ?_)
  have hl : lv_has ls 2 [(0, .ref (ad 0)), (1, .int a1)] := hl
  have hx := X.1
  have hb := X.2.1
  unfold f_X3_count at hf
  refine lv_iload_n hx hb dX3_count_0 rfl (lv_at hl 1 rfl) ?_
  by_cases c1 : a1 = (0 : Int32)
  · replace hf := if_t c1 hf
    refine lv_tableIn (off := 39) (tgt := 40) hx hb dX3_count_1 (by rw [c1]; decide) (by rw [c1]; decide) (by rw [c1]; rfl) (by decide) ?_
    refine lv_aload_n hx hb dX3_count_40 rfl (lv_at hl 0 rfl) ?_
    refine x_get X hw 0 (Nat.le_of_ble_eq_true rfl) ce0 rfl i_X3 1 (by decide) q183 ⟨rfl, rfl, rfl⟩ rfl dX3_count_41 ?_
    refine x_getN X hw 2 (Nat.le_of_ble_eq_true rfl) ce2 rfl i_X0 4 (by decide) q125 ⟨rfl, rfl, rfl⟩ rfl dX3_count_44 ?_
    exact hfin _ _ _ _ _ _ hw (Option.some.inj hf) rfl (narI _) dX3_count_47
  · replace hf := if_f c1 hf
    by_cases c2 : a1 = (1 : Int32)
    · replace hf := if_t c2 hf
      refine lv_tableIn (off := 47) (tgt := 48) hx hb dX3_count_1 (by rw [c2]; decide) (by rw [c2]; decide) (by rw [c2]; rfl) (by decide) ?_
      refine lv_aload_n hx hb dX3_count_48 rfl (lv_at hl 0 rfl) ?_
      refine x_get X hw 0 (Nat.le_of_ble_eq_true rfl) ce0 rfl i_X3 1 (by decide) q183 ⟨rfl, rfl, rfl⟩ rfl dX3_count_49 ?_
      obtain ⟨r4, h3, hf⟩ := b1_s hf
      refine kNi X hw (c_X0_shownSpells l D cI cO ad  S r4 h3) (Nat.le_of_ble_eq_true rfl) ce2 rfl ⟨rfl, rfl⟩ q576 q578 q32 q61 q579 hd_X0_shownSpells ⟨Nat.le_of_ble_eq_true rfl, Nat.le_of_ble_eq_true rfl⟩ rfl hl.1 rfl (Nat.le_of_ble_eq_true rfl) dX3_count_52 (fun H locs hw => ?_)
      exact hfin _ _ _ _ _ _ hw (Option.some.inj hf) rfl (narI _) dX3_count_55
    · replace hf := if_f c2 hf
      by_cases c5 : a1 = (2 : Int32)
      · replace hf := if_t c5 hf
        refine lv_tableIn (off := 55) (tgt := 56) hx hb dX3_count_1 (by rw [c5]; decide) (by rw [c5]; decide) (by rw [c5]; rfl) (by decide) ?_
        refine lv_aload_n hx hb dX3_count_56 rfl (lv_at hl 0 rfl) ?_
        refine x_get X hw 0 (Nat.le_of_ble_eq_true rfl) ce0 rfl i_X3 1 (by decide) q183 ⟨rfl, rfl, rfl⟩ rfl dX3_count_57 ?_
        obtain ⟨r7, h6, hf⟩ := b1_s hf
        refine kNi X hw (c_X0_madePacts l D cI cO ad  S r7 h6) (Nat.le_of_ble_eq_true rfl) ce2 rfl ⟨rfl, rfl⟩ q580 q582 q33 q61 q583 hd_X0_madePacts ⟨Nat.le_of_ble_eq_true rfl, Nat.le_of_ble_eq_true rfl⟩ rfl hl.1 rfl (Nat.le_of_ble_eq_true rfl) dX3_count_60 (fun H locs hw => ?_)
        exact hfin _ _ _ _ _ _ hw (Option.some.inj hf) rfl (narI _) dX3_count_63
      · replace hf := if_f c5 hf
        by_cases c8 : a1 = (3 : Int32)
        · replace hf := if_t c8 hf
          refine lv_tableIn (off := 63) (tgt := 64) hx hb dX3_count_1 (by rw [c8]; decide) (by rw [c8]; decide) (by rw [c8]; rfl) (by decide) ?_
          refine lv_aload_n hx hb dX3_count_64 rfl (lv_at hl 0 rfl) ?_
          refine x_get X hw 0 (Nat.le_of_ble_eq_true rfl) ce0 rfl i_X3 0 (by decide) q182 ⟨rfl, rfl, rfl⟩ rfl dX3_count_65 ?_
          refine x_getN X hw 1 (Nat.le_of_ble_eq_true rfl) ce1 rfl i_X2 1 (by decide) q89 ⟨rfl, rfl, rfl⟩ rfl dX3_count_68 ?_
          exact hfin _ _ _ _ _ _ hw (Option.some.inj hf) rfl (narI _) dX3_count_71
        · replace hf := if_f c8 hf
          by_cases c9 : a1 = (4 : Int32)
          · replace hf := if_t c9 hf
            refine lv_tableIn (off := 71) (tgt := 72) hx hb dX3_count_1 (by rw [c9]; decide) (by rw [c9]; decide) (by rw [c9]; rfl) (by decide) ?_
            refine lv_aload_n hx hb dX3_count_72 rfl (lv_at hl 0 rfl) ?_
            refine x_get X hw 0 (Nat.le_of_ble_eq_true rfl) ce0 rfl i_X3 6 (by decide) q188 ⟨rfl, rfl, rfl⟩ rfl dX3_count_73 ?_
            exact hfin _ _ _ _ _ _ hw (Option.some.inj hf) rfl (narI _) dX3_count_76
          · replace hf := if_f c9 hf
            by_cases c10 : a1 = (5 : Int32)
            · replace hf := if_t c10 hf
              refine lv_tableIn (off := 76) (tgt := 77) hx hb dX3_count_1 (by rw [c10]; decide) (by rw [c10]; decide) (by rw [c10]; rfl) (by decide) ?_
              refine lv_aload_n hx hb dX3_count_77 rfl (lv_at hl 0 rfl) ?_
              refine x_get X hw 0 (Nat.le_of_ble_eq_true rfl) ce0 rfl i_X3 1 (by decide) q183 ⟨rfl, rfl, rfl⟩ rfl dX3_count_78 ?_
              obtain ⟨r12, h11, hf⟩ := b1_s hf
              refine kNi X hw (c_X0_behind l D cI cO ad  S r12 h11) (Nat.le_of_ble_eq_true rfl) ce2 rfl ⟨rfl, rfl⟩ q510 q512 q26 q61 q513 hd_X0_behind ⟨Nat.le_of_ble_eq_true rfl, Nat.le_of_ble_eq_true rfl⟩ rfl hl.1 rfl (Nat.le_of_ble_eq_true rfl) dX3_count_81 (fun H locs hw => ?_)
              exact hfin _ _ _ _ _ _ hw (Option.some.inj hf) rfl (narI _) dX3_count_84
            · replace hf := if_f c10 hf
              have nc1 : ¬ (a1).toInt = 0 := lv_neT c1 (by decide)
              have nc2 : ¬ (a1).toInt = 1 := lv_neT c2 (by decide)
              have nc5 : ¬ (a1).toInt = 2 := lv_neT c5 (by decide)
              have nc8 : ¬ (a1).toInt = 3 := lv_neT c8 (by decide)
              have nc9 : ¬ (a1).toInt = 4 := lv_neT c9 (by decide)
              have nc10 : ¬ (a1).toInt = 5 := lv_neT c10 (by decide)
              refine lv_tableOut (tgt := 85) hx hb dX3_count_1 (by omega) (by decide) ?_
              refine lv_iload_n hx hb dX3_count_85 rfl (lv_at hl 1 rfl) ?_
              refine lv_bipush (v := 10) hx hb dX3_count_86 (by decide +kernel) ?_
              refine lv_icmp_le (tgt := 109) hx hb dX3_count_88 (by decide) (fun c13 => ?_) (fun c13 => ?_)
              · replace hf := if_t c13 hf
                refine lv_bipush (v := -9) hx hb dX3_count_109 (by decide +kernel) ?_
                exact hfin _ _ _ _ _ _ hw (Option.some.inj hf) rfl (narI _) dX3_count_111
              · replace hf := if_f c13 hf
                refine lv_iload_n hx hb dX3_count_91 rfl (lv_at hl 1 rfl) ?_
                refine lv_bipush (v := 16) hx hb dX3_count_92 (by decide +kernel) ?_
                refine lv_icmp_gt (tgt := 109) hx hb dX3_count_94 (by decide) (fun c14 => ?_) (fun c14 => ?_)
                · replace hf := if_t c14 hf
                  refine lv_bipush (v := -9) hx hb dX3_count_109 (by decide +kernel) ?_
                  exact hfin _ _ _ _ _ _ hw (Option.some.inj hf) rfl (narI _) dX3_count_111
                · replace hf := if_f c14 hf
                  refine lv_aload_n hx hb dX3_count_97 rfl (lv_at hl 0 rfl) ?_
                  refine x_get X hw 0 (Nat.le_of_ble_eq_true rfl) ce0 rfl i_X3 5 (by decide) q187 ⟨rfl, rfl, rfl⟩ rfl dX3_count_98 ?_
                  refine lv_iload_n hx hb dX3_count_101 rfl (lv_at hl 1 rfl) ?_
                  refine lv_bipush (v := 10) hx hb dX3_count_102 (by decide +kernel) ?_
                  refine lv_isub hx hb dX3_count_104 ?_
                  obtain ⟨h15, hf⟩ := if_s hf
                  refine x_iald X hw 33 ⟨Nat.le_of_ble_eq_true rfl, Nat.le_of_ble_eq_true rfl⟩ rfl h15 ((a1 - (10 : Int32)).toNatClampNeg) rfl dX3_count_105 ?_
                  refine lv_goto (tgt := 111) hx hb dX3_count_106 (by decide) ?_
                  exact hfin _ _ _ _ _ _ hw (Option.some.inj hf) rfl (narI _) dX3_count_111
