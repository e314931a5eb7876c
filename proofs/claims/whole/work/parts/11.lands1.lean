/-- NineLands.refuse(I)I -/
theorem dX3_refuse_0 : decode cX3_refuse 0 = .ok (.aload_n 0, 1) := by decide +kernel
theorem dX3_refuse_1 : decode cX3_refuse 1 = .ok (.getfield 37, 3) := by decide +kernel
theorem dX3_refuse_4 : decode cX3_refuse 4 = .ok (.iload_n 1, 1) := by decide +kernel
theorem dX3_refuse_5 : decode cX3_refuse 5 = .ok (.ineg, 1) := by decide +kernel
theorem dX3_refuse_6 : decode cX3_refuse 6 = .ok (.dup2, 1) := by decide +kernel
theorem dX3_refuse_7 : decode cX3_refuse 7 = .ok (.iaload, 1) := by decide +kernel
theorem dX3_refuse_8 : decode cX3_refuse 8 = .ok (.iconst 1, 1) := by decide +kernel
theorem dX3_refuse_9 : decode cX3_refuse 9 = .ok (.iadd, 1) := by decide +kernel
theorem dX3_refuse_10 : decode cX3_refuse 10 = .ok (.iastore, 1) := by decide +kernel
theorem dX3_refuse_11 : decode cX3_refuse 11 = .ok (.iload_n 1, 1) := by decide +kernel
theorem dX3_refuse_12 : decode cX3_refuse 12 = .ok (.ireturn, 1) := by decide +kernel
theorem hd_X3_refuse : yX3_refuse.cls ≠ "java/lang/invoke/MethodHandle" ∧ yX3_refuse.cls ≠ "java/lang/invoke/VarHandle" ∧ (parseMethodDescriptor yX3_refuse.desc).map (fun d => d.parameters.length) = some 1 := by decide +kernel
def f_X3_refuse (a1 : Int32) (S : vS) : Option (Int32 × vS) := if inb (-a1) 7 = true then lt (upk S 33 (upd (S 33) ((-a1).toNatClampNeg) ((S 33 ((-a1).toNatClampNeg)) + (1 : Int32)))) fun S2 => some (a1, S2) else none
set_option maxHeartbeats 4000000 in
set_option maxRecDepth 20000 in
theorem c_X3_refuse (l : Launch) (D : va_G) (cI cO : ClassId) (ad : Nat → Nat) (a1 : Int32) (S : vS) (R9 : Int32) (S9 : vS) (hf : f_X3_refuse a1 S = some (R9, S9)) : CI l yX3_refuse cX3_refuse 2 .int ({ frames := 0, cells := 0, slots := 0, locals := 0 }) [.ref (ad 0), .int a1] D cI cO ad S R9 S9 := by
  refine CI.of (by decide +kernel) (Nat.le_of_ble_eq_true rfl) (fun p e s m args below meth c Q ls X hl hw hfin => ?_)
  have hl : lv_has ls 2 [(0, .ref (ad 0)), (1, .int a1)] := hl
  have hx := X.1
  have hb := X.2.1
  unfold f_X3_refuse at hf
  refine lv_aload_n hx hb dX3_refuse_0 rfl (lv_at hl 0 rfl) ?_
  refine x_get X hw 0 (Nat.le_of_ble_eq_true rfl) ce0 rfl i_X3 5 (by decide) q187 ⟨rfl, rfl, rfl⟩ rfl dX3_refuse_1 ?_
  refine lv_iload_n hx hb dX3_refuse_4 rfl (lv_at hl 1 rfl) ?_
  refine lv_ineg hx hb dX3_refuse_5 ?_
  refine lv_dup2_11 hx hb dX3_refuse_6 rfl rfl ?_
  obtain ⟨h1, hf⟩ := if_s hf
  refine x_iald X hw 33 ⟨Nat.le_of_ble_eq_true rfl, Nat.le_of_ble_eq_true rfl⟩ rfl h1 ((-a1).toNatClampNeg) rfl dX3_refuse_7 ?_
  refine lv_iconst (v := 1) hx hb dX3_refuse_8 (by decide) ?_
  refine lv_iadd hx hb dX3_refuse_9 ?_
  refine x_iast X hw 33 ⟨Nat.le_of_ble_eq_true rfl, Nat.le_of_ble_eq_true rfl⟩ rfl h1 ((-a1).toNatClampNeg) rfl dX3_refuse_10 (fun S2 eS2 H locs hw => ?_)
  replace hf := lt_e eS2 hf
  refine lv_iload_n hx hb dX3_refuse_11 rfl (lv_at hl 1 rfl) ?_
  exact hfin _ _ _ _ _ _ hw (s2a hf) (s2b hf) (narI _) dX3_refuse_12
/-- NineLands.refuseSum(I)I -/
theorem dX3_refuseSum_0 : decode cX3_refuseSum 0 = .ok (.ldc 190, 2) := by decide +kernel
theorem dX3_refuseSum_2 : decode cX3_refuseSum 2 = .ok (.aload_n 0, 1) := by decide +kernel
theorem dX3_refuseSum_3 : decode cX3_refuseSum 3 = .ok (.iload_n 1, 1) := by decide +kernel
theorem dX3_refuseSum_4 : decode cX3_refuseSum 4 = .ok (.invokevirtual 48, 3) := by decide +kernel
theorem dX3_refuseSum_7 : decode cX3_refuseSum 7 = .ok (.isub, 1) := by decide +kernel
theorem dX3_refuseSum_8 : decode cX3_refuseSum 8 = .ok (.ireturn, 1) := by decide +kernel
theorem hd_X3_refuseSum : yX3_refuseSum.cls ≠ "java/lang/invoke/MethodHandle" ∧ yX3_refuseSum.cls ≠ "java/lang/invoke/VarHandle" ∧ (parseMethodDescriptor yX3_refuseSum.desc).map (fun d => d.parameters.length) = some 1 := by decide +kernel
def f_X3_refuseSum (a1 : Int32) (S : vS) : Option (Int32 × vS) := b2 (f_X3_refuse a1 S) fun r3 S2 => some (((1000000000 : Int32) - r3), S2)
set_option maxHeartbeats 4000000 in
set_option maxRecDepth 20000 in
theorem c_X3_refuseSum (l : Launch) (D : va_G) (cI cO : ClassId) (ad : Nat → Nat) (a1 : Int32) (S : vS) (R9 : Int32) (S9 : vS) (hf : f_X3_refuseSum a1 S = some (R9, S9)) : CI l yX3_refuseSum cX3_refuseSum 2 .int ({ frames := 1, cells := 0, slots := 0, locals := 21 }) [.ref (ad 0), .int a1] D cI cO ad S R9 S9 := by
  refine CI.of (by decide +kernel) (Nat.le_of_ble_eq_true rfl) (fun p e s m args below meth c Q ls X hl hw hfin => ?_)
  have hl : lv_has ls 2 [(0, .ref (ad 0)), (1, .int a1)] := hl
  have hx := X.1
  have hb := X.2.1
  unfold f_X3_refuseSum at hf
  refine lv_ldc (v := 1000000000) hx hb X.2.2.2.1 (X.2.2.2.2 _ (List.mem_cons_of_mem _ q536)) dX3_refuseSum_0 ?_
  refine lv_aload_n hx hb dX3_refuseSum_2 rfl (lv_at hl 0 rfl) ?_
  refine lv_iload_n hx hb dX3_refuseSum_3 rfl (lv_at hl 1 rfl) ?_
  obtain ⟨r3, S2, h1, hf⟩ := b2_s hf
  refine kVi X hw (c_X3_refuse l D cI cO ad a1 S r3 S2 h1) (Nat.le_of_ble_eq_true rfl) ce0 rfl ⟨rfl, rfl⟩ q211 q213 q0 q59 q214 hd_X3_refuse ⟨Nat.le_of_ble_eq_true rfl, Nat.le_of_ble_eq_true rfl⟩ rfl hl.1 rfl (Nat.le_of_ble_eq_true rfl) dX3_refuseSum_4 (fun H locs hw => ?_)
  refine lv_isub hx hb dX3_refuseSum_7 ?_
  exact hfin _ _ _ _ _ _ hw (s2a hf) (s2b hf) (narI _) dX3_refuseSum_8
/-- NineLands.isSpell(I)Z -/
theorem dX3_isSpell_0 : decode cX3_isSpell 0 = .ok (.iload_n 1, 1) := by decide +kernel
theorem dX3_isSpell_1 : decode cX3_isSpell 1 = .ok (.ifCond .lt 18, 3) := by decide +kernel
theorem dX3_isSpell_4 : decode cX3_isSpell 4 = .ok (.iload_n 1, 1) := by decide +kernel
theorem dX3_isSpell_5 : decode cX3_isSpell 5 = .ok (.aload_n 0, 1) := by decide +kernel
theorem dX3_isSpell_6 : decode cX3_isSpell 6 = .ok (.getfield 19, 3) := by decide +kernel
theorem dX3_isSpell_9 : decode cX3_isSpell 9 = .ok (.getfield 60, 3) := by decide +kernel
theorem dX3_isSpell_12 : decode cX3_isSpell 12 = .ok (.if_icmp .ge 7, 3) := by decide +kernel
theorem dX3_isSpell_15 : decode cX3_isSpell 15 = .ok (.iconst 1, 1) := by decide +kernel
theorem dX3_isSpell_16 : decode cX3_isSpell 16 = .ok (.goto 4, 3) := by decide +kernel
theorem dX3_isSpell_19 : decode cX3_isSpell 19 = .ok (.iconst 0, 1) := by decide +kernel
theorem dX3_isSpell_20 : decode cX3_isSpell 20 = .ok (.ireturn, 1) := by decide +kernel
theorem hd_X3_isSpell : yX3_isSpell.cls ≠ "java/lang/invoke/MethodHandle" ∧ yX3_isSpell.cls ≠ "java/lang/invoke/VarHandle" ∧ (parseMethodDescriptor yX3_isSpell.desc).map (fun d => d.parameters.length) = some 1 := by decide +kernel
def f_X3_isSpell (a1 : Int32) (S : vS) : Option Int32 := if a1 < 0 then some (0 : Int32) else if (S 0 12) ≤ a1 then some (0 : Int32) else some (1 : Int32)
set_option maxHeartbeats 4000000 in
set_option maxRecDepth 20000 in
theorem c_X3_isSpell (l : Launch) (D : va_G) (cI cO : ClassId) (ad : Nat → Nat) (a1 : Int32) (S : vS) (R9 : Int32) (hf : f_X3_isSpell a1 S = some R9) : CI l yX3_isSpell cX3_isSpell 2 .boolean ({ frames := 0, cells := 0, slots := 0, locals := 0 }) [.ref (ad 0), .int a1] D cI cO ad S R9 S := by
  refine CI.of (by decide +kernel) (Nat.le_of_ble_eq_true rfl) (fun p e s m args below meth c Q ls X hl hw hfin => ?_)
  have hl : lv_has ls 2 [(0, .ref (ad 0)), (1, .int a1)] := hl
  have hx := X.1
  have hb := X.2.1
  unfold f_X3_isSpell at hf
  refine lv_iload_n hx hb dX3_isSpell_0 rfl (lv_at hl 1 rfl) ?_
  refine lv_if_lt (tgt := 19) hx hb dX3_isSpell_1 (by decide) (fun c1 => ?_) (fun c1 => ?_)
  · replace hf := if_t c1 hf
    refine lv_iconst (v := 0) hx hb dX3_isSpell_19 (by decide) ?_
    exact hfin _ _ _ _ _ _ hw (Option.some.inj hf) rfl rfl dX3_isSpell_20
  · replace hf := if_f c1 hf
    refine lv_iload_n hx hb dX3_isSpell_4 rfl (lv_at hl 1 rfl) ?_
    refine lv_aload_n hx hb dX3_isSpell_5 rfl (lv_at hl 0 rfl) ?_
    refine x_get X hw 0 (Nat.le_of_ble_eq_true rfl) ce0 rfl i_X3 1 (by decide) q183 ⟨rfl, rfl, rfl⟩ rfl dX3_isSpell_6 ?_
    refine x_getN X hw 2 (Nat.le_of_ble_eq_true rfl) ce2 rfl i_X0 4 (by decide) q125 ⟨rfl, rfl, rfl⟩ rfl dX3_isSpell_9 ?_
    refine lv_icmp_ge (tgt := 19) hx hb dX3_isSpell_12 (by decide) (fun c2 => ?_) (fun c2 => ?_)
    · replace hf := if_t c2 hf
      refine lv_iconst (v := 0) hx hb dX3_isSpell_19 (by decide) ?_
      exact hfin _ _ _ _ _ _ hw (Option.some.inj hf) rfl rfl dX3_isSpell_20
    · replace hf := if_f c2 hf
      refine lv_iconst (v := 1) hx hb dX3_isSpell_15 (by decide) ?_
      refine lv_goto (tgt := 20) hx hb dX3_isSpell_16 (by decide) ?_
      exact hfin _ _ _ _ _ _ hw (Option.some.inj hf) rfl rfl dX3_isSpell_20
/-- NineLands.isLand(I)Z -/
theorem dX3_isLand_0 : decode cX3_isLand 0 = .ok (.iload_n 0, 1) := by decide +kernel
theorem dX3_isLand_1 : decode cX3_isLand 1 = .ok (.ifCond .lt 13, 3) := by decide +kernel
theorem dX3_isLand_4 : decode cX3_isLand 4 = .ok (.iload_n 0, 1) := by decide +kernel
theorem dX3_isLand_5 : decode cX3_isLand 5 = .ok (.bipush 6, 2) := by decide +kernel
theorem dX3_isLand_7 : decode cX3_isLand 7 = .ok (.if_icmp .ge 7, 3) := by decide +kernel
theorem dX3_isLand_10 : decode cX3_isLand 10 = .ok (.iconst 1, 1) := by decide +kernel
theorem dX3_isLand_11 : decode cX3_isLand 11 = .ok (.goto 4, 3) := by decide +kernel
theorem dX3_isLand_14 : decode cX3_isLand 14 = .ok (.iconst 0, 1) := by decide +kernel
theorem dX3_isLand_15 : decode cX3_isLand 15 = .ok (.ireturn, 1) := by decide +kernel
theorem hd_X3_isLand : yX3_isLand.cls ≠ "java/lang/invoke/MethodHandle" ∧ yX3_isLand.cls ≠ "java/lang/invoke/VarHandle" ∧ (parseMethodDescriptor yX3_isLand.desc).map (fun d => d.parameters.length) = some 1 := by decide +kernel
def f_X3_isLand (a0 : Int32) (S : vS) : Option Int32 := if a0 < 0 then some (0 : Int32) else if (6 : Int32) ≤ a0 then some (0 : Int32) else some (1 : Int32)
set_option maxHeartbeats 4000000 in
set_option maxRecDepth 20000 in
theorem c_X3_isLand (l : Launch) (D : va_G) (cI cO : ClassId) (ad : Nat → Nat) (a0 : Int32) (S : vS) (R9 : Int32) (hf : f_X3_isLand a0 S = some R9) : CI l yX3_isLand cX3_isLand 1 .boolean ({ frames := 0, cells := 0, slots := 0, locals := 0 }) [.int a0] D cI cO ad S R9 S := by
  refine CI.of (by decide +kernel) (Nat.le_of_ble_eq_true rfl) (fun p e s m args below meth c Q ls X hl hw hfin => ?_)
  have hl : lv_has ls 1 [(0, .int a0)] := hl
  have hx := X.1
  have hb := X.2.1
  unfold f_X3_isLand at hf
  refine lv_iload_n hx hb dX3_isLand_0 rfl (lv_at hl 0 rfl) ?_
  refine lv_if_lt (tgt := 14) hx hb dX3_isLand_1 (by decide) (fun c1 => ?_) (fun c1 => ?_)
  · replace hf := if_t c1 hf
    refine lv_iconst (v := 0) hx hb dX3_isLand_14 (by decide) ?_
    exact hfin _ _ _ _ _ _ hw (Option.some.inj hf) rfl rfl dX3_isLand_15
  · replace hf := if_f c1 hf
    refine lv_iload_n hx hb dX3_isLand_4 rfl (lv_at hl 0 rfl) ?_
    refine lv_bipush (v := 6) hx hb dX3_isLand_5 (by decide +kernel) ?_
    refine lv_icmp_ge (tgt := 14) hx hb dX3_isLand_7 (by decide) (fun c2 => ?_) (fun c2 => ?_)
    · replace hf := if_t c2 hf
      refine lv_iconst (v := 0) hx hb dX3_isLand_14 (by decide) ?_
      exact hfin _ _ _ _ _ _ hw (Option.some.inj hf) rfl rfl dX3_isLand_15
    · replace hf := if_f c2 hf
      refine lv_iconst (v := 1) hx hb dX3_isLand_10 (by decide) ?_
      refine lv_goto (tgt := 15) hx hb dX3_isLand_11 (by decide) ?_
      exact hfin _ _ _ _ _ _ hw (Option.some.inj hf) rfl rfl dX3_isLand_15
/-- NineLands.isKind(I)Z -/
theorem dX3_isKind_0 : decode cX3_isKind 0 = .ok (.iload_n 0, 1) := by decide +kernel
theorem dX3_isKind_1 : decode cX3_isKind 1 = .ok (.ifCond .lt 13, 3) := by decide +kernel
theorem dX3_isKind_4 : decode cX3_isKind 4 = .ok (.iload_n 0, 1) := by decide +kernel
theorem dX3_isKind_5 : decode cX3_isKind 5 = .ok (.bipush 6, 2) := by decide +kernel
theorem dX3_isKind_7 : decode cX3_isKind 7 = .ok (.if_icmp .ge 7, 3) := by decide +kernel
theorem dX3_isKind_10 : decode cX3_isKind 10 = .ok (.iconst 1, 1) := by decide +kernel
theorem dX3_isKind_11 : decode cX3_isKind 11 = .ok (.goto 4, 3) := by decide +kernel
theorem dX3_isKind_14 : decode cX3_isKind 14 = .ok (.iconst 0, 1) := by decide +kernel
theorem dX3_isKind_15 : decode cX3_isKind 15 = .ok (.ireturn, 1) := by decide +kernel
theorem hd_X3_isKind : yX3_isKind.cls ≠ "java/lang/invoke/MethodHandle" ∧ yX3_isKind.cls ≠ "java/lang/invoke/VarHandle" ∧ (parseMethodDescriptor yX3_isKind.desc).map (fun d => d.parameters.length) = some 1 := by decide +kernel
def f_X3_isKind (a0 : Int32) (S : vS) : Option Int32 := if a0 < 0 then some (0 : Int32) else if (6 : Int32) ≤ a0 then some (0 : Int32) else some (1 : Int32)
set_option maxHeartbeats 4000000 in
set_option maxRecDepth 20000 in
theorem c_X3_isKind (l : Launch) (D : va_G) (cI cO : ClassId) (ad : Nat → Nat) (a0 : Int32) (S : vS) (R9 : Int32) (hf : f_X3_isKind a0 S = some R9) : CI l yX3_isKind cX3_isKind 1 .boolean ({ frames := 0, cells := 0, slots := 0, locals := 0 }) [.int a0] D cI cO ad S R9 S := by
  refine CI.of (by decide +kernel) (Nat.le_of_ble_eq_true rfl) (fun p e s m args below meth c Q ls X hl hw hfin => ?_)
  have hl : lv_has ls 1 [(0, .int a0)] := hl
  have hx := X.1
  have hb := X.2.1
  unfold f_X3_isKind at hf
  refine lv_iload_n hx hb dX3_isKind_0 rfl (lv_at hl 0 rfl) ?_
  refine lv_if_lt (tgt := 14) hx hb dX3_isKind_1 (by decide) (fun c1 => ?_) (fun c1 => ?_)
  · replace hf := if_t c1 hf
    refine lv_iconst (v := 0) hx hb dX3_isKind_14 (by decide) ?_
    exact hfin _ _ _ _ _ _ hw (Option.some.inj hf) rfl rfl dX3_isKind_15
  · replace hf := if_f c1 hf
    refine lv_iload_n hx hb dX3_isKind_4 rfl (lv_at hl 0 rfl) ?_
    refine lv_bipush (v := 6) hx hb dX3_isKind_5 (by decide +kernel) ?_
    refine lv_icmp_ge (tgt := 14) hx hb dX3_isKind_7 (by decide) (fun c2 => ?_) (fun c2 => ?_)
    · replace hf := if_t c2 hf
      refine lv_iconst (v := 0) hx hb dX3_isKind_14 (by decide) ?_
      exact hfin _ _ _ _ _ _ hw (Option.some.inj hf) rfl rfl dX3_isKind_15
    · replace hf := if_f c2 hf
      refine lv_iconst (v := 1) hx hb dX3_isKind_10 (by decide) ?_
      refine lv_goto (tgt := 15) hx hb dX3_isKind_11 (by decide) ?_
      exact hfin _ _ _ _ _ _ hw (Option.some.inj hf) rfl rfl dX3_isKind_15
/-- NineLands.owedByAll()I -/
theorem dX3_owedByAll_0 : decode cX3_owedByAll 0 = .ok (.aload_n 0, 1) := by decide +kernel
theorem dX3_owedByAll_1 : decode cX3_owedByAll 1 = .ok (.getfield 29, 3) := by decide +kernel
theorem dX3_owedByAll_4 : decode cX3_owedByAll 4 = .ok (.aload_n 0, 1) := by decide +kernel
theorem dX3_owedByAll_5 : decode cX3_owedByAll 5 = .ok (.getfield 19, 3) := by decide +kernel
theorem dX3_owedByAll_8 : decode cX3_owedByAll 8 = .ok (.invokevirtual 96, 3) := by decide +kernel
theorem dX3_owedByAll_11 : decode cX3_owedByAll 11 = .ok (.aload_n 0, 1) := by decide +kernel
theorem dX3_owedByAll_12 : decode cX3_owedByAll 12 = .ok (.getfield 29, 3) := by decide +kernel
theorem dX3_owedByAll_15 : decode cX3_owedByAll 15 = .ok (.aload_n 0, 1) := by decide +kernel
theorem dX3_owedByAll_16 : decode cX3_owedByAll 16 = .ok (.getfield 19, 3) := by decide +kernel
theorem dX3_owedByAll_19 : decode cX3_owedByAll 19 = .ok (.invokevirtual 158, 3) := by decide +kernel
theorem dX3_owedByAll_22 : decode cX3_owedByAll 22 = .ok (.ireturn, 1) := by decide +kernel
theorem hd_X3_owedByAll : yX3_owedByAll.cls ≠ "java/lang/invoke/MethodHandle" ∧ yX3_owedByAll.cls ≠ "java/lang/invoke/VarHandle" ∧ (parseMethodDescriptor yX3_owedByAll.desc).map (fun d => d.parameters.length) = some 0 := by decide +kernel
def f_X3_owedByAll  (S : vS) : Option (Int32 × vS) := b1 (f_X1_reckon  S) fun S2 => b2 (f_X1_settle  S2) fun r5 S4 => some (r5, S4)
set_option maxHeartbeats 4000000 in
set_option maxRecDepth 20000 in
theorem c_X3_owedByAll (l : Launch) (D : va_G) (cI cO : ClassId) (ad : Nat → Nat)  (S : vS) (R9 : Int32) (S9 : vS) (hf : f_X3_owedByAll  S = some (R9, S9)) : CI l yX3_owedByAll cX3_owedByAll 1 .int ({ frames := 5, cells := 0, slots := 0, locals := 113 }) [.ref (ad 0)] D cI cO ad S R9 S9 := by
  refine CI.of (by decide +kernel) (Nat.le_of_ble_eq_true rfl) (fun p e s m args below meth c Q ls X hl hw hfin => ?_)
  have hl : lv_has ls 1 [(0, .ref (ad 0))] := hl
  have hx := X.1
  have hb := X.2.1
  unfold f_X3_owedByAll at hf
  refine lv_aload_n hx hb dX3_owedByAll_0 rfl (lv_at hl 0 rfl) ?_
  refine x_get X hw 0 (Nat.le_of_ble_eq_true rfl) ce0 rfl i_X3 3 (by decide) q185 ⟨rfl, rfl, rfl⟩ rfl dX3_owedByAll_1 ?_
  refine lv_aload_n hx hb dX3_owedByAll_4 rfl (lv_at hl 0 rfl) ?_
  refine x_get X hw 0 (Nat.le_of_ble_eq_true rfl) ce0 rfl i_X3 1 (by decide) q183 ⟨rfl, rfl, rfl⟩ rfl dX3_owedByAll_5 ?_
  obtain ⟨S2, h1, hf⟩ := b1_s hf
  refine kNv X hw (c_X1_reckon l D cI cO ad  S S2 h1) (Nat.le_of_ble_eq_true rfl) ce4 rfl ⟨rfl, rfl⟩ q365 q367 q7 q63 q368 hd_X1_reckon ⟨Nat.le_of_ble_eq_true rfl, Nat.le_of_ble_eq_true rfl⟩ rfl hl.1 rfl (Nat.le_of_ble_eq_true rfl) dX3_owedByAll_8 (fun H locs hw => ?_)
  refine lv_aload_n hx hb dX3_owedByAll_11 rfl (lv_at hl 0 rfl) ?_
  refine x_get X hw 0 (Nat.le_of_ble_eq_true rfl) ce0 rfl i_X3 3 (by decide) q185 ⟨rfl, rfl, rfl⟩ rfl dX3_owedByAll_12 ?_
  refine lv_aload_n hx hb dX3_owedByAll_15 rfl (lv_at hl 0 rfl) ?_
  refine x_get X hw 0 (Nat.le_of_ble_eq_true rfl) ce0 rfl i_X3 1 (by decide) q183 ⟨rfl, rfl, rfl⟩ rfl dX3_owedByAll_16 ?_
  obtain ⟨r5, S4, h3, hf⟩ := b2_s hf
  refine kNi X hw (c_X1_settle l D cI cO ad  S2 r5 S4 h3) (Nat.le_of_ble_eq_true rfl) ce4 rfl ⟨rfl, rfl⟩ q463 q465 q22 q63 q466 hd_X1_settle ⟨Nat.le_of_ble_eq_true rfl, Nat.le_of_ble_eq_true rfl⟩ rfl hl.1 rfl (Nat.le_of_ble_eq_true rfl) dX3_owedByAll_19 (fun H locs hw => ?_)
  exact hfin _ _ _ _ _ _ hw (s2a hf) (s2b hf) (narI _) dX3_owedByAll_22
/-- NineLands.owedByAllIf(II)I -/
theorem dX3_owedByAllIf_0 : decode cX3_owedByAllIf 0 = .ok (.aload_n 0, 1) := by decide +kernel
theorem dX3_owedByAllIf_1 : decode cX3_owedByAllIf 1 = .ok (.getfield 19, 3) := by decide +kernel
theorem dX3_owedByAllIf_4 : decode cX3_owedByAllIf 4 = .ok (.getfield 63, 3) := by decide +kernel
theorem dX3_owedByAllIf_7 : decode cX3_owedByAllIf 7 = .ok (.iload_n 1, 1) := by decide +kernel
theorem dX3_owedByAllIf_8 : decode cX3_owedByAllIf 8 = .ok (.aaload, 1) := by decide +kernel
theorem dX3_owedByAllIf_9 : decode cX3_owedByAllIf 9 = .ok (.bipush 6, 2) := by decide +kernel
theorem dX3_owedByAllIf_11 : decode cX3_owedByAllIf 11 = .ok (.iaload, 1) := by decide +kernel
theorem dX3_owedByAllIf_12 : decode cX3_owedByAllIf 12 = .ok (.istore_n 3, 1) := by decide +kernel
theorem dX3_owedByAllIf_13 : decode cX3_owedByAllIf 13 = .ok (.aload_n 0, 1) := by decide +kernel
theorem dX3_owedByAllIf_14 : decode cX3_owedByAllIf 14 = .ok (.getfield 19, 3) := by decide +kernel
theorem dX3_owedByAllIf_17 : decode cX3_owedByAllIf 17 = .ok (.getfield 63, 3) := by decide +kernel
theorem dX3_owedByAllIf_20 : decode cX3_owedByAllIf 20 = .ok (.iload_n 1, 1) := by decide +kernel
theorem dX3_owedByAllIf_21 : decode cX3_owedByAllIf 21 = .ok (.aaload, 1) := by decide +kernel
theorem dX3_owedByAllIf_22 : decode cX3_owedByAllIf 22 = .ok (.bipush 6, 2) := by decide +kernel
theorem dX3_owedByAllIf_24 : decode cX3_owedByAllIf 24 = .ok (.iload_n 2, 1) := by decide +kernel
theorem dX3_owedByAllIf_25 : decode cX3_owedByAllIf 25 = .ok (.iastore, 1) := by decide +kernel
theorem dX3_owedByAllIf_26 : decode cX3_owedByAllIf 26 = .ok (.aload_n 0, 1) := by decide +kernel
theorem dX3_owedByAllIf_27 : decode cX3_owedByAllIf 27 = .ok (.invokevirtual 131, 3) := by decide +kernel
theorem dX3_owedByAllIf_30 : decode cX3_owedByAllIf 30 = .ok (.istore 4, 2) := by decide +kernel
theorem dX3_owedByAllIf_32 : decode cX3_owedByAllIf 32 = .ok (.aload_n 0, 1) := by decide +kernel
theorem dX3_owedByAllIf_33 : decode cX3_owedByAllIf 33 = .ok (.getfield 19, 3) := by decide +kernel
theorem dX3_owedByAllIf_36 : decode cX3_owedByAllIf 36 = .ok (.getfield 63, 3) := by decide +kernel
theorem dX3_owedByAllIf_39 : decode cX3_owedByAllIf 39 = .ok (.iload_n 1, 1) := by decide +kernel
theorem dX3_owedByAllIf_40 : decode cX3_owedByAllIf 40 = .ok (.aaload, 1) := by decide +kernel
theorem dX3_owedByAllIf_41 : decode cX3_owedByAllIf 41 = .ok (.bipush 6, 2) := by decide +kernel
theorem dX3_owedByAllIf_43 : decode cX3_owedByAllIf 43 = .ok (.iload_n 3, 1) := by decide +kernel
theorem dX3_owedByAllIf_44 : decode cX3_owedByAllIf 44 = .ok (.iastore, 1) := by decide +kernel
theorem dX3_owedByAllIf_45 : decode cX3_owedByAllIf 45 = .ok (.iload 4, 2) := by decide +kernel
theorem dX3_owedByAllIf_47 : decode cX3_owedByAllIf 47 = .ok (.ireturn, 1) := by decide +kernel
theorem hd_X3_owedByAllIf : yX3_owedByAllIf.cls ≠ "java/lang/invoke/MethodHandle" ∧ yX3_owedByAllIf.cls ≠ "java/lang/invoke/VarHandle" ∧ (parseMethodDescriptor yX3_owedByAllIf.desc).map (fun d => d.parameters.length) = some 2 := by decide +kernel
def f_X3_owedByAllIf (a1 : Int32) (a2 : Int32) (S : vS) : Option (Int32 × vS) := if inb a1 20 = true then lt ((S (34 + a1.toNatClampNeg) 6)) fun v2 => lt (upk S (34 + a1.toNatClampNeg) (upd (S (34 + a1.toNatClampNeg)) 6 a2)) fun S3 => b2 (f_X3_owedByAll  S3) fun r6 S5 => lt (upk S5 (34 + a1.toNatClampNeg) (upd (S5 (34 + a1.toNatClampNeg)) 6 v2)) fun S7 => some (r6, S7) else none
set_option maxHeartbeats 4000000 in
set_option maxRecDepth 20000 in
theorem c_X3_owedByAllIf (l : Launch) (D : va_G) (cI cO : ClassId) (ad : Nat → Nat) (a1 : Int32) (a2 : Int32) (S : vS) (R9 : Int32) (S9 : vS) (hf : f_X3_owedByAllIf a1 a2 S = some (R9, S9)) : CI l yX3_owedByAllIf cX3_owedByAllIf 5 .int ({ frames := 6, cells := 0, slots := 0, locals := 133 }) [.ref (ad 0), .int a1, .int a2] D cI cO ad S R9 S9 := by
  refine CI.of (by decide +kernel) (Nat.le_of_ble_eq_true rfl) (fun p e s m args below meth c Q ls X hl hw hfin => ?_)
  have hl : lv_has ls 5 [(0, .ref (ad 0)), (1, .int a1), (2, .int a2)] := hl
  have hx := X.1
  have hb := X.2.1
  unfold f_X3_owedByAllIf at hf
  refine lv_aload_n hx hb dX3_owedByAllIf_0 rfl (lv_at hl 0 rfl) ?_
  refine x_get X hw 0 (Nat.le_of_ble_eq_true rfl) ce0 rfl i_X3 1 (by decide) q183 ⟨rfl, rfl, rfl⟩ rfl dX3_owedByAllIf_1 ?_
  refine x_getN X hw 2 (Nat.le_of_ble_eq_true rfl) ce2 rfl i_X0 0 (by decide) q114 ⟨rfl, rfl, rfl⟩ rfl dX3_owedByAllIf_4 ?_
  refine lv_iload_n hx hb dX3_owedByAllIf_7 rfl (lv_at hl 1 rfl) ?_
  obtain ⟨h1, hf⟩ := if_s hf
  refine x_aald X hw 6 (Nat.le_of_ble_eq_true rfl) ce6 h1 rfl dX3_owedByAllIf_8 ?_
  refine lv_bipush (v := 6) hx hb dX3_owedByAllIf_9 (by decide +kernel) ?_
  refine x_iald X hw (34 + a1.toNatClampNeg) (have q9 := inb_lt h1; ⟨by omega, by omega⟩) (alen_34 (inb_lt h1)) (by decide) 6 (by decide) dX3_owedByAllIf_11 ?_
  refine lv_topi (fun v2 ev2 => ?_)
  replace hf := lt_e ev2 hf
  refine lv_istore_n (lv' := [(3, .int v2), (0, .ref (ad 0)), (1, .int a1), (2, .int a2)]) hx hb dX3_owedByAllIf_12 rfl hl (by decide) rfl (fun ls hl => ?_)
  refine lv_aload_n hx hb dX3_owedByAllIf_13 rfl (lv_at hl 1 rfl) ?_
  refine x_get X hw 0 (Nat.le_of_ble_eq_true rfl) ce0 rfl i_X3 1 (by decide) q183 ⟨rfl, rfl, rfl⟩ rfl dX3_owedByAllIf_14 ?_
  refine x_getN X hw 2 (Nat.le_of_ble_eq_true rfl) ce2 rfl i_X0 0 (by decide) q114 ⟨rfl, rfl, rfl⟩ rfl dX3_owedByAllIf_17 ?_
  refine lv_iload_n hx hb dX3_owedByAllIf_20 rfl (lv_at hl 2 rfl) ?_
  refine x_aald X hw 6 (Nat.le_of_ble_eq_true rfl) ce6 h1 rfl dX3_owedByAllIf_21 ?_
  refine lv_bipush (v := 6) hx hb dX3_owedByAllIf_22 (by decide +kernel) ?_
  refine lv_iload_n hx hb dX3_owedByAllIf_24 rfl (lv_at hl 3 rfl) ?_
  refine x_iast X hw (34 + a1.toNatClampNeg) (have q9 := inb_lt h1; ⟨by omega, by omega⟩) (alen_34 (inb_lt h1)) (by decide) 6 (by decide) dX3_owedByAllIf_25 (fun S3 eS3 H locs hw => ?_)
  replace hf := lt_e eS3 hf
  refine lv_aload_n hx hb dX3_owedByAllIf_26 rfl (lv_at hl 1 rfl) ?_
  obtain ⟨r6, S5, h4, hf⟩ := b2_s hf
  refine kVi X hw (c_X3_owedByAll l D cI cO ad  S3 r6 S5 h4) (Nat.le_of_ble_eq_true rfl) ce0 rfl ⟨rfl, rfl⟩ q459 q461 q21 q59 q462 hd_X3_owedByAll ⟨Nat.le_of_ble_eq_true rfl, Nat.le_of_ble_eq_true rfl⟩ rfl hl.1 rfl (Nat.le_of_ble_eq_true rfl) dX3_owedByAllIf_27 (fun H locs hw => ?_)
  refine lv_istore (lv' := [(4, .int r6), (3, .int v2), (0, .ref (ad 0)), (1, .int a1), (2, .int a2)]) hx hb dX3_owedByAllIf_30 hl (by decide) rfl (fun ls hl => ?_)
  refine lv_aload_n hx hb dX3_owedByAllIf_32 rfl (lv_at hl 2 rfl) ?_
  refine x_get X hw 0 (Nat.le_of_ble_eq_true rfl) ce0 rfl i_X3 1 (by decide) q183 ⟨rfl, rfl, rfl⟩ rfl dX3_owedByAllIf_33 ?_
  refine x_getN X hw 2 (Nat.le_of_ble_eq_true rfl) ce2 rfl i_X0 0 (by decide) q114 ⟨rfl, rfl, rfl⟩ rfl dX3_owedByAllIf_36 ?_
  refine lv_iload_n hx hb dX3_owedByAllIf_39 rfl (lv_at hl 3 rfl) ?_
  refine x_aald X hw 6 (Nat.le_of_ble_eq_true rfl) ce6 h1 rfl dX3_owedByAllIf_40 ?_
  refine lv_bipush (v := 6) hx hb dX3_owedByAllIf_41 (by decide +kernel) ?_
  refine lv_iload_n hx hb dX3_owedByAllIf_43 rfl (lv_at hl 1 rfl) ?_
  refine x_iast X hw (34 + a1.toNatClampNeg) (have q9 := inb_lt h1; ⟨by omega, by omega⟩) (alen_34 (inb_lt h1)) (by decide) 6 (by decide) dX3_owedByAllIf_44 (fun S7 eS7 H locs hw => ?_)
  replace hf := lt_e eS7 hf
  refine lv_iload hx hb dX3_owedByAllIf_45 (lv_at hl 0 rfl) ?_
  exact hfin _ _ _ _ _ _ hw (s2a hf) (s2b hf) (narI _) dX3_owedByAllIf_47
/-- NineLands.owedByAllWithYear(II)I -/
theorem dX3_owedByAllWithYear_0 : decode cX3_owedByAllWithYear 0 = .ok (.aload_n 0, 1) := by decide +kernel
theorem dX3_owedByAllWithYear_1 : decode cX3_owedByAllWithYear 1 = .ok (.getfield 29, 3) := by decide +kernel
theorem dX3_owedByAllWithYear_4 : decode cX3_owedByAllWithYear 4 = .ok (.aload_n 0, 1) := by decide +kernel
theorem dX3_owedByAllWithYear_5 : decode cX3_owedByAllWithYear 5 = .ok (.getfield 19, 3) := by decide +kernel
theorem dX3_owedByAllWithYear_8 : decode cX3_owedByAllWithYear 8 = .ok (.invokevirtual 96, 3) := by decide +kernel
theorem dX3_owedByAllWithYear_11 : decode cX3_owedByAllWithYear 11 = .ok (.aload_n 0, 1) := by decide +kernel
theorem dX3_owedByAllWithYear_12 : decode cX3_owedByAllWithYear 12 = .ok (.getfield 29, 3) := by decide +kernel
theorem dX3_owedByAllWithYear_15 : decode cX3_owedByAllWithYear 15 = .ok (.aload_n 0, 1) := by decide +kernel
theorem dX3_owedByAllWithYear_16 : decode cX3_owedByAllWithYear 16 = .ok (.getfield 19, 3) := by decide +kernel
theorem dX3_owedByAllWithYear_19 : decode cX3_owedByAllWithYear 19 = .ok (.iload_n 1, 1) := by decide +kernel
theorem dX3_owedByAllWithYear_20 : decode cX3_owedByAllWithYear 20 = .ok (.bipush 12, 2) := by decide +kernel
theorem dX3_owedByAllWithYear_22 : decode cX3_owedByAllWithYear 22 = .ok (.sipush 900, 3) := by decide +kernel
theorem dX3_owedByAllWithYear_25 : decode cX3_owedByAllWithYear 25 = .ok (.aload_n 0, 1) := by decide +kernel
theorem dX3_owedByAllWithYear_26 : decode cX3_owedByAllWithYear 26 = .ok (.getfield 19, 3) := by decide +kernel
theorem dX3_owedByAllWithYear_29 : decode cX3_owedByAllWithYear 29 = .ok (.invokevirtual 148, 3) := by decide +kernel
theorem dX3_owedByAllWithYear_32 : decode cX3_owedByAllWithYear 32 = .ok (.isub, 1) := by decide +kernel
theorem dX3_owedByAllWithYear_33 : decode cX3_owedByAllWithYear 33 = .ok (.invokestatic 151, 3) := by decide +kernel
theorem dX3_owedByAllWithYear_36 : decode cX3_owedByAllWithYear 36 = .ok (.iload_n 2, 1) := by decide +kernel
theorem dX3_owedByAllWithYear_37 : decode cX3_owedByAllWithYear 37 = .ok (.invokevirtual 154, 3) := by decide +kernel
theorem dX3_owedByAllWithYear_40 : decode cX3_owedByAllWithYear 40 = .ok (.aload_n 0, 1) := by decide +kernel
theorem dX3_owedByAllWithYear_41 : decode cX3_owedByAllWithYear 41 = .ok (.getfield 29, 3) := by decide +kernel
theorem dX3_owedByAllWithYear_44 : decode cX3_owedByAllWithYear 44 = .ok (.aload_n 0, 1) := by decide +kernel
theorem dX3_owedByAllWithYear_45 : decode cX3_owedByAllWithYear 45 = .ok (.getfield 19, 3) := by decide +kernel
theorem dX3_owedByAllWithYear_48 : decode cX3_owedByAllWithYear 48 = .ok (.invokevirtual 158, 3) := by decide +kernel
theorem dX3_owedByAllWithYear_51 : decode cX3_owedByAllWithYear 51 = .ok (.ireturn, 1) := by decide +kernel
theorem hd_X3_owedByAllWithYear : yX3_owedByAllWithYear.cls ≠ "java/lang/invoke/MethodHandle" ∧ yX3_owedByAllWithYear.cls ≠ "java/lang/invoke/VarHandle" ∧ (parseMethodDescriptor yX3_owedByAllWithYear.desc).map (fun d => d.parameters.length) = some 2 := by decide +kernel
def f_X3_owedByAllWithYear (a1 : Int32) (a2 : Int32) (S : vS) : Option (Int32 × vS) := b1 (f_X1_reckon  S) fun S2 => b1 (f_X0_behind  S2) fun r4 => b1 (f_X1_addBench a1 (mn (12 : Int32) ((900 : Int32) - r4)) a2 S2) fun S6 => b2 (f_X1_settle  S6) fun r9 S8 => some (r9, S8)
set_option maxHeartbeats 4000000 in
set_option maxRecDepth 20000 in
theorem c_X3_owedByAllWithYear (l : Launch) (D : va_G) (cI cO : ClassId) (ad : Nat → Nat) (a1 : Int32) (a2 : Int32) (S : vS) (R9 : Int32) (S9 : vS) (hf : f_X3_owedByAllWithYear a1 a2 S = some (R9, S9)) : CI l yX3_owedByAllWithYear cX3_owedByAllWithYear 3 .int ({ frames := 5, cells := 0, slots := 0, locals := 113 }) [.ref (ad 0), .int a1, .int a2] D cI cO ad S R9 S9 := by
  refine CI.of (by decide +kernel) (Nat.le_of_ble_eq_true rfl) (fun p e s m args below meth c Q ls X hl hw hfin => ?_)
  have hl : lv_has ls 3 [(0, .ref (ad 0)), (1, .int a1), (2, .int a2)] := hl
  have hx := X.1
  have hb := X.2.1
  unfold f_X3_owedByAllWithYear at hf
  refine lv_aload_n hx hb dX3_owedByAllWithYear_0 rfl (lv_at hl 0 rfl) ?_
  refine x_get X hw 0 (Nat.le_of_ble_eq_true rfl) ce0 rfl i_X3 3 (by decide) q185 ⟨rfl, rfl, rfl⟩ rfl dX3_owedByAllWithYear_1 ?_
  refine lv_aload_n hx hb dX3_owedByAllWithYear_4 rfl (lv_at hl 0 rfl) ?_
  refine x_get X hw 0 (Nat.le_of_ble_eq_true rfl) ce0 rfl i_X3 1 (by decide) q183 ⟨rfl, rfl, rfl⟩ rfl dX3_owedByAllWithYear_5 ?_
  obtain ⟨S2, h1, hf⟩ := b1_s hf
  refine kNv X hw (c_X1_reckon l D cI cO ad  S S2 h1) (Nat.le_of_ble_eq_true rfl) ce4 rfl ⟨rfl, rfl⟩ q365 q367 q7 q63 q368 hd_X1_reckon ⟨Nat.le_of_ble_eq_true rfl, Nat.le_of_ble_eq_true rfl⟩ rfl hl.1 rfl (Nat.le_of_ble_eq_true rfl) dX3_owedByAllWithYear_8 (fun H locs hw => ?_)
  refine lv_aload_n hx hb dX3_owedByAllWithYear_11 rfl (lv_at hl 0 rfl) ?_
  refine x_get X hw 0 (Nat.le_of_ble_eq_true rfl) ce0 rfl i_X3 3 (by decide) q185 ⟨rfl, rfl, rfl⟩ rfl dX3_owedByAllWithYear_12 ?_
  refine lv_aload_n hx hb dX3_owedByAllWithYear_15 rfl (lv_at hl 0 rfl) ?_
  refine x_get X hw 0 (Nat.le_of_ble_eq_true rfl) ce0 rfl i_X3 1 (by decide) q183 ⟨rfl, rfl, rfl⟩ rfl dX3_owedByAllWithYear_16 ?_
  refine lv_iload_n hx hb dX3_owedByAllWithYear_19 rfl (lv_at hl 1 rfl) ?_
  refine lv_bipush (v := 12) hx hb dX3_owedByAllWithYear_20 (by decide +kernel) ?_
  refine lv_sipush (v := 900) hx hb dX3_owedByAllWithYear_22 (by decide +kernel) ?_
  refine lv_aload_n hx hb dX3_owedByAllWithYear_25 rfl (lv_at hl 0 rfl) ?_
  refine x_get X hw 0 (Nat.le_of_ble_eq_true rfl) ce0 rfl i_X3 1 (by decide) q183 ⟨rfl, rfl, rfl⟩ rfl dX3_owedByAllWithYear_26 ?_
  obtain ⟨r4, h3, hf⟩ := b1_s hf
  refine kNi X hw (c_X0_behind l D cI cO ad  S2 r4 h3) (Nat.le_of_ble_eq_true rfl) ce2 rfl ⟨rfl, rfl⟩ q510 q512 q26 q61 q513 hd_X0_behind ⟨Nat.le_of_ble_eq_true rfl, Nat.le_of_ble_eq_true rfl⟩ rfl hl.1 rfl (Nat.le_of_ble_eq_true rfl) dX3_owedByAllWithYear_29 (fun H locs hw => ?_)
  refine lv_isub hx hb dX3_owedByAllWithYear_32 ?_
  refine x_min X hl.1 q514 q261 q67 q262 (Nat.le_of_ble_eq_true rfl) (Nat.le_of_ble_eq_true rfl) dX3_owedByAllWithYear_33 ?_
  refine lv_iload_n hx hb dX3_owedByAllWithYear_36 rfl (lv_at hl 2 rfl) ?_
  obtain ⟨S6, h5, hf⟩ := b1_s hf
  refine kNv X hw (c_X1_addBench l D cI cO ad a1 (mn (12 : Int32) ((900 : Int32) - r4)) a2 S2 S6 h5) (Nat.le_of_ble_eq_true rfl) ce4 rfl ⟨rfl, rfl⟩ q515 q517 q27 q63 q518 hd_X1_addBench ⟨Nat.le_of_ble_eq_true rfl, Nat.le_of_ble_eq_true rfl⟩ rfl hl.1 rfl (Nat.le_of_ble_eq_true rfl) dX3_owedByAllWithYear_37 (fun H locs hw => ?_)
  refine lv_aload_n hx hb dX3_owedByAllWithYear_40 rfl (lv_at hl 0 rfl) ?_
  refine x_get X hw 0 (Nat.le_of_ble_eq_true rfl) ce0 rfl i_X3 3 (by decide) q185 ⟨rfl, rfl, rfl⟩ rfl dX3_owedByAllWithYear_41 ?_
  refine lv_aload_n hx hb dX3_owedByAllWithYear_44 rfl (lv_at hl 0 rfl) ?_
  refine x_get X hw 0 (Nat.le_of_ble_eq_true rfl) ce0 rfl i_X3 1 (by decide) q183 ⟨rfl, rfl, rfl⟩ rfl dX3_owedByAllWithYear_45 ?_
  obtain ⟨r9, S8, h7, hf⟩ := b2_s hf
  refine kNi X hw (c_X1_settle l D cI cO ad  S6 r9 S8 h7) (Nat.le_of_ble_eq_true rfl) ce4 rfl ⟨rfl, rfl⟩ q463 q465 q22 q63 q466 hd_X1_settle ⟨Nat.le_of_ble_eq_true rfl, Nat.le_of_ble_eq_true rfl⟩ rfl hl.1 rfl (Nat.le_of_ble_eq_true rfl) dX3_owedByAllWithYear_48 (fun H locs hw => ?_)
  exact hfin _ _ _ _ _ _ hw (s2a hf) (s2b hf) (narI _) dX3_owedByAllWithYear_51
/-- NineLands.paidFrom(III)I -/
theorem dX3_paidFrom_0 : decode cX3_paidFrom 0 = .ok (.aload_n 0, 1) := by decide +kernel
theorem dX3_paidFrom_1 : decode cX3_paidFrom 1 = .ok (.getfield 19, 3) := by decide +kernel
theorem dX3_paidFrom_4 : decode cX3_paidFrom 4 = .ok (.getfield 84, 3) := by decide +kernel
theorem dX3_paidFrom_7 : decode cX3_paidFrom 7 = .ok (.iload_n 1, 1) := by decide +kernel
theorem dX3_paidFrom_8 : decode cX3_paidFrom 8 = .ok (.aaload, 1) := by decide +kernel
theorem dX3_paidFrom_9 : decode cX3_paidFrom 9 = .ok (.astore 4, 2) := by decide +kernel
theorem dX3_paidFrom_11 : decode cX3_paidFrom 11 = .ok (.bipush 100, 2) := by decide +kernel
theorem dX3_paidFrom_13 : decode cX3_paidFrom 13 = .ok (.aload 4, 2) := by decide +kernel
theorem dX3_paidFrom_15 : decode cX3_paidFrom 15 = .ok (.bipush 7, 2) := by decide +kernel
theorem dX3_paidFrom_17 : decode cX3_paidFrom 17 = .ok (.iaload, 1) := by decide +kernel
theorem dX3_paidFrom_18 : decode cX3_paidFrom 18 = .ok (.iload_n 2, 1) := by decide +kernel
theorem dX3_paidFrom_19 : decode cX3_paidFrom 19 = .ok (.aload 4, 2) := by decide +kernel
theorem dX3_paidFrom_21 : decode cX3_paidFrom 21 = .ok (.iconst 1, 1) := by decide +kernel
theorem dX3_paidFrom_22 : decode cX3_paidFrom 22 = .ok (.iaload, 1) := by decide +kernel
theorem dX3_paidFrom_23 : decode cX3_paidFrom 23 = .ok (.isub, 1) := by decide +kernel
theorem dX3_paidFrom_24 : decode cX3_paidFrom 24 = .ok (.bipush 12, 2) := by decide +kernel
theorem dX3_paidFrom_26 : decode cX3_paidFrom 26 = .ok (.idiv, 1) := by decide +kernel
theorem dX3_paidFrom_27 : decode cX3_paidFrom 27 = .ok (.imul, 1) := by decide +kernel
theorem dX3_paidFrom_28 : decode cX3_paidFrom 28 = .ok (.iadd, 1) := by decide +kernel
theorem dX3_paidFrom_29 : decode cX3_paidFrom 29 = .ok (.istore 5, 2) := by decide +kernel
theorem dX3_paidFrom_31 : decode cX3_paidFrom 31 = .ok (.aload_n 0, 1) := by decide +kernel
theorem dX3_paidFrom_32 : decode cX3_paidFrom 32 = .ok (.getfield 29, 3) := by decide +kernel
theorem dX3_paidFrom_35 : decode cX3_paidFrom 35 = .ok (.getfield 135, 3) := by decide +kernel
theorem dX3_paidFrom_38 : decode cX3_paidFrom 38 = .ok (.iload_n 1, 1) := by decide +kernel
theorem dX3_paidFrom_39 : decode cX3_paidFrom 39 = .ok (.iaload, 1) := by decide +kernel
theorem dX3_paidFrom_40 : decode cX3_paidFrom 40 = .ok (.iload 5, 2) := by decide +kernel
theorem dX3_paidFrom_42 : decode cX3_paidFrom 42 = .ok (.imul, 1) := by decide +kernel
theorem dX3_paidFrom_43 : decode cX3_paidFrom 43 = .ok (.bipush 100, 2) := by decide +kernel
theorem dX3_paidFrom_45 : decode cX3_paidFrom 45 = .ok (.idiv, 1) := by decide +kernel
theorem dX3_paidFrom_46 : decode cX3_paidFrom 46 = .ok (.istore 6, 2) := by decide +kernel
theorem dX3_paidFrom_48 : decode cX3_paidFrom 48 = .ok (.iload 6, 2) := by decide +kernel
theorem dX3_paidFrom_50 : decode cX3_paidFrom 50 = .ok (.iconst 0, 1) := by decide +kernel
theorem dX3_paidFrom_51 : decode cX3_paidFrom 51 = .ok (.iload_n 3, 1) := by decide +kernel
theorem dX3_paidFrom_52 : decode cX3_paidFrom 52 = .ok (.iload_n 2, 1) := by decide +kernel
theorem dX3_paidFrom_53 : decode cX3_paidFrom 53 = .ok (.isub, 1) := by decide +kernel
theorem dX3_paidFrom_54 : decode cX3_paidFrom 54 = .ok (.iconst 1, 1) := by decide +kernel
theorem dX3_paidFrom_55 : decode cX3_paidFrom 55 = .ok (.iadd, 1) := by decide +kernel
theorem dX3_paidFrom_56 : decode cX3_paidFrom 56 = .ok (.invokestatic 126, 3) := by decide +kernel
theorem dX3_paidFrom_59 : decode cX3_paidFrom 59 = .ok (.imul, 1) := by decide +kernel
theorem dX3_paidFrom_60 : decode cX3_paidFrom 60 = .ok (.ireturn, 1) := by decide +kernel
theorem hd_X3_paidFrom : yX3_paidFrom.cls ≠ "java/lang/invoke/MethodHandle" ∧ yX3_paidFrom.cls ≠ "java/lang/invoke/VarHandle" ∧ (parseMethodDescriptor yX3_paidFrom.desc).map (fun d => d.parameters.length) = some 3 := by decide +kernel
def f_X3_paidFrom (a1 : Int32) (a2 : Int32) (a3 : Int32) (S : vS) : Option Int32 := if inb a1 6 = true then lt (((100 : Int32) + ((S (54 + a1.toNatClampNeg) 7) * ((a2 - (S (54 + a1.toNatClampNeg) 1)) / (12 : Int32))))) fun v2 => if inb a1 6 = true then lt ((((S 31 (a1.toNatClampNeg)) * v2) / (100 : Int32))) fun v4 => some (v4 * (mx (0 : Int32) ((a3 - a2) + (1 : Int32)))) else none else none
set_option maxHeartbeats 4000000 in
set_option maxRecDepth 20000 in
theorem c_X3_paidFrom (l : Launch) (D : va_G) (cI cO : ClassId) (ad : Nat → Nat) (a1 : Int32) (a2 : Int32) (a3 : Int32) (S : vS) (R9 : Int32) (hf : f_X3_paidFrom a1 a2 a3 S = some R9) : CI l yX3_paidFrom cX3_paidFrom 7 .int ({ frames := 1, cells := 0, slots := 0, locals := 21 }) [.ref (ad 0), .int a1, .int a2, .int a3] D cI cO ad S R9 S := by
  refine CI.of (by decide +kernel) (Nat.le_of_ble_eq_true rfl) (fun p e s m args below meth c Q ls X hl hw hfin => ?_)
  have hl : lv_has ls 7 [(0, .ref (ad 0)), (1, .int a1), (2, .int a2), (3, .int a3)] := hl
  have hx := X.1
  have hb := X.2.1
  unfold f_X3_paidFrom at hf
  refine lv_aload_n hx hb dX3_paidFrom_0 rfl (lv_at hl 0 rfl) ?_
  refine x_get X hw 0 (Nat.le_of_ble_eq_true rfl) ce0 rfl i_X3 1 (by decide) q183 ⟨rfl, rfl, rfl⟩ rfl dX3_paidFrom_1 ?_
  refine x_getN X hw 2 (Nat.le_of_ble_eq_true rfl) ce2 rfl i_X0 1 (by decide) q116 ⟨rfl, rfl, rfl⟩ rfl dX3_paidFrom_4 ?_
  refine lv_iload_n hx hb dX3_paidFrom_7 rfl (lv_at hl 1 rfl) ?_
  obtain ⟨h1, hf⟩ := if_s hf
  refine x_aald X hw 7 (Nat.le_of_ble_eq_true rfl) ce7 h1 rfl dX3_paidFrom_8 ?_
  refine lv_astore (lv' := [(4, .ref (ar ad (54 + a1.toNatClampNeg))), (0, .ref (ad 0)), (1, .int a1), (2, .int a2), (3, .int a3)]) hx hb dX3_paidFrom_9 hl (by decide) rfl (fun ls hl => ?_)
  refine lv_bipush (v := 100) hx hb dX3_paidFrom_11 (by decide +kernel) ?_
  refine lv_aload hx hb dX3_paidFrom_13 (lv_at hl 0 rfl) ?_
  refine lv_bipush (v := 7) hx hb dX3_paidFrom_15 (by decide +kernel) ?_
  refine x_iald X hw (54 + a1.toNatClampNeg) (have q9 := inb_lt h1; ⟨by omega, by omega⟩) (alen_54 (inb_lt h1)) (by decide) 7 (by decide) dX3_paidFrom_17 ?_
  refine lv_iload_n hx hb dX3_paidFrom_18 rfl (lv_at hl 3 rfl) ?_
  refine lv_aload hx hb dX3_paidFrom_19 (lv_at hl 0 rfl) ?_
  refine lv_iconst (v := 1) hx hb dX3_paidFrom_21 (by decide) ?_
  refine x_iald X hw (54 + a1.toNatClampNeg) (have q9 := inb_lt h1; ⟨by omega, by omega⟩) (alen_54 (inb_lt h1)) (by decide) 1 (by decide) dX3_paidFrom_22 ?_
  refine lv_isub hx hb dX3_paidFrom_23 ?_
  refine lv_bipush (v := 12) hx hb dX3_paidFrom_24 (by decide +kernel) ?_
  refine lv_idiv hx hb dX3_paidFrom_26 (by decide) ?_
  refine lv_imul hx hb dX3_paidFrom_27 ?_
  refine lv_iadd hx hb dX3_paidFrom_28 ?_
  refine lv_topi (fun v2 ev2 => ?_)
  replace hf := lt_e ev2 hf
  refine lv_istore (lv' := [(5, .int v2), (4, .ref (ar ad (54 + a1.toNatClampNeg))), (0, .ref (ad 0)), (1, .int a1), (2, .int a2), (3, .int a3)]) hx hb dX3_paidFrom_29 hl (by decide) rfl (fun ls hl => ?_)
  refine lv_aload_n hx hb dX3_paidFrom_31 rfl (lv_at hl 2 rfl) ?_
  refine x_get X hw 0 (Nat.le_of_ble_eq_true rfl) ce0 rfl i_X3 3 (by decide) q185 ⟨rfl, rfl, rfl⟩ rfl dX3_paidFrom_32 ?_
  refine x_getN X hw 4 (Nat.le_of_ble_eq_true rfl) ce4 rfl i_X1 6 (by decide) q154 ⟨rfl, rfl, rfl⟩ rfl dX3_paidFrom_35 ?_
  refine lv_iload_n hx hb dX3_paidFrom_38 rfl (lv_at hl 3 rfl) ?_
  obtain ⟨h3, hf⟩ := if_s hf
  refine x_iald X hw 31 ⟨Nat.le_of_ble_eq_true rfl, Nat.le_of_ble_eq_true rfl⟩ rfl h3 (a1.toNatClampNeg) rfl dX3_paidFrom_39 ?_
  refine lv_iload hx hb dX3_paidFrom_40 (lv_at hl 0 rfl) ?_
  refine lv_imul hx hb dX3_paidFrom_42 ?_
  refine lv_bipush (v := 100) hx hb dX3_paidFrom_43 (by decide +kernel) ?_
  refine lv_idiv hx hb dX3_paidFrom_45 (by decide) ?_
  refine lv_topi (fun v4 ev4 => ?_)
  replace hf := lt_e ev4 hf
  refine lv_istore (lv' := [(6, .int v4), (5, .int v2), (4, .ref (ar ad (54 + a1.toNatClampNeg))), (0, .ref (ad 0)), (1, .int a1), (2, .int a2), (3, .int a3)]) hx hb dX3_paidFrom_46 hl (by decide) rfl (fun ls hl => ?_)
  refine lv_iload hx hb dX3_paidFrom_48 (lv_at hl 0 rfl) ?_
  refine lv_iconst (v := 0) hx hb dX3_paidFrom_50 (by decide) ?_
  refine lv_iload_n hx hb dX3_paidFrom_51 rfl (lv_at hl 6 rfl) ?_
  refine lv_iload_n hx hb dX3_paidFrom_52 rfl (lv_at hl 5 rfl) ?_
  refine lv_isub hx hb dX3_paidFrom_53 ?_
  refine lv_iconst (v := 1) hx hb dX3_paidFrom_54 (by decide) ?_
  refine lv_iadd hx hb dX3_paidFrom_55 ?_
  refine x_max X hl.1 q454 q258 q67 q259 (Nat.le_of_ble_eq_true rfl) (Nat.le_of_ble_eq_true rfl) dX3_paidFrom_56 ?_
  refine lv_imul hx hb dX3_paidFrom_59 ?_
  exact hfin _ _ _ _ _ _ hw (Option.some.inj hf) rfl (narI _) dX3_paidFrom_60
/-- NineLands.paidLivingIn(I)I -/
theorem dX3_paidLivingIn_0 : decode cX3_paidLivingIn 0 = .ok (.iconst 0, 1) := by decide +kernel
theorem dX3_paidLivingIn_1 : decode cX3_paidLivingIn 1 = .ok (.istore_n 2, 1) := by decide +kernel
theorem dX3_paidLivingIn_2 : decode cX3_paidLivingIn 2 = .ok (.iconst 0, 1) := by decide +kernel
theorem dX3_paidLivingIn_3 : decode cX3_paidLivingIn 3 = .ok (.istore_n 3, 1) := by decide +kernel
theorem dX3_paidLivingIn_4 : decode cX3_paidLivingIn 4 = .ok (.iload_n 3, 1) := by decide +kernel
theorem dX3_paidLivingIn_5 : decode cX3_paidLivingIn 5 = .ok (.bipush 6, 2) := by decide +kernel
theorem dX3_paidLivingIn_7 : decode cX3_paidLivingIn 7 = .ok (.if_icmp .ge 57, 3) := by decide +kernel
theorem dX3_paidLivingIn_10 : decode cX3_paidLivingIn 10 = .ok (.aload_n 0, 1) := by decide +kernel
theorem dX3_paidLivingIn_11 : decode cX3_paidLivingIn 11 = .ok (.getfield 29, 3) := by decide +kernel
theorem dX3_paidLivingIn_14 : decode cX3_paidLivingIn 14 = .ok (.getfield 135, 3) := by decide +kernel
theorem dX3_paidLivingIn_17 : decode cX3_paidLivingIn 17 = .ok (.iload_n 3, 1) := by decide +kernel
theorem dX3_paidLivingIn_18 : decode cX3_paidLivingIn 18 = .ok (.iaload, 1) := by decide +kernel
theorem dX3_paidLivingIn_19 : decode cX3_paidLivingIn 19 = .ok (.istore 4, 2) := by decide +kernel
theorem dX3_paidLivingIn_21 : decode cX3_paidLivingIn 21 = .ok (.iload_n 3, 1) := by decide +kernel
theorem dX3_paidLivingIn_22 : decode cX3_paidLivingIn 22 = .ok (.iload_n 1, 1) := by decide +kernel
theorem dX3_paidLivingIn_23 : decode cX3_paidLivingIn 23 = .ok (.if_icmp .ne 7, 3) := by decide +kernel
theorem dX3_paidLivingIn_26 : decode cX3_paidLivingIn 26 = .ok (.iconst 0, 1) := by decide +kernel
theorem dX3_paidLivingIn_27 : decode cX3_paidLivingIn 27 = .ok (.goto 21, 3) := by decide +kernel
theorem dX3_paidLivingIn_30 : decode cX3_paidLivingIn 30 = .ok (.iload 4, 2) := by decide +kernel
theorem dX3_paidLivingIn_32 : decode cX3_paidLivingIn 32 = .ok (.aload_n 0, 1) := by decide +kernel
theorem dX3_paidLivingIn_33 : decode cX3_paidLivingIn 33 = .ok (.getfield 19, 3) := by decide +kernel
theorem dX3_paidLivingIn_36 : decode cX3_paidLivingIn 36 = .ok (.getfield 84, 3) := by decide +kernel
theorem dX3_paidLivingIn_39 : decode cX3_paidLivingIn 39 = .ok (.iload_n 3, 1) := by decide +kernel
theorem dX3_paidLivingIn_40 : decode cX3_paidLivingIn 40 = .ok (.aaload, 1) := by decide +kernel
theorem dX3_paidLivingIn_41 : decode cX3_paidLivingIn 41 = .ok (.bipush 6, 2) := by decide +kernel
theorem dX3_paidLivingIn_43 : decode cX3_paidLivingIn 43 = .ok (.iaload, 1) := by decide +kernel
theorem dX3_paidLivingIn_44 : decode cX3_paidLivingIn 44 = .ok (.imul, 1) := by decide +kernel
theorem dX3_paidLivingIn_45 : decode cX3_paidLivingIn 45 = .ok (.bipush 100, 2) := by decide +kernel
theorem dX3_paidLivingIn_47 : decode cX3_paidLivingIn 47 = .ok (.idiv, 1) := by decide +kernel
theorem dX3_paidLivingIn_48 : decode cX3_paidLivingIn 48 = .ok (.istore 5, 2) := by decide +kernel
theorem dX3_paidLivingIn_50 : decode cX3_paidLivingIn 50 = .ok (.iload_n 2, 1) := by decide +kernel
theorem dX3_paidLivingIn_51 : decode cX3_paidLivingIn 51 = .ok (.iload 4, 2) := by decide +kernel
theorem dX3_paidLivingIn_53 : decode cX3_paidLivingIn 53 = .ok (.iload 5, 2) := by decide +kernel
theorem dX3_paidLivingIn_55 : decode cX3_paidLivingIn 55 = .ok (.isub, 1) := by decide +kernel
theorem dX3_paidLivingIn_56 : decode cX3_paidLivingIn 56 = .ok (.iadd, 1) := by decide +kernel
theorem dX3_paidLivingIn_57 : decode cX3_paidLivingIn 57 = .ok (.istore_n 2, 1) := by decide +kernel
theorem dX3_paidLivingIn_58 : decode cX3_paidLivingIn 58 = .ok (.iinc 3 1, 3) := by decide +kernel
theorem dX3_paidLivingIn_61 : decode cX3_paidLivingIn 61 = .ok (.goto (-57), 3) := by decide +kernel
theorem dX3_paidLivingIn_64 : decode cX3_paidLivingIn 64 = .ok (.iload_n 2, 1) := by decide +kernel
theorem dX3_paidLivingIn_65 : decode cX3_paidLivingIn 65 = .ok (.ireturn, 1) := by decide +kernel
theorem hd_X3_paidLivingIn : yX3_paidLivingIn.cls ≠ "java/lang/invoke/MethodHandle" ∧ yX3_paidLivingIn.cls ≠ "java/lang/invoke/VarHandle" ∧ (parseMethodDescriptor yX3_paidLivingIn.desc).map (fun d => d.parameters.length) = some 1 := by decide +kernel
def f_X3_paidLivingIn_L4 (S : vS) : Nat → Int32 → Int32 → Int32 →  Option Int32
  | 0, _, _, _ => none
  | n + 1, x1, x2, x3 => if (6 : Int32) ≤ x3 then some x2 else if inb x3 6 = true then lt ((S 31 (x3.toNatClampNeg))) fun v3 => if x3 = x1 then lt ((x2 + (v3 - (0 : Int32)))) fun v7 => (f_X3_paidLivingIn_L4 S n) x1 v7 (x3 + 1) else if inb x3 6 = true then lt (((v3 * (S (54 + x3.toNatClampNeg) 6)) / (100 : Int32))) fun v6 => (f_X3_paidLivingIn_L4 S n) x1 (x2 + (v3 - v6)) (x3 + 1) else none else none
def f_X3_paidLivingIn (a1 : Int32) (S : vS) : Option Int32 := b1 (f_X3_paidLivingIn_L4 S FU a1 (0 : Int32) (0 : Int32)) fun y8 => some y8
set_option maxHeartbeats 4000000 in
set_option maxRecDepth 20000 in
theorem c_X3_paidLivingIn (l : Launch) (D : va_G) (cI cO : ClassId) (ad : Nat → Nat) (a1 : Int32) (S : vS) (R9 : Int32) (hf : f_X3_paidLivingIn a1 S = some R9) : CI l yX3_paidLivingIn cX3_paidLivingIn 6 .int ({ frames := 0, cells := 0, slots := 0, locals := 0 }) [.ref (ad 0), .int a1] D cI cO ad S R9 S := by
  refine CI.of (by decide +kernel) (Nat.le_of_ble_eq_true rfl) (fun p e s m args below meth c Q ls X hl hw hfin => ?_)
  have hl : lv_has ls 6 [(0, .ref (ad 0)), (1, .int a1)] := hl
  have hx := X.1
  have hb := X.2.1
  have L4 : ∀ (n : Nat) (x1 : Int32) (x2 : Int32) (x3 : Int32) (res : Int32), f_X3_paidLivingIn_L4 S n x1 x2 x3 = some res → (K : ∀ (y2 : Int32), some y2 = some res → ∀ (H : Heap) (locs : List Loc) (ls : Array Slot), WD D cI cO ad s S H locs → lv_has ls 6 [(2, .int y2)] → W p l e ({ frames := 0, cells := 0, slots := 0, locals := 0 }) s m args below meth c H locs 0 0 Q (F0 m 64 ls [])) → ∀ (H : Heap) (locs : List Loc) (ls : Array Slot), WD D cI cO ad s S H locs → lv_has ls 6 [(0, .ref (ad 0)), (1, .int x1), (2, .int x2), (3, .int x3)] → W p l e ({ frames := 0, cells := 0, slots := 0, locals := 0 }) s m args below meth c H locs 0 0 Q (F0 m 4 ls []) := by
    intro n
    induction n with
    | zero => intro x1 x2 x3 res hf; cases hf
    | succ n ih =>
      intro x1 x2 x3 res hf K H locs ls hw hl
      unfold f_X3_paidLivingIn_L4 at hf
      refine lv_iload_n hx hb dX3_paidLivingIn_4 rfl (lv_at hl 3 rfl) ?_
      refine lv_bipush (v := 6) hx hb dX3_paidLivingIn_5 (by decide +kernel) ?_
      refine lv_icmp_ge (tgt := 64) hx hb dX3_paidLivingIn_7 (by decide) (fun c1 => ?_) (fun c1 => ?_)
      · replace hf := if_t c1 hf
        exact K x2 hf _ _ _ hw (lv_sub hl [2] rfl)
      · replace hf := if_f c1 hf
        refine lv_aload_n hx hb dX3_paidLivingIn_10 rfl (lv_at hl 0 rfl) ?_
        refine x_get X hw 0 (Nat.le_of_ble_eq_true rfl) ce0 rfl i_X3 3 (by decide) q185 ⟨rfl, rfl, rfl⟩ rfl dX3_paidLivingIn_11 ?_
        refine x_getN X hw 4 (Nat.le_of_ble_eq_true rfl) ce4 rfl i_X1 6 (by decide) q154 ⟨rfl, rfl, rfl⟩ rfl dX3_paidLivingIn_14 ?_
        refine lv_iload_n hx hb dX3_paidLivingIn_17 rfl (lv_at hl 3 rfl) ?_
        obtain ⟨h2, hf⟩ := if_s hf
        refine x_iald X hw 31 ⟨Nat.le_of_ble_eq_true rfl, Nat.le_of_ble_eq_true rfl⟩ rfl h2 (x3.toNatClampNeg) rfl dX3_paidLivingIn_18 ?_
        refine lv_topi (fun v3 ev3 => ?_)
        replace hf := lt_e ev3 hf
        refine lv_istore (lv' := [(4, .int v3), (0, .ref (ad 0)), (1, .int x1), (2, .int x2), (3, .int x3)]) hx hb dX3_paidLivingIn_19 hl (by decide) rfl (fun ls hl => ?_)
        refine lv_iload_n hx hb dX3_paidLivingIn_21 rfl (lv_at hl 4 rfl) ?_
        refine lv_iload_n hx hb dX3_paidLivingIn_22 rfl (lv_at hl 2 rfl) ?_
        refine lv_icmp_ne (tgt := 30) hx hb dX3_paidLivingIn_23 (by decide) (fun c4 => ?_) (fun c4 => ?_)
        · replace hf := if_f c4 hf
          refine lv_iload hx hb dX3_paidLivingIn_30 (lv_at hl 0 rfl) ?_
          refine lv_aload_n hx hb dX3_paidLivingIn_32 rfl (lv_at hl 1 rfl) ?_
          refine x_get X hw 0 (Nat.le_of_ble_eq_true rfl) ce0 rfl i_X3 1 (by decide) q183 ⟨rfl, rfl, rfl⟩ rfl dX3_paidLivingIn_33 ?_
          refine x_getN X hw 2 (Nat.le_of_ble_eq_true rfl) ce2 rfl i_X0 1 (by decide) q116 ⟨rfl, rfl, rfl⟩ rfl dX3_paidLivingIn_36 ?_
          refine lv_iload_n hx hb dX3_paidLivingIn_39 rfl (lv_at hl 4 rfl) ?_
          obtain ⟨h5, hf⟩ := if_s hf
          refine x_aald X hw 7 (Nat.le_of_ble_eq_true rfl) ce7 h5 rfl dX3_paidLivingIn_40 ?_
          refine lv_bipush (v := 6) hx hb dX3_paidLivingIn_41 (by decide +kernel) ?_
          refine x_iald X hw (54 + x3.toNatClampNeg) (have q9 := inb_lt h5; ⟨by omega, by omega⟩) (alen_54 (inb_lt h5)) (by decide) 6 (by decide) dX3_paidLivingIn_43 ?_
          refine lv_imul hx hb dX3_paidLivingIn_44 ?_
          refine lv_bipush (v := 100) hx hb dX3_paidLivingIn_45 (by decide +kernel) ?_
          refine lv_idiv hx hb dX3_paidLivingIn_47 (by decide) ?_
          refine lv_topi (fun v6 ev6 => ?_)
          replace hf := lt_e ev6 hf
          refine lv_istore (lv' := [(5, .int v6), (4, .int v3), (0, .ref (ad 0)), (1, .int x1), (2, .int x2), (3, .int x3)]) hx hb dX3_paidLivingIn_48 hl (by decide) rfl (fun ls hl => ?_)
          refine lv_iload_n hx hb dX3_paidLivingIn_50 rfl (lv_at hl 4 rfl) ?_
          refine lv_iload hx hb dX3_paidLivingIn_51 (lv_at hl 1 rfl) ?_
          refine lv_iload hx hb dX3_paidLivingIn_53 (lv_at hl 0 rfl) ?_
          refine lv_isub hx hb dX3_paidLivingIn_55 ?_
          refine lv_iadd hx hb dX3_paidLivingIn_56 ?_
          refine lv_istore_n (lv' := [(2, .int (x2 + (v3 - v6))), (5, .int v6), (4, .int v3), (0, .ref (ad 0)), (1, .int x1), (3, .int x3)]) hx hb dX3_paidLivingIn_57 rfl hl (by decide) rfl (fun ls hl => ?_)
          refine lv_iinc (v := (x3 + 1)) (lv' := [(3, .int (x3 + 1)), (2, .int (x2 + (v3 - v6))), (5, .int v6), (4, .int v3), (0, .ref (ad 0)), (1, .int x1)]) hx hb dX3_paidLivingIn_58 hl (k := 5) rfl rfl (by decide) rfl (fun ls hl => ?_)
          refine lv_goto (tgt := 4) hx hb dX3_paidLivingIn_61 (by decide) ?_
          exact ih x1 (x2 + (v3 - v6)) (x3 + 1) _ hf K _ _ _ hw (lv_sub hl [4, 5, 1, 0] rfl)
        · replace hf := if_t c4 hf
          refine lv_iconst (v := 0) hx hb dX3_paidLivingIn_26 (by decide) ?_
          refine lv_goto (tgt := 48) hx hb dX3_paidLivingIn_27 (by decide) ?_
          refine lv_istore (lv' := [(5, .int (0 : Int32)), (4, .int v3), (0, .ref (ad 0)), (1, .int x1), (2, .int x2), (3, .int x3)]) hx hb dX3_paidLivingIn_48 hl (by decide) rfl (fun ls hl => ?_)
          refine lv_iload_n hx hb dX3_paidLivingIn_50 rfl (lv_at hl 4 rfl) ?_
          refine lv_iload hx hb dX3_paidLivingIn_51 (lv_at hl 1 rfl) ?_
          refine lv_iload hx hb dX3_paidLivingIn_53 (lv_at hl 0 rfl) ?_
          refine lv_isub hx hb dX3_paidLivingIn_55 ?_
          refine lv_iadd hx hb dX3_paidLivingIn_56 ?_
          refine lv_topi (fun v7 ev7 => ?_)
          replace hf := lt_e ev7 hf
          refine lv_istore_n (lv' := [(2, .int v7), (5, .int (0 : Int32)), (4, .int v3), (0, .ref (ad 0)), (1, .int x1), (3, .int x3)]) hx hb dX3_paidLivingIn_57 rfl hl (by decide) rfl (fun ls hl => ?_)
          refine lv_iinc (v := (x3 + 1)) (lv' := [(3, .int (x3 + 1)), (2, .int v7), (5, .int (0 : Int32)), (4, .int v3), (0, .ref (ad 0)), (1, .int x1)]) hx hb dX3_paidLivingIn_58 hl (k := 5) rfl rfl (by decide) rfl (fun ls hl => ?_)
          refine lv_goto (tgt := 4) hx hb dX3_paidLivingIn_61 (by decide) ?_
          exact ih x1 v7 (x3 + 1) _ hf K _ _ _ hw (lv_sub hl [4, 5, 1, 0] rfl)
  unfold f_X3_paidLivingIn at hf
  refine lv_iconst (v := 0) hx hb dX3_paidLivingIn_0 (by decide) ?_
  refine lv_istore_n (lv' := [(2, .int (0 : Int32)), (0, .ref (ad 0)), (1, .int a1)]) hx hb dX3_paidLivingIn_1 rfl hl (by decide) rfl (fun ls hl => ?_)
  refine lv_iconst (v := 0) hx hb dX3_paidLivingIn_2 (by decide) ?_
  refine lv_istore_n (lv' := [(3, .int (0 : Int32)), (2, .int (0 : Int32)), (0, .ref (ad 0)), (1, .int a1)]) hx hb dX3_paidLivingIn_3 rfl hl (by decide) rfl (fun ls hl => ?_)
  obtain ⟨y8, h9, hf⟩ := b1_s hf
  refine L4 FU a1 (0 : Int32) (0 : Int32) _ h9 (fun y8' eK H locs ls hw hl => ?_) _ _ _ hw (lv_sub hl [2, 3, 1, 0] rfl)
  cases eK
  refine lv_iload_n hx hb dX3_paidLivingIn_64 rfl (lv_at hl 0 rfl) ?_
  exact hfin _ _ _ _ _ _ hw (Option.some.inj hf) rfl (narI _) dX3_paidLivingIn_65
/-- NineLands.feed(IJ)I -/
theorem dX3_feed_0 : decode cX3_feed 0 = .ok (.iload_n 1, 1) := by decide +kernel
theorem dX3_feed_1 : decode cX3_feed 1 = .ok (.iconst 1, 1) := by decide +kernel
theorem dX3_feed_2 : decode cX3_feed 2 = .ok (.if_icmp .ge 10, 3) := by decide +kernel
theorem dX3_feed_5 : decode cX3_feed 5 = .ok (.aload_n 0, 1) := by decide +kernel
theorem dX3_feed_6 : decode cX3_feed 6 = .ok (.bipush (-4), 2) := by decide +kernel
theorem dX3_feed_8 : decode cX3_feed 8 = .ok (.invokevirtual 48, 3) := by decide +kernel
theorem dX3_feed_11 : decode cX3_feed 11 = .ok (.ireturn, 1) := by decide +kernel
theorem dX3_feed_12 : decode cX3_feed 12 = .ok (.iload_n 1, 1) := by decide +kernel
theorem dX3_feed_13 : decode cX3_feed 13 = .ok (.bipush 8, 2) := by decide +kernel
theorem dX3_feed_15 : decode cX3_feed 15 = .ok (.if_icmp .gt 17, 3) := by decide +kernel
theorem dX3_feed_18 : decode cX3_feed 18 = .ok (.iload_n 1, 1) := by decide +kernel
theorem dX3_feed_19 : decode cX3_feed 19 = .ok (.bipush 16, 2) := by decide +kernel
theorem dX3_feed_21 : decode cX3_feed 21 = .ok (.aload_n 0, 1) := by decide +kernel
theorem dX3_feed_22 : decode cX3_feed 22 = .ok (.getfield 10, 3) := by decide +kernel
theorem dX3_feed_25 : decode cX3_feed 25 = .ok (.getfield 52, 3) := by decide +kernel
theorem dX3_feed_28 : decode cX3_feed 28 = .ok (.isub, 1) := by decide +kernel
theorem dX3_feed_29 : decode cX3_feed 29 = .ok (.if_icmp .le 10, 3) := by decide +kernel
theorem dX3_feed_32 : decode cX3_feed 32 = .ok (.aload_n 0, 1) := by decide +kernel
theorem dX3_feed_33 : decode cX3_feed 33 = .ok (.bipush (-6), 2) := by decide +kernel
theorem dX3_feed_35 : decode cX3_feed 35 = .ok (.invokevirtual 48, 3) := by decide +kernel
theorem dX3_feed_38 : decode cX3_feed 38 = .ok (.ireturn, 1) := by decide +kernel
theorem dX3_feed_39 : decode cX3_feed 39 = .ok (.iconst 0, 1) := by decide +kernel
theorem dX3_feed_40 : decode cX3_feed 40 = .ok (.istore 4, 2) := by decide +kernel
theorem dX3_feed_42 : decode cX3_feed 42 = .ok (.iload 4, 2) := by decide +kernel
theorem dX3_feed_44 : decode cX3_feed 44 = .ok (.iload_n 1, 1) := by decide +kernel
theorem dX3_feed_45 : decode cX3_feed 45 = .ok (.if_icmp .ge 49, 3) := by decide +kernel
theorem dX3_feed_48 : decode cX3_feed 48 = .ok (.aload_n 0, 1) := by decide +kernel
theorem dX3_feed_49 : decode cX3_feed 49 = .ok (.getfield 10, 3) := by decide +kernel
theorem dX3_feed_52 : decode cX3_feed 52 = .ok (.getfield 55, 3) := by decide +kernel
theorem dX3_feed_55 : decode cX3_feed 55 = .ok (.aload_n 0, 1) := by decide +kernel
theorem dX3_feed_56 : decode cX3_feed 56 = .ok (.getfield 10, 3) := by decide +kernel
theorem dX3_feed_59 : decode cX3_feed 59 = .ok (.getfield 52, 3) := by decide +kernel
theorem dX3_feed_62 : decode cX3_feed 62 = .ok (.lload_n 2, 1) := by decide +kernel
theorem dX3_feed_63 : decode cX3_feed 63 = .ok (.bipush 8, 2) := by decide +kernel
theorem dX3_feed_65 : decode cX3_feed 65 = .ok (.iload 4, 2) := by decide +kernel
theorem dX3_feed_67 : decode cX3_feed 67 = .ok (.imul, 1) := by decide +kernel
theorem dX3_feed_68 : decode cX3_feed 68 = .ok (.lushr, 1) := by decide +kernel
theorem dX3_feed_69 : decode cX3_feed 69 = .ok (.ldc2_w 58, 3) := by decide +kernel
theorem dX3_feed_72 : decode cX3_feed 72 = .ok (.land, 1) := by decide +kernel
theorem dX3_feed_73 : decode cX3_feed 73 = .ok (.l2i, 1) := by decide +kernel
theorem dX3_feed_74 : decode cX3_feed 74 = .ok (.iastore, 1) := by decide +kernel
theorem dX3_feed_75 : decode cX3_feed 75 = .ok (.aload_n 0, 1) := by decide +kernel
theorem dX3_feed_76 : decode cX3_feed 76 = .ok (.getfield 10, 3) := by decide +kernel
theorem dX3_feed_79 : decode cX3_feed 79 = .ok (.dup, 1) := by decide +kernel
theorem dX3_feed_80 : decode cX3_feed 80 = .ok (.getfield 52, 3) := by decide +kernel
theorem dX3_feed_83 : decode cX3_feed 83 = .ok (.iconst 1, 1) := by decide +kernel
theorem dX3_feed_84 : decode cX3_feed 84 = .ok (.iadd, 1) := by decide +kernel
theorem dX3_feed_85 : decode cX3_feed 85 = .ok (.putfield 52, 3) := by decide +kernel
theorem dX3_feed_88 : decode cX3_feed 88 = .ok (.iinc 4 1, 3) := by decide +kernel
theorem dX3_feed_91 : decode cX3_feed 91 = .ok (.goto (-49), 3) := by decide +kernel
theorem dX3_feed_94 : decode cX3_feed 94 = .ok (.aload_n 0, 1) := by decide +kernel
theorem dX3_feed_95 : decode cX3_feed 95 = .ok (.getfield 10, 3) := by decide +kernel
theorem dX3_feed_98 : decode cX3_feed 98 = .ok (.getfield 52, 3) := by decide +kernel
theorem dX3_feed_101 : decode cX3_feed 101 = .ok (.ireturn, 1) := by decide +kernel
theorem hd_X3_feed : yX3_feed.cls ≠ "java/lang/invoke/MethodHandle" ∧ yX3_feed.cls ≠ "java/lang/invoke/VarHandle" ∧ (parseMethodDescriptor yX3_feed.desc).map (fun d => d.parameters.length) = some 2 := by decide +kernel
def f_X3_feed_L42 : Nat → Int32 → Int64 → Int32 → vS → Option vS
  | 0, _, _, _, _ => none
  | n + 1, x1, x2, x4, S => if x1 ≤ x4 then some S else if inb (S 0 10) 16 = true then lt (upk S 22 (upd (S 22) ((S 0 10).toNatClampNeg) (((x2.toUInt64 >>> (((8 : Int32) * x4).toInt64.toUInt64 &&& Int64.toUInt64 63)).toInt64 &&& (255 : Int64)).toInt32))) fun S9 => lt (upk S9 0 (upd (S9 0) 10 ((S9 0 10) + (1 : Int32)))) fun S10 => (f_X3_feed_L42 n) x1 x2 (x4 + 1) S10 else none
def f_X3_feed (a1 : Int32) (a2 : Int64) (S : vS) : Option (Int32 × vS) := if (1 : Int32) ≤ a1 then if (8 : Int32) < a1 then b2 (f_X3_refuse (-6 : Int32) S) fun r5 S4 => some (r5, S4) else if a1 ≤ ((16 : Int32) - (S 0 10)) then b1 (f_X3_feed_L42 FU a1 a2 (0 : Int32) S) fun S11 => some ((S11 0 10), S11) else b2 (f_X3_refuse (-6 : Int32) S) fun r15 S14 => some (r15, S14) else b2 (f_X3_refuse (-4 : Int32) S) fun r18 S17 => some (r18, S17)
set_option maxHeartbeats 4000000 in
set_option maxRecDepth 20000 in
theorem c_X3_feed (l : Launch) (D : va_G) (cI cO : ClassId) (ad : Nat → Nat) (a1 : Int32) (a2 : Int64) (S : vS) (R9 : Int32) (S9 : vS) (hf : f_X3_feed a1 a2 S = some (R9, S9)) : CI l yX3_feed cX3_feed 5 .int ({ frames := 1, cells := 0, slots := 0, locals := 21 }) [.ref (ad 0), .int a1, .long a2] D cI cO ad S R9 S9 := by
  refine CI.of (by decide +kernel) (Nat.le_of_ble_eq_true rfl) (fun p e s m args below meth c Q ls X hl hw hfin => ?_)
  have hl : lv_has ls 5 [(0, .ref (ad 0)), (1, .int a1), (2, .long a2)] := hl
  have hx := X.1
  have hb := X.2.1
  have L42 : ∀ (n : Nat) (x1 : Int32) (x2 : Int64) (x4 : Int32) (S : vS) (res : vS), f_X3_feed_L42 n x1 x2 x4 S = some res → (K : ∀  (S2 : vS), some S2 = some res → ∀ (H : Heap) (locs : List Loc) (ls : Array Slot), WD D cI cO ad s S2 H locs → lv_has ls 5 [(0, .ref (ad 0))] → W p l e ({ frames := 1, cells := 0, slots := 0, locals := 21 }) s m args below meth c H locs 0 0 Q (F0 m 94 ls [])) → ∀ (H : Heap) (locs : List Loc) (ls : Array Slot), WD D cI cO ad s S H locs → lv_has ls 5 [(0, .ref (ad 0)), (1, .int x1), (2, .long x2), (4, .int x4)] → W p l e ({ frames := 1, cells := 0, slots := 0, locals := 21 }) s m args below meth c H locs 0 0 Q (F0 m 42 ls []) := by
    intro n
    induction n with
    | zero => intro x1 x2 x4 S res hf; cases hf
    | succ n ih =>
      intro x1 x2 x4 S res hf K H locs ls hw hl
      unfold f_X3_feed_L42 at hf
      refine lv_iload hx hb dX3_feed_42 (lv_at hl 3 rfl) ?_
      refine lv_iload_n hx hb dX3_feed_44 rfl (lv_at hl 1 rfl) ?_
      refine lv_icmp_ge (tgt := 94) hx hb dX3_feed_45 (by decide) (fun c7 => ?_) (fun c7 => ?_)
      · replace hf := if_t c7 hf
        exact K S hf _ _ _ hw (lv_sub hl [0] rfl)
      · replace hf := if_f c7 hf
        refine lv_aload_n hx hb dX3_feed_48 rfl (lv_at hl 0 rfl) ?_
        refine x_get X hw 0 (Nat.le_of_ble_eq_true rfl) ce0 rfl i_X3 0 (by decide) q182 ⟨rfl, rfl, rfl⟩ rfl dX3_feed_49 ?_
        refine x_getN X hw 1 (Nat.le_of_ble_eq_true rfl) ce1 rfl i_X2 0 (by decide) q87 ⟨rfl, rfl, rfl⟩ rfl dX3_feed_52 ?_
        refine lv_aload_n hx hb dX3_feed_55 rfl (lv_at hl 0 rfl) ?_
        refine x_get X hw 0 (Nat.le_of_ble_eq_true rfl) ce0 rfl i_X3 0 (by decide) q182 ⟨rfl, rfl, rfl⟩ rfl dX3_feed_56 ?_
        refine x_getN X hw 1 (Nat.le_of_ble_eq_true rfl) ce1 rfl i_X2 1 (by decide) q89 ⟨rfl, rfl, rfl⟩ rfl dX3_feed_59 ?_
        refine lv_lload_n hx hb dX3_feed_62 rfl (lv_at hl 2 rfl) ?_
        refine lv_bipush (v := 8) hx hb dX3_feed_63 (by decide +kernel) ?_
        refine lv_iload hx hb dX3_feed_65 (lv_at hl 3 rfl) ?_
        refine lv_imul hx hb dX3_feed_67 ?_
        refine lv_lushr (v := (x2.toUInt64 >>> (((8 : Int32) * x4).toInt64.toUInt64 &&& Int64.toUInt64 63)).toInt64) hx hb dX3_feed_68 rfl ?_
        refine lv_ldc2 (v := 255) hx hb X.2.2.2.1 (X.2.2.2.2 _ (List.mem_cons_of_mem _ q215)) dX3_feed_69 ?_
        refine lv_land hx hb dX3_feed_72 ?_
        refine lv_l2i (v := ((x2.toUInt64 >>> (((8 : Int32) * x4).toInt64.toUInt64 &&& Int64.toUInt64 63)).toInt64 &&& (255 : Int64)).toInt32) hx hb dX3_feed_73 rfl ?_
        obtain ⟨h8, hf⟩ := if_s hf
        refine x_iast X hw 22 ⟨Nat.le_of_ble_eq_true rfl, Nat.le_of_ble_eq_true rfl⟩ rfl h8 ((S 0 10).toNatClampNeg) rfl dX3_feed_74 (fun S9 eS9 H locs hw => ?_)
        replace hf := lt_e eS9 hf
        refine lv_aload_n hx hb dX3_feed_75 rfl (lv_at hl 0 rfl) ?_
        refine x_get X hw 0 (Nat.le_of_ble_eq_true rfl) ce0 rfl i_X3 0 (by decide) q182 ⟨rfl, rfl, rfl⟩ rfl dX3_feed_76 ?_
        refine lv_dup hx hb dX3_feed_79 rfl ?_
        refine x_getN X hw 1 (Nat.le_of_ble_eq_true rfl) ce1 rfl i_X2 1 (by decide) q89 ⟨rfl, rfl, rfl⟩ rfl dX3_feed_80 ?_
        refine lv_iconst (v := 1) hx hb dX3_feed_83 (by decide) ?_
        refine lv_iadd hx hb dX3_feed_84 ?_
        refine x_putN X hw 1 (Nat.le_of_ble_eq_true rfl) ce1 rfl i_X2 tyX2_ok nmX2 1 (by decide) q89 ⟨rfl, rfl, rfl⟩ rfl pfI rfl rfl (Nat.le_of_ble_eq_true rfl) 10 (ws_10 _) dX3_feed_85 (fun S10 eS10 H locs hw => ?_)
        replace hf := lt_e eS10 hf
        refine lv_iinc (v := (x4 + 1)) (lv' := [(4, .int (x4 + 1)), (0, .ref (ad 0)), (1, .int x1), (2, .long x2)]) hx hb dX3_feed_88 hl (k := 3) rfl rfl (by decide) rfl (fun ls hl => ?_)
        refine lv_goto (tgt := 42) hx hb dX3_feed_91 (by decide) ?_
        exact ih x1 x2 (x4 + 1) S10 _ hf K _ _ _ hw (lv_sub hl [1, 2, 3, 0] rfl)
  unfold f_X3_feed at hf
  refine lv_iload_n hx hb dX3_feed_0 rfl (lv_at hl 1 rfl) ?_
  refine lv_iconst (v := 1) hx hb dX3_feed_1 (by decide) ?_
  refine lv_icmp_ge (tgt := 12) hx hb dX3_feed_2 (by decide) (fun c1 => ?_) (fun c1 => ?_)
  · replace hf := if_t c1 hf
    refine lv_iload_n hx hb dX3_feed_12 rfl (lv_at hl 1 rfl) ?_
    refine lv_bipush (v := 8) hx hb dX3_feed_13 (by decide +kernel) ?_
    refine lv_icmp_gt (tgt := 32) hx hb dX3_feed_15 (by decide) (fun c2 => ?_) (fun c2 => ?_)
    · replace hf := if_t c2 hf
      refine lv_aload_n hx hb dX3_feed_32 rfl (lv_at hl 0 rfl) ?_
      refine lv_bipush (v := -6) hx hb dX3_feed_33 (by decide +kernel) ?_
      obtain ⟨r5, S4, h3, hf⟩ := b2_s hf
      refine kVi X hw (c_X3_refuse l D cI cO ad (-6 : Int32) S r5 S4 h3) (Nat.le_of_ble_eq_true rfl) ce0 rfl ⟨rfl, rfl⟩ q211 q213 q0 q59 q214 hd_X3_refuse ⟨Nat.le_of_ble_eq_true rfl, Nat.le_of_ble_eq_true rfl⟩ rfl hl.1 rfl (Nat.le_of_ble_eq_true rfl) dX3_feed_35 (fun H locs hw => ?_)
      exact hfin _ _ _ _ _ _ hw (s2a hf) (s2b hf) (narI _) dX3_feed_38
    · replace hf := if_f c2 hf
      refine lv_iload_n hx hb dX3_feed_18 rfl (lv_at hl 1 rfl) ?_
      refine lv_bipush (v := 16) hx hb dX3_feed_19 (by decide +kernel) ?_
      refine lv_aload_n hx hb dX3_feed_21 rfl (lv_at hl 0 rfl) ?_
      refine x_get X hw 0 (Nat.le_of_ble_eq_true rfl) ce0 rfl i_X3 0 (by decide) q182 ⟨rfl, rfl, rfl⟩ rfl dX3_feed_22 ?_
      refine x_getN X hw 1 (Nat.le_of_ble_eq_true rfl) ce1 rfl i_X2 1 (by decide) q89 ⟨rfl, rfl, rfl⟩ rfl dX3_feed_25 ?_
      refine lv_isub hx hb dX3_feed_28 ?_
      refine lv_icmp_le (tgt := 39) hx hb dX3_feed_29 (by decide) (fun c6 => ?_) (fun c6 => ?_)
      · replace hf := if_t c6 hf
        refine lv_iconst (v := 0) hx hb dX3_feed_39 (by decide) ?_
        refine lv_istore (lv' := [(4, .int (0 : Int32)), (0, .ref (ad 0)), (1, .int a1), (2, .long a2)]) hx hb dX3_feed_40 hl (by decide) rfl (fun ls hl => ?_)
        obtain ⟨S11, h12, hf⟩ := b1_s hf
        refine L42 FU a1 a2 (0 : Int32) S _ h12 (fun S11' eK H locs ls hw hl => ?_) _ _ _ hw (lv_sub hl [1, 2, 3, 0] rfl)
        cases eK
        refine lv_aload_n hx hb dX3_feed_94 rfl (lv_at hl 0 rfl) ?_
        refine x_get X hw 0 (Nat.le_of_ble_eq_true rfl) ce0 rfl i_X3 0 (by decide) q182 ⟨rfl, rfl, rfl⟩ rfl dX3_feed_95 ?_
        refine x_getN X hw 1 (Nat.le_of_ble_eq_true rfl) ce1 rfl i_X2 1 (by decide) q89 ⟨rfl, rfl, rfl⟩ rfl dX3_feed_98 ?_
        exact hfin _ _ _ _ _ _ hw (s2a hf) (s2b hf) (narI _) dX3_feed_101
      · replace hf := if_f c6 hf
        refine lv_aload_n hx hb dX3_feed_32 rfl (lv_at hl 0 rfl) ?_
        refine lv_bipush (v := -6) hx hb dX3_feed_33 (by decide +kernel) ?_
        obtain ⟨r15, S14, h13, hf⟩ := b2_s hf
        refine kVi X hw (c_X3_refuse l D cI cO ad (-6 : Int32) S r15 S14 h13) (Nat.le_of_ble_eq_true rfl) ce0 rfl ⟨rfl, rfl⟩ q211 q213 q0 q59 q214 hd_X3_refuse ⟨Nat.le_of_ble_eq_true rfl, Nat.le_of_ble_eq_true rfl⟩ rfl hl.1 rfl (Nat.le_of_ble_eq_true rfl) dX3_feed_35 (fun H locs hw => ?_)
        exact hfin _ _ _ _ _ _ hw (s2a hf) (s2b hf) (narI _) dX3_feed_38
  · replace hf := if_f c1 hf
    refine lv_aload_n hx hb dX3_feed_5 rfl (lv_at hl 0 rfl) ?_
    refine lv_bipush (v := -4) hx hb dX3_feed_6 (by decide +kernel) ?_
    obtain ⟨r18, S17, h16, hf⟩ := b2_s hf
    refine kVi X hw (c_X3_refuse l D cI cO ad (-4 : Int32) S r18 S17 h16) (Nat.le_of_ble_eq_true rfl) ce0 rfl ⟨rfl, rfl⟩ q211 q213 q0 q59 q214 hd_X3_refuse ⟨Nat.le_of_ble_eq_true rfl, Nat.le_of_ble_eq_true rfl⟩ rfl hl.1 rfl (Nat.le_of_ble_eq_true rfl) dX3_feed_8 (fun H locs hw => ?_)
    exact hfin _ _ _ _ _ _ hw (s2a hf) (s2b hf) (narI _) dX3_feed_11
/-- NineLands.spell()I -/
theorem dX3_spell_0 : decode cX3_spell 0 = .ok (.aload_n 0, 1) := by decide +kernel
theorem dX3_spell_1 : decode cX3_spell 1 = .ok (.getfield 19, 3) := by decide +kernel
theorem dX3_spell_4 : decode cX3_spell 4 = .ok (.getfield 60, 3) := by decide +kernel
theorem dX3_spell_7 : decode cX3_spell 7 = .ok (.bipush 20, 2) := by decide +kernel
theorem dX3_spell_9 : decode cX3_spell 9 = .ok (.if_icmp .lt 10, 3) := by decide +kernel
theorem dX3_spell_12 : decode cX3_spell 12 = .ok (.aload_n 0, 1) := by decide +kernel
theorem dX3_spell_13 : decode cX3_spell 13 = .ok (.bipush (-6), 2) := by decide +kernel
theorem dX3_spell_15 : decode cX3_spell 15 = .ok (.invokevirtual 48, 3) := by decide +kernel
theorem dX3_spell_18 : decode cX3_spell 18 = .ok (.ireturn, 1) := by decide +kernel
theorem dX3_spell_19 : decode cX3_spell 19 = .ok (.aload_n 0, 1) := by decide +kernel
theorem dX3_spell_20 : decode cX3_spell 20 = .ok (.getfield 10, 3) := by decide +kernel
theorem dX3_spell_23 : decode cX3_spell 23 = .ok (.aload_n 0, 1) := by decide +kernel
theorem dX3_spell_24 : decode cX3_spell 24 = .ok (.getfield 19, 3) := by decide +kernel
theorem dX3_spell_27 : decode cX3_spell 27 = .ok (.getfield 63, 3) := by decide +kernel
theorem dX3_spell_30 : decode cX3_spell 30 = .ok (.aload_n 0, 1) := by decide +kernel
theorem dX3_spell_31 : decode cX3_spell 31 = .ok (.getfield 19, 3) := by decide +kernel
theorem dX3_spell_34 : decode cX3_spell 34 = .ok (.getfield 60, 3) := by decide +kernel
theorem dX3_spell_37 : decode cX3_spell 37 = .ok (.aaload, 1) := by decide +kernel
theorem dX3_spell_38 : decode cX3_spell 38 = .ok (.invokevirtual 67, 3) := by decide +kernel
theorem dX3_spell_41 : decode cX3_spell 41 = .ok (.istore_n 1, 1) := by decide +kernel
theorem dX3_spell_42 : decode cX3_spell 42 = .ok (.aload_n 0, 1) := by decide +kernel
theorem dX3_spell_43 : decode cX3_spell 43 = .ok (.getfield 10, 3) := by decide +kernel
theorem dX3_spell_46 : decode cX3_spell 46 = .ok (.iconst 0, 1) := by decide +kernel
theorem dX3_spell_47 : decode cX3_spell 47 = .ok (.putfield 52, 3) := by decide +kernel
theorem dX3_spell_50 : decode cX3_spell 50 = .ok (.iload_n 1, 1) := by decide +kernel
theorem dX3_spell_51 : decode cX3_spell 51 = .ok (.ifCond .ne 14, 3) := by decide +kernel
theorem dX3_spell_54 : decode cX3_spell 54 = .ok (.bipush (-20), 2) := by decide +kernel
theorem dX3_spell_56 : decode cX3_spell 56 = .ok (.aload_n 0, 1) := by decide +kernel
theorem dX3_spell_57 : decode cX3_spell 57 = .ok (.getfield 10, 3) := by decide +kernel
theorem dX3_spell_60 : decode cX3_spell 60 = .ok (.getfield 71, 3) := by decide +kernel
theorem dX3_spell_63 : decode cX3_spell 63 = .ok (.isub, 1) := by decide +kernel
theorem dX3_spell_64 : decode cX3_spell 64 = .ok (.ireturn, 1) := by decide +kernel
theorem dX3_spell_65 : decode cX3_spell 65 = .ok (.aload_n 0, 1) := by decide +kernel
theorem dX3_spell_66 : decode cX3_spell 66 = .ok (.getfield 19, 3) := by decide +kernel
theorem dX3_spell_69 : decode cX3_spell 69 = .ok (.dup, 1) := by decide +kernel
theorem dX3_spell_70 : decode cX3_spell 70 = .ok (.getfield 60, 3) := by decide +kernel
theorem dX3_spell_73 : decode cX3_spell 73 = .ok (.iconst 1, 1) := by decide +kernel
theorem dX3_spell_74 : decode cX3_spell 74 = .ok (.iadd, 1) := by decide +kernel
theorem dX3_spell_75 : decode cX3_spell 75 = .ok (.putfield 60, 3) := by decide +kernel
theorem dX3_spell_78 : decode cX3_spell 78 = .ok (.aload_n 0, 1) := by decide +kernel
theorem dX3_spell_79 : decode cX3_spell 79 = .ok (.getfield 19, 3) := by decide +kernel
theorem dX3_spell_82 : decode cX3_spell 82 = .ok (.getfield 60, 3) := by decide +kernel
theorem dX3_spell_85 : decode cX3_spell 85 = .ok (.iconst 1, 1) := by decide +kernel
theorem dX3_spell_86 : decode cX3_spell 86 = .ok (.isub, 1) := by decide +kernel
theorem dX3_spell_87 : decode cX3_spell 87 = .ok (.ireturn, 1) := by decide +kernel
theorem hd_X3_spell : yX3_spell.cls ≠ "java/lang/invoke/MethodHandle" ∧ yX3_spell.cls ≠ "java/lang/invoke/VarHandle" ∧ (parseMethodDescriptor yX3_spell.desc).map (fun d => d.parameters.length) = some 0 := by decide +kernel
def f_X3_spell  (S : vS) : Option (Int32 × vS) := if (S 0 12) < (20 : Int32) then if inb (S 0 12) 20 = true then b2 (f_X2_readInto (34 + (S 0 12).toNatClampNeg) S) fun r5 S4 => lt (upk S4 0 (upd (S4 0) 10 (0 : Int32))) fun S6 => if r5 = 0 then some (((-20 : Int32) - (S6 0 11)), S6) else lt (upk S6 0 (upd (S6 0) 12 ((S6 0 12) + (1 : Int32)))) fun S8 => some (((S8 0 12) - (1 : Int32)), S8) else none else b2 (f_X3_refuse (-6 : Int32) S) fun r11 S10 => some (r11, S10)
set_option maxHeartbeats 4000000 in
set_option maxRecDepth 20000 in
theorem c_X3_spell (l : Launch) (D : va_G) (cI cO : ClassId) (ad : Nat → Nat)  (S : vS) (R9 : Int32) (S9 : vS) (hf : f_X3_spell  S = some (R9, S9)) : CI l yX3_spell cX3_spell 2 .int ({ frames := 6, cells := 0, slots := 0, locals := 137 }) [.ref (ad 0)] D cI cO ad S R9 S9 := by
  refine CI.of (by decide +kernel) (Nat.le_of_ble_eq_true rfl) (fun p e s m args below meth c Q ls X hl hw hfin => ?_)
  have hl : lv_has ls 2 [(0, .ref (ad 0))] := hl
  have hx := X.1
  have hb := X.2.1
  unfold f_X3_spell at hf
  refine lv_aload_n hx hb dX3_spell_0 rfl (lv_at hl 0 rfl) ?_
  refine x_get X hw 0 (Nat.le_of_ble_eq_true rfl) ce0 rfl i_X3 1 (by decide) q183 ⟨rfl, rfl, rfl⟩ rfl dX3_spell_1 ?_
  refine x_getN X hw 2 (Nat.le_of_ble_eq_true rfl) ce2 rfl i_X0 4 (by decide) q125 ⟨rfl, rfl, rfl⟩ rfl dX3_spell_4 ?_
  refine lv_bipush (v := 20) hx hb dX3_spell_7 (by decide +kernel) ?_
  refine lv_icmp_lt (tgt := 19) hx hb dX3_spell_9 (by decide) (fun c1 => ?_) (fun c1 => ?_)
  · replace hf := if_t c1 hf
    refine lv_aload_n hx hb dX3_spell_19 rfl (lv_at hl 0 rfl) ?_
    refine x_get X hw 0 (Nat.le_of_ble_eq_true rfl) ce0 rfl i_X3 0 (by decide) q182 ⟨rfl, rfl, rfl⟩ rfl dX3_spell_20 ?_
    refine lv_aload_n hx hb dX3_spell_23 rfl (lv_at hl 0 rfl) ?_
    refine x_get X hw 0 (Nat.le_of_ble_eq_true rfl) ce0 rfl i_X3 1 (by decide) q183 ⟨rfl, rfl, rfl⟩ rfl dX3_spell_24 ?_
    refine x_getN X hw 2 (Nat.le_of_ble_eq_true rfl) ce2 rfl i_X0 0 (by decide) q114 ⟨rfl, rfl, rfl⟩ rfl dX3_spell_27 ?_
    refine lv_aload_n hx hb dX3_spell_30 rfl (lv_at hl 0 rfl) ?_
    refine x_get X hw 0 (Nat.le_of_ble_eq_true rfl) ce0 rfl i_X3 1 (by decide) q183 ⟨rfl, rfl, rfl⟩ rfl dX3_spell_31 ?_
    refine x_getN X hw 2 (Nat.le_of_ble_eq_true rfl) ce2 rfl i_X0 4 (by decide) q125 ⟨rfl, rfl, rfl⟩ rfl dX3_spell_34 ?_
    obtain ⟨h2, hf⟩ := if_s hf
    refine x_aald X hw 6 (Nat.le_of_ble_eq_true rfl) ce6 h2 rfl dX3_spell_37 ?_
    obtain ⟨r5, S4, h3, hf⟩ := b2_s hf
    refine kNi X hw (c_X2_readInto l D cI cO ad (34 + (S 0 12).toNatClampNeg) S r5 S4 h3) (Nat.le_of_ble_eq_true rfl) ce1 rfl ⟨rfl, rfl⟩ q220 q222 q1 q60 q223 hd_X2_readInto ⟨Nat.le_of_ble_eq_true rfl, Nat.le_of_ble_eq_true rfl⟩ rfl hl.1 rfl (Nat.le_of_ble_eq_true rfl) dX3_spell_38 (fun H locs hw => ?_)
    refine lv_istore_n (lv' := [(1, .int r5), (0, .ref (ad 0))]) hx hb dX3_spell_41 rfl hl (by decide) rfl (fun ls hl => ?_)
    refine lv_aload_n hx hb dX3_spell_42 rfl (lv_at hl 1 rfl) ?_
    refine x_get X hw 0 (Nat.le_of_ble_eq_true rfl) ce0 rfl i_X3 0 (by decide) q182 ⟨rfl, rfl, rfl⟩ rfl dX3_spell_43 ?_
    refine lv_iconst (v := 0) hx hb dX3_spell_46 (by decide) ?_
    refine x_putN X hw 1 (Nat.le_of_ble_eq_true rfl) ce1 rfl i_X2 tyX2_ok nmX2 1 (by decide) q89 ⟨rfl, rfl, rfl⟩ rfl pfI rfl rfl (Nat.le_of_ble_eq_true rfl) 10 (ws_10 _) dX3_spell_47 (fun S6 eS6 H locs hw => ?_)
    replace hf := lt_e eS6 hf
    refine lv_iload_n hx hb dX3_spell_50 rfl (lv_at hl 0 rfl) ?_
    refine lv_if_ne (tgt := 65) hx hb dX3_spell_51 (by decide) (fun c7 => ?_) (fun c7 => ?_)
    · replace hf := if_f c7 hf
      refine lv_aload_n hx hb dX3_spell_65 rfl (lv_at hl 1 rfl) ?_
      refine x_get X hw 0 (Nat.le_of_ble_eq_true rfl) ce0 rfl i_X3 1 (by decide) q183 ⟨rfl, rfl, rfl⟩ rfl dX3_spell_66 ?_
      refine lv_dup hx hb dX3_spell_69 rfl ?_
      refine x_getN X hw 2 (Nat.le_of_ble_eq_true rfl) ce2 rfl i_X0 4 (by decide) q125 ⟨rfl, rfl, rfl⟩ rfl dX3_spell_70 ?_
      refine lv_iconst (v := 1) hx hb dX3_spell_73 (by decide) ?_
      refine lv_iadd hx hb dX3_spell_74 ?_
      refine x_putN X hw 2 (Nat.le_of_ble_eq_true rfl) ce2 rfl i_X0 tyX0_ok nmX0 4 (by decide) q125 ⟨rfl, rfl, rfl⟩ rfl pfI rfl rfl (Nat.le_of_ble_eq_true rfl) 12 (ws_12 _) dX3_spell_75 (fun S8 eS8 H locs hw => ?_)
      replace hf := lt_e eS8 hf
      refine lv_aload_n hx hb dX3_spell_78 rfl (lv_at hl 1 rfl) ?_
      refine x_get X hw 0 (Nat.le_of_ble_eq_true rfl) ce0 rfl i_X3 1 (by decide) q183 ⟨rfl, rfl, rfl⟩ rfl dX3_spell_79 ?_
      refine x_getN X hw 2 (Nat.le_of_ble_eq_true rfl) ce2 rfl i_X0 4 (by decide) q125 ⟨rfl, rfl, rfl⟩ rfl dX3_spell_82 ?_
      refine lv_iconst (v := 1) hx hb dX3_spell_85 (by decide) ?_
      refine lv_isub hx hb dX3_spell_86 ?_
      exact hfin _ _ _ _ _ _ hw (s2a hf) (s2b hf) (narI _) dX3_spell_87
    · replace hf := if_t c7 hf
      refine lv_bipush (v := -20) hx hb dX3_spell_54 (by decide +kernel) ?_
      refine lv_aload_n hx hb dX3_spell_56 rfl (lv_at hl 1 rfl) ?_
      refine x_get X hw 0 (Nat.le_of_ble_eq_true rfl) ce0 rfl i_X3 0 (by decide) q182 ⟨rfl, rfl, rfl⟩ rfl dX3_spell_57 ?_
      refine x_getN X hw 1 (Nat.le_of_ble_eq_true rfl) ce1 rfl i_X2 2 (by decide) q91 ⟨rfl, rfl, rfl⟩ rfl dX3_spell_60 ?_
      refine lv_isub hx hb dX3_spell_63 ?_
      exact hfin _ _ _ _ _ _ hw (s2a hf) (s2b hf) (narI _) dX3_spell_64
  · replace hf := if_f c1 hf
    refine lv_aload_n hx hb dX3_spell_12 rfl (lv_at hl 0 rfl) ?_
    refine lv_bipush (v := -6) hx hb dX3_spell_13 (by decide +kernel) ?_
    obtain ⟨r11, S10, h9, hf⟩ := b2_s hf
    refine kVi X hw (c_X3_refuse l D cI cO ad (-6 : Int32) S r11 S10 h9) (Nat.le_of_ble_eq_true rfl) ce0 rfl ⟨rfl, rfl⟩ q211 q213 q0 q59 q214 hd_X3_refuse ⟨Nat.le_of_ble_eq_true rfl, Nat.le_of_ble_eq_true rfl⟩ rfl hl.1 rfl (Nat.le_of_ble_eq_true rfl) dX3_spell_15 (fun H locs hw => ?_)
    exact hfin _ _ _ _ _ _ hw (s2a hf) (s2b hf) (narI _) dX3_spell_18
/-- NineLands.law(III)I -/
theorem dX3_law_0 : decode cX3_law 0 = .ok (.iload_n 1, 1) := by decide +kernel
theorem dX3_law_1 : decode cX3_law 1 = .ok (.invokestatic 78, 3) := by decide +kernel
theorem dX3_law_4 : decode cX3_law 4 = .ok (.ifCond .eq 13, 3) := by decide +kernel
theorem dX3_law_7 : decode cX3_law 7 = .ok (.iload_n 2, 1) := by decide +kernel
theorem dX3_law_8 : decode cX3_law 8 = .ok (.ifCond .lt 9, 3) := by decide +kernel
theorem dX3_law_11 : decode cX3_law 11 = .ok (.iload_n 2, 1) := by decide +kernel
theorem dX3_law_12 : decode cX3_law 12 = .ok (.bipush 9, 2) := by decide +kernel
theorem dX3_law_14 : decode cX3_law 14 = .ok (.if_icmp .lt 9, 3) := by decide +kernel
theorem dX3_law_17 : decode cX3_law 17 = .ok (.aload_n 0, 1) := by decide +kernel
theorem dX3_law_18 : decode cX3_law 18 = .ok (.iconst (-1), 1) := by decide +kernel
theorem dX3_law_19 : decode cX3_law 19 = .ok (.invokevirtual 48, 3) := by decide +kernel
theorem dX3_law_22 : decode cX3_law 22 = .ok (.ireturn, 1) := by decide +kernel
theorem dX3_law_23 : decode cX3_law 23 = .ok (.iload_n 3, 1) := by decide +kernel
theorem dX3_law_24 : decode cX3_law 24 = .ok (.ifCond .ge 10, 3) := by decide +kernel
theorem dX3_law_27 : decode cX3_law 27 = .ok (.aload_n 0, 1) := by decide +kernel
theorem dX3_law_28 : decode cX3_law 28 = .ok (.bipush (-4), 2) := by decide +kernel
theorem dX3_law_30 : decode cX3_law 30 = .ok (.invokevirtual 48, 3) := by decide +kernel
theorem dX3_law_33 : decode cX3_law 33 = .ok (.ireturn, 1) := by decide +kernel
theorem dX3_law_34 : decode cX3_law 34 = .ok (.iload_n 3, 1) := by decide +kernel
theorem dX3_law_35 : decode cX3_law 35 = .ok (.getstatic 81, 3) := by decide +kernel
theorem dX3_law_38 : decode cX3_law 38 = .ok (.iload_n 2, 1) := by decide +kernel
theorem dX3_law_39 : decode cX3_law 39 = .ok (.iaload, 1) := by decide +kernel
theorem dX3_law_40 : decode cX3_law 40 = .ok (.if_icmp .le 10, 3) := by decide +kernel
theorem dX3_law_43 : decode cX3_law 43 = .ok (.aload_n 0, 1) := by decide +kernel
theorem dX3_law_44 : decode cX3_law 44 = .ok (.bipush (-6), 2) := by decide +kernel
theorem dX3_law_46 : decode cX3_law 46 = .ok (.invokevirtual 48, 3) := by decide +kernel
theorem dX3_law_49 : decode cX3_law 49 = .ok (.ireturn, 1) := by decide +kernel
theorem dX3_law_50 : decode cX3_law 50 = .ok (.aload_n 0, 1) := by decide +kernel
theorem dX3_law_51 : decode cX3_law 51 = .ok (.getfield 19, 3) := by decide +kernel
theorem dX3_law_54 : decode cX3_law 54 = .ok (.getfield 84, 3) := by decide +kernel
theorem dX3_law_57 : decode cX3_law 57 = .ok (.iload_n 1, 1) := by decide +kernel
theorem dX3_law_58 : decode cX3_law 58 = .ok (.aaload, 1) := by decide +kernel
theorem dX3_law_59 : decode cX3_law 59 = .ok (.iload_n 2, 1) := by decide +kernel
theorem dX3_law_60 : decode cX3_law 60 = .ok (.iaload, 1) := by decide +kernel
theorem dX3_law_61 : decode cX3_law 61 = .ok (.istore 4, 2) := by decide +kernel
theorem dX3_law_63 : decode cX3_law 63 = .ok (.aload_n 0, 1) := by decide +kernel
theorem dX3_law_64 : decode cX3_law 64 = .ok (.getfield 19, 3) := by decide +kernel
theorem dX3_law_67 : decode cX3_law 67 = .ok (.getfield 84, 3) := by decide +kernel
theorem dX3_law_70 : decode cX3_law 70 = .ok (.iload_n 1, 1) := by decide +kernel
theorem dX3_law_71 : decode cX3_law 71 = .ok (.aaload, 1) := by decide +kernel
theorem dX3_law_72 : decode cX3_law 72 = .ok (.iload_n 2, 1) := by decide +kernel
theorem dX3_law_73 : decode cX3_law 73 = .ok (.iload_n 3, 1) := by decide +kernel
theorem dX3_law_74 : decode cX3_law 74 = .ok (.iastore, 1) := by decide +kernel
theorem dX3_law_75 : decode cX3_law 75 = .ok (.iload 4, 2) := by decide +kernel
theorem dX3_law_77 : decode cX3_law 77 = .ok (.ireturn, 1) := by decide +kernel
theorem hd_X3_law : yX3_law.cls ≠ "java/lang/invoke/MethodHandle" ∧ yX3_law.cls ≠ "java/lang/invoke/VarHandle" ∧ (parseMethodDescriptor yX3_law.desc).map (fun d => d.parameters.length) = some 3 := by decide +kernel
def f_X3_law (a1 : Int32) (a2 : Int32) (a3 : Int32) (S : vS) : Option (Int32 × vS) := b1 (f_X3_isLand a1 S) fun r2 => if r2 = 0 then b2 (f_X3_refuse (-1 : Int32) S) fun r6 S5 => some (r6, S5) else if a2 < 0 then b2 (f_X3_refuse (-1 : Int32) S) fun r10 S9 => some (r10, S9) else if a2 < (9 : Int32) then if 0 ≤ a3 then if inb a2 9 = true then if a3 ≤ (lawMost a2.toNatClampNeg) then if inb a1 6 = true then if inb a2 9 = true then lt ((S (54 + a1.toNatClampNeg) (a2.toNatClampNeg))) fun v17 => lt (upk S (54 + a1.toNatClampNeg) (upd (S (54 + a1.toNatClampNeg)) (a2.toNatClampNeg) a3)) fun S18 => some (v17, S18) else none else none else b2 (f_X3_refuse (-6 : Int32) S) fun r21 S20 => some (r21, S20) else none else b2 (f_X3_refuse (-4 : Int32) S) fun r24 S23 => some (r24, S23) else b2 (f_X3_refuse (-1 : Int32) S) fun r27 S26 => some (r27, S26)
set_option maxHeartbeats 4000000 in
set_option maxRecDepth 20000 in
theorem c_X3_law (l : Launch) (D : va_G) (cI cO : ClassId) (ad : Nat → Nat) (a1 : Int32) (a2 : Int32) (a3 : Int32) (S : vS) (R9 : Int32) (S9 : vS) (hf : f_X3_law a1 a2 a3 S = some (R9, S9)) : CI l yX3_law cX3_law 5 .int ({ frames := 1, cells := 0, slots := 0, locals := 21 }) [.ref (ad 0), .int a1, .int a2, .int a3] D cI cO ad S R9 S9 := by
  refine CI.of (by decide +kernel) (Nat.le_of_ble_eq_true rfl) (fun p e s m args below meth c Q ls X hl hw hfin => ?_)
  have hl : lv_has ls 5 [(0, .ref (ad 0)), (1, .int a1), (2, .int a2), (3, .int a3)] := hl
  have hx := X.1
  have hb := X.2.1
  unfold f_X3_law at hf
  refine lv_iload_n hx hb dX3_law_0 rfl (lv_at hl 1 rfl) ?_
  obtain ⟨r2, h1, hf⟩ := b1_s hf
  refine kSi X hw (c_X3_isLand l D cI cO ad a1 S r2 h1) ⟨rfl, rfl⟩ q345 q346 q59 q347 hd_X3_isLand ⟨Nat.le_of_ble_eq_true rfl, Nat.le_of_ble_eq_true rfl⟩ rfl hl.1 rfl (Nat.le_of_ble_eq_true rfl) dX3_law_1 (fun H locs hw => ?_)
  refine lv_if_eq (tgt := 17) hx hb dX3_law_4 (by decide) (fun c3 => ?_) (fun c3 => ?_)
  · replace hf := if_t c3 hf
    refine lv_aload_n hx hb dX3_law_17 rfl (lv_at hl 0 rfl) ?_
    refine lv_iconst (v := -1) hx hb dX3_law_18 (by decide) ?_
    obtain ⟨r6, S5, h4, hf⟩ := b2_s hf
    refine kVi X hw (c_X3_refuse l D cI cO ad (-1 : Int32) S r6 S5 h4) (Nat.le_of_ble_eq_true rfl) ce0 rfl ⟨rfl, rfl⟩ q211 q213 q0 q59 q214 hd_X3_refuse ⟨Nat.le_of_ble_eq_true rfl, Nat.le_of_ble_eq_true rfl⟩ rfl hl.1 rfl (Nat.le_of_ble_eq_true rfl) dX3_law_19 (fun H locs hw => ?_)
    exact hfin _ _ _ _ _ _ hw (s2a hf) (s2b hf) (narI _) dX3_law_22
  · replace hf := if_f c3 hf
    refine lv_iload_n hx hb dX3_law_7 rfl (lv_at hl 2 rfl) ?_
    refine lv_if_lt (tgt := 17) hx hb dX3_law_8 (by decide) (fun c7 => ?_) (fun c7 => ?_)
    · replace hf := if_t c7 hf
      refine lv_aload_n hx hb dX3_law_17 rfl (lv_at hl 0 rfl) ?_
      refine lv_iconst (v := -1) hx hb dX3_law_18 (by decide) ?_
      obtain ⟨r10, S9, h8, hf⟩ := b2_s hf
      refine kVi X hw (c_X3_refuse l D cI cO ad (-1 : Int32) S r10 S9 h8) (Nat.le_of_ble_eq_true rfl) ce0 rfl ⟨rfl, rfl⟩ q211 q213 q0 q59 q214 hd_X3_refuse ⟨Nat.le_of_ble_eq_true rfl, Nat.le_of_ble_eq_true rfl⟩ rfl hl.1 rfl (Nat.le_of_ble_eq_true rfl) dX3_law_19 (fun H locs hw => ?_)
      exact hfin _ _ _ _ _ _ hw (s2a hf) (s2b hf) (narI _) dX3_law_22
    · replace hf := if_f c7 hf
      refine lv_iload_n hx hb dX3_law_11 rfl (lv_at hl 2 rfl) ?_
      refine lv_bipush (v := 9) hx hb dX3_law_12 (by decide +kernel) ?_
      refine lv_icmp_lt (tgt := 23) hx hb dX3_law_14 (by decide) (fun c11 => ?_) (fun c11 => ?_)
      · replace hf := if_t c11 hf
        refine lv_iload_n hx hb dX3_law_23 rfl (lv_at hl 3 rfl) ?_
        refine lv_if_ge (tgt := 34) hx hb dX3_law_24 (by decide) (fun c12 => ?_) (fun c12 => ?_)
        · replace hf := if_t c12 hf
          refine lv_iload_n hx hb dX3_law_34 rfl (lv_at hl 3 rfl) ?_
          refine x_gets X hw hw.2.2.2.2.2.2.1 q348 dX3_law_35 ?_
          refine lv_iload_n hx hb dX3_law_38 rfl (lv_at hl 2 rfl) ?_
          obtain ⟨h13, hf⟩ := if_s hf
          refine x_tald X hw hw.2.2.2.2.2.2.2.2.1 h13 dX3_law_39 ?_
          refine lv_icmp_le (tgt := 50) hx hb dX3_law_40 (by decide) (fun c14 => ?_) (fun c14 => ?_)
          · replace hf := if_t c14 hf
            refine lv_aload_n hx hb dX3_law_50 rfl (lv_at hl 0 rfl) ?_
            refine x_get X hw 0 (Nat.le_of_ble_eq_true rfl) ce0 rfl i_X3 1 (by decide) q183 ⟨rfl, rfl, rfl⟩ rfl dX3_law_51 ?_
            refine x_getN X hw 2 (Nat.le_of_ble_eq_true rfl) ce2 rfl i_X0 1 (by decide) q116 ⟨rfl, rfl, rfl⟩ rfl dX3_law_54 ?_
            refine lv_iload_n hx hb dX3_law_57 rfl (lv_at hl 1 rfl) ?_
            obtain ⟨h15, hf⟩ := if_s hf
            refine x_aald X hw 7 (Nat.le_of_ble_eq_true rfl) ce7 h15 rfl dX3_law_58 ?_
            refine lv_iload_n hx hb dX3_law_59 rfl (lv_at hl 2 rfl) ?_
            obtain ⟨h16, hf⟩ := if_s hf
            refine x_iald X hw (54 + a1.toNatClampNeg) (have q9 := inb_lt h15; ⟨by omega, by omega⟩) (alen_54 (inb_lt h15)) h16 (a2.toNatClampNeg) rfl dX3_law_60 ?_
            refine lv_topi (fun v17 ev17 => ?_)
            replace hf := lt_e ev17 hf
            refine lv_istore (lv' := [(4, .int v17), (0, .ref (ad 0)), (1, .int a1), (2, .int a2), (3, .int a3)]) hx hb dX3_law_61 hl (by decide) rfl (fun ls hl => ?_)
            refine lv_aload_n hx hb dX3_law_63 rfl (lv_at hl 1 rfl) ?_
            refine x_get X hw 0 (Nat.le_of_ble_eq_true rfl) ce0 rfl i_X3 1 (by decide) q183 ⟨rfl, rfl, rfl⟩ rfl dX3_law_64 ?_
            refine x_getN X hw 2 (Nat.le_of_ble_eq_true rfl) ce2 rfl i_X0 1 (by decide) q116 ⟨rfl, rfl, rfl⟩ rfl dX3_law_67 ?_
            refine lv_iload_n hx hb dX3_law_70 rfl (lv_at hl 2 rfl) ?_
            refine x_aald X hw 7 (Nat.le_of_ble_eq_true rfl) ce7 h15 rfl dX3_law_71 ?_
            refine lv_iload_n hx hb dX3_law_72 rfl (lv_at hl 3 rfl) ?_
            refine lv_iload_n hx hb dX3_law_73 rfl (lv_at hl 4 rfl) ?_
            refine x_iast X hw (54 + a1.toNatClampNeg) (have q9 := inb_lt h15; ⟨by omega, by omega⟩) (alen_54 (inb_lt h15)) h16 (a2.toNatClampNeg) rfl dX3_law_74 (fun S18 eS18 H locs hw => ?_)
            replace hf := lt_e eS18 hf
            refine lv_iload hx hb dX3_law_75 (lv_at hl 0 rfl) ?_
            exact hfin _ _ _ _ _ _ hw (s2a hf) (s2b hf) (narI _) dX3_law_77
          · replace hf := if_f c14 hf
            refine lv_aload_n hx hb dX3_law_43 rfl (lv_at hl 0 rfl) ?_
            refine lv_bipush (v := -6) hx hb dX3_law_44 (by decide +kernel) ?_
            obtain ⟨r21, S20, h19, hf⟩ := b2_s hf
            refine kVi X hw (c_X3_refuse l D cI cO ad (-6 : Int32) S r21 S20 h19) (Nat.le_of_ble_eq_true rfl) ce0 rfl ⟨rfl, rfl⟩ q211 q213 q0 q59 q214 hd_X3_refuse ⟨Nat.le_of_ble_eq_true rfl, Nat.le_of_ble_eq_true rfl⟩ rfl hl.1 rfl (Nat.le_of_ble_eq_true rfl) dX3_law_46 (fun H locs hw => ?_)
            exact hfin _ _ _ _ _ _ hw (s2a hf) (s2b hf) (narI _) dX3_law_49
        · replace hf := if_f c12 hf
          refine lv_aload_n hx hb dX3_law_27 rfl (lv_at hl 0 rfl) ?_
          refine lv_bipush (v := -4) hx hb dX3_law_28 (by decide +kernel) ?_
          obtain ⟨r24, S23, h22, hf⟩ := b2_s hf
          refine kVi X hw (c_X3_refuse l D cI cO ad (-4 : Int32) S r24 S23 h22) (Nat.le_of_ble_eq_true rfl) ce0 rfl ⟨rfl, rfl⟩ q211 q213 q0 q59 q214 hd_X3_refuse ⟨Nat.le_of_ble_eq_true rfl, Nat.le_of_ble_eq_true rfl⟩ rfl hl.1 rfl (Nat.le_of_ble_eq_true rfl) dX3_law_30 (fun H locs hw => ?_)
          exact hfin _ _ _ _ _ _ hw (s2a hf) (s2b hf) (narI _) dX3_law_33
      · replace hf := if_f c11 hf
        refine lv_aload_n hx hb dX3_law_17 rfl (lv_at hl 0 rfl) ?_
        refine lv_iconst (v := -1) hx hb dX3_law_18 (by decide) ?_
        obtain ⟨r27, S26, h25, hf⟩ := b2_s hf
        refine kVi X hw (c_X3_refuse l D cI cO ad (-1 : Int32) S r27 S26 h25) (Nat.le_of_ble_eq_true rfl) ce0 rfl ⟨rfl, rfl⟩ q211 q213 q0 q59 q214 hd_X3_refuse ⟨Nat.le_of_ble_eq_true rfl, Nat.le_of_ble_eq_true rfl⟩ rfl hl.1 rfl (Nat.le_of_ble_eq_true rfl) dX3_law_19 (fun H locs hw => ?_)
        exact hfin _ _ _ _ _ _ hw (s2a hf) (s2b hf) (narI _) dX3_law_22
/-- NineLands.spellOf(II)I -/
theorem dX3_spellOf_0 : decode cX3_spellOf 0 = .ok (.aload_n 0, 1) := by decide +kernel
theorem dX3_spellOf_1 : decode cX3_spellOf 1 = .ok (.iload_n 1, 1) := by decide +kernel
theorem dX3_spellOf_2 : decode cX3_spellOf 2 = .ok (.invokevirtual 74, 3) := by decide +kernel
theorem dX3_spellOf_5 : decode cX3_spellOf 5 = .ok (.ifCond .ne 9, 3) := by decide +kernel
theorem dX3_spellOf_8 : decode cX3_spellOf 8 = .ok (.aload_n 0, 1) := by decide +kernel
theorem dX3_spellOf_9 : decode cX3_spellOf 9 = .ok (.iconst (-1), 1) := by decide +kernel
theorem dX3_spellOf_10 : decode cX3_spellOf 10 = .ok (.invokevirtual 48, 3) := by decide +kernel
theorem dX3_spellOf_13 : decode cX3_spellOf 13 = .ok (.ireturn, 1) := by decide +kernel
theorem dX3_spellOf_14 : decode cX3_spellOf 14 = .ok (.iload_n 2, 1) := by decide +kernel
theorem dX3_spellOf_15 : decode cX3_spellOf 15 = .ok (.ifCond .lt 9, 3) := by decide +kernel
theorem dX3_spellOf_18 : decode cX3_spellOf 18 = .ok (.iload_n 2, 1) := by decide +kernel
theorem dX3_spellOf_19 : decode cX3_spellOf 19 = .ok (.bipush 7, 2) := by decide +kernel
theorem dX3_spellOf_21 : decode cX3_spellOf 21 = .ok (.if_icmp .lt 10, 3) := by decide +kernel
theorem dX3_spellOf_24 : decode cX3_spellOf 24 = .ok (.aload_n 0, 1) := by decide +kernel
theorem dX3_spellOf_25 : decode cX3_spellOf 25 = .ok (.bipush (-2), 2) := by decide +kernel
theorem dX3_spellOf_27 : decode cX3_spellOf 27 = .ok (.invokevirtual 48, 3) := by decide +kernel
theorem dX3_spellOf_30 : decode cX3_spellOf 30 = .ok (.ireturn, 1) := by decide +kernel
theorem dX3_spellOf_31 : decode cX3_spellOf 31 = .ok (.aload_n 0, 1) := by decide +kernel
theorem dX3_spellOf_32 : decode cX3_spellOf 32 = .ok (.getfield 19, 3) := by decide +kernel
theorem dX3_spellOf_35 : decode cX3_spellOf 35 = .ok (.getfield 63, 3) := by decide +kernel
theorem dX3_spellOf_38 : decode cX3_spellOf 38 = .ok (.iload_n 1, 1) := by decide +kernel
theorem dX3_spellOf_39 : decode cX3_spellOf 39 = .ok (.aaload, 1) := by decide +kernel
theorem dX3_spellOf_40 : decode cX3_spellOf 40 = .ok (.iload_n 2, 1) := by decide +kernel
theorem dX3_spellOf_41 : decode cX3_spellOf 41 = .ok (.iaload, 1) := by decide +kernel
theorem dX3_spellOf_42 : decode cX3_spellOf 42 = .ok (.ireturn, 1) := by decide +kernel
theorem hd_X3_spellOf : yX3_spellOf.cls ≠ "java/lang/invoke/MethodHandle" ∧ yX3_spellOf.cls ≠ "java/lang/invoke/VarHandle" ∧ (parseMethodDescriptor yX3_spellOf.desc).map (fun d => d.parameters.length) = some 2 := by decide +kernel
def f_X3_spellOf (a1 : Int32) (a2 : Int32) (S : vS) : Option (Int32 × vS) := b1 (f_X3_isSpell a1 S) fun r2 => if r2 = 0 then b2 (f_X3_refuse (-1 : Int32) S) fun r16 S15 => some (r16, S15) else if a2 < 0 then b2 (f_X3_refuse (-2 : Int32) S) fun r7 S6 => some (r7, S6) else if a2 < (7 : Int32) then if inb a1 20 = true then if inb a2 7 = true then some ((S (34 + a1.toNatClampNeg) (a2.toNatClampNeg)), S) else none else none else b2 (f_X3_refuse (-2 : Int32) S) fun r13 S12 => some (r13, S12)
set_option maxHeartbeats 4000000 in
set_option maxRecDepth 20000 in
theorem c_X3_spellOf (l : Launch) (D : va_G) (cI cO : ClassId) (ad : Nat → Nat) (a1 : Int32) (a2 : Int32) (S : vS) (R9 : Int32) (S9 : vS) (hf : f_X3_spellOf a1 a2 S = some (R9, S9)) : CI l yX3_spellOf cX3_spellOf 3 .int ({ frames := 1, cells := 0, slots := 0, locals := 21 }) [.ref (ad 0), .int a1, .int a2] D cI cO ad S R9 S9 := by
  refine CI.of (by decide +kernel) (Nat.le_of_ble_eq_true rfl) (fun p e s m args below meth c Q ls X hl hw hfin => ?_)
  have hl : lv_has ls 3 [(0, .ref (ad 0)), (1, .int a1), (2, .int a2)] := hl
  have hx := X.1
  have hb := X.2.1
  unfold f_X3_spellOf at hf
  refine lv_aload_n hx hb dX3_spellOf_0 rfl (lv_at hl 0 rfl) ?_
  refine lv_iload_n hx hb dX3_spellOf_1 rfl (lv_at hl 1 rfl) ?_
  obtain ⟨r2, h1, hf⟩ := b1_s hf
  refine kVi X hw (c_X3_isSpell l D cI cO ad a1 S r2 h1) (Nat.le_of_ble_eq_true rfl) ce0 rfl ⟨rfl, rfl⟩ q333 q335 q6 q59 q336 hd_X3_isSpell ⟨Nat.le_of_ble_eq_true rfl, Nat.le_of_ble_eq_true rfl⟩ rfl hl.1 rfl (Nat.le_of_ble_eq_true rfl) dX3_spellOf_2 (fun H locs hw => ?_)
  refine lv_if_ne (tgt := 14) hx hb dX3_spellOf_5 (by decide) (fun c3 => ?_) (fun c3 => ?_)
  · replace hf := if_f c3 hf
    refine lv_iload_n hx hb dX3_spellOf_14 rfl (lv_at hl 2 rfl) ?_
    refine lv_if_lt (tgt := 24) hx hb dX3_spellOf_15 (by decide) (fun c4 => ?_) (fun c4 => ?_)
    · replace hf := if_t c4 hf
      refine lv_aload_n hx hb dX3_spellOf_24 rfl (lv_at hl 0 rfl) ?_
      refine lv_bipush (v := -2) hx hb dX3_spellOf_25 (by decide +kernel) ?_
      obtain ⟨r7, S6, h5, hf⟩ := b2_s hf
      refine kVi X hw (c_X3_refuse l D cI cO ad (-2 : Int32) S r7 S6 h5) (Nat.le_of_ble_eq_true rfl) ce0 rfl ⟨rfl, rfl⟩ q211 q213 q0 q59 q214 hd_X3_refuse ⟨Nat.le_of_ble_eq_true rfl, Nat.le_of_ble_eq_true rfl⟩ rfl hl.1 rfl (Nat.le_of_ble_eq_true rfl) dX3_spellOf_27 (fun H locs hw => ?_)
      exact hfin _ _ _ _ _ _ hw (s2a hf) (s2b hf) (narI _) dX3_spellOf_30
    · replace hf := if_f c4 hf
      refine lv_iload_n hx hb dX3_spellOf_18 rfl (lv_at hl 2 rfl) ?_
      refine lv_bipush (v := 7) hx hb dX3_spellOf_19 (by decide +kernel) ?_
      refine lv_icmp_lt (tgt := 31) hx hb dX3_spellOf_21 (by decide) (fun c8 => ?_) (fun c8 => ?_)
      · replace hf := if_t c8 hf
        refine lv_aload_n hx hb dX3_spellOf_31 rfl (lv_at hl 0 rfl) ?_
        refine x_get X hw 0 (Nat.le_of_ble_eq_true rfl) ce0 rfl i_X3 1 (by decide) q183 ⟨rfl, rfl, rfl⟩ rfl dX3_spellOf_32 ?_
        refine x_getN X hw 2 (Nat.le_of_ble_eq_true rfl) ce2 rfl i_X0 0 (by decide) q114 ⟨rfl, rfl, rfl⟩ rfl dX3_spellOf_35 ?_
        refine lv_iload_n hx hb dX3_spellOf_38 rfl (lv_at hl 1 rfl) ?_
        obtain ⟨h9, hf⟩ := if_s hf
        refine x_aald X hw 6 (Nat.le_of_ble_eq_true rfl) ce6 h9 rfl dX3_spellOf_39 ?_
        refine lv_iload_n hx hb dX3_spellOf_40 rfl (lv_at hl 2 rfl) ?_
        obtain ⟨h10, hf⟩ := if_s hf
        refine x_iald X hw (34 + a1.toNatClampNeg) (have q9 := inb_lt h9; ⟨by omega, by omega⟩) (alen_34 (inb_lt h9)) h10 (a2.toNatClampNeg) rfl dX3_spellOf_41 ?_
        exact hfin _ _ _ _ _ _ hw (s2a hf) (s2b hf) (narI _) dX3_spellOf_42
      · replace hf := if_f c8 hf
        refine lv_aload_n hx hb dX3_spellOf_24 rfl (lv_at hl 0 rfl) ?_
        refine lv_bipush (v := -2) hx hb dX3_spellOf_25 (by decide +kernel) ?_
        obtain ⟨r13, S12, h11, hf⟩ := b2_s hf
        refine kVi X hw (c_X3_refuse l D cI cO ad (-2 : Int32) S r13 S12 h11) (Nat.le_of_ble_eq_true rfl) ce0 rfl ⟨rfl, rfl⟩ q211 q213 q0 q59 q214 hd_X3_refuse ⟨Nat.le_of_ble_eq_true rfl, Nat.le_of_ble_eq_true rfl⟩ rfl hl.1 rfl (Nat.le_of_ble_eq_true rfl) dX3_spellOf_27 (fun H locs hw => ?_)
        exact hfin _ _ _ _ _ _ hw (s2a hf) (s2b hf) (narI _) dX3_spellOf_30
  · replace hf := if_t c3 hf
    refine lv_aload_n hx hb dX3_spellOf_8 rfl (lv_at hl 0 rfl) ?_
    refine lv_iconst (v := -1) hx hb dX3_spellOf_9 (by decide) ?_
    obtain ⟨r16, S15, h14, hf⟩ := b2_s hf
    refine kVi X hw (c_X3_refuse l D cI cO ad (-1 : Int32) S r16 S15 h14) (Nat.le_of_ble_eq_true rfl) ce0 rfl ⟨rfl, rfl⟩ q211 q213 q0 q59 q214 hd_X3_refuse ⟨Nat.le_of_ble_eq_true rfl, Nat.le_of_ble_eq_true rfl⟩ rfl hl.1 rfl (Nat.le_of_ble_eq_true rfl) dX3_spellOf_10 (fun H locs hw => ?_)
    exact hfin _ _ _ _ _ _ hw (s2a hf) (s2b hf) (narI _) dX3_spellOf_13
/-- NineLands.show(IZ)I -/
theorem dX3_show_0 : decode cX3_show 0 = .ok (.aload_n 0, 1) := by decide +kernel
theorem dX3_show_1 : decode cX3_show 1 = .ok (.iload_n 1, 1) := by decide +kernel
theorem dX3_show_2 : decode cX3_show 2 = .ok (.invokevirtual 74, 3) := by decide +kernel
theorem dX3_show_5 : decode cX3_show 5 = .ok (.ifCond .ne 9, 3) := by decide +kernel
theorem dX3_show_8 : decode cX3_show 8 = .ok (.aload_n 0, 1) := by decide +kernel
theorem dX3_show_9 : decode cX3_show 9 = .ok (.iconst (-1), 1) := by decide +kernel
theorem dX3_show_10 : decode cX3_show 10 = .ok (.invokevirtual 48, 3) := by decide +kernel
theorem dX3_show_13 : decode cX3_show 13 = .ok (.ireturn, 1) := by decide +kernel
theorem dX3_show_14 : decode cX3_show 14 = .ok (.aload_n 0, 1) := by decide +kernel
theorem dX3_show_15 : decode cX3_show 15 = .ok (.getfield 19, 3) := by decide +kernel
theorem dX3_show_18 : decode cX3_show 18 = .ok (.getfield 63, 3) := by decide +kernel
theorem dX3_show_21 : decode cX3_show 21 = .ok (.iload_n 1, 1) := by decide +kernel
theorem dX3_show_22 : decode cX3_show 22 = .ok (.aaload, 1) := by decide +kernel
theorem dX3_show_23 : decode cX3_show 23 = .ok (.bipush 6, 2) := by decide +kernel
theorem dX3_show_25 : decode cX3_show 25 = .ok (.iaload, 1) := by decide +kernel
theorem dX3_show_26 : decode cX3_show 26 = .ok (.istore_n 3, 1) := by decide +kernel
theorem dX3_show_27 : decode cX3_show 27 = .ok (.aload_n 0, 1) := by decide +kernel
theorem dX3_show_28 : decode cX3_show 28 = .ok (.getfield 19, 3) := by decide +kernel
theorem dX3_show_31 : decode cX3_show 31 = .ok (.getfield 63, 3) := by decide +kernel
theorem dX3_show_34 : decode cX3_show 34 = .ok (.iload_n 1, 1) := by decide +kernel
theorem dX3_show_35 : decode cX3_show 35 = .ok (.aaload, 1) := by decide +kernel
theorem dX3_show_36 : decode cX3_show 36 = .ok (.bipush 6, 2) := by decide +kernel
theorem dX3_show_38 : decode cX3_show 38 = .ok (.iload_n 2, 1) := by decide +kernel
theorem dX3_show_39 : decode cX3_show 39 = .ok (.ifCond .eq 7, 3) := by decide +kernel
theorem dX3_show_42 : decode cX3_show 42 = .ok (.iconst 1, 1) := by decide +kernel
theorem dX3_show_43 : decode cX3_show 43 = .ok (.goto 4, 3) := by decide +kernel
theorem dX3_show_46 : decode cX3_show 46 = .ok (.iconst 0, 1) := by decide +kernel
theorem dX3_show_47 : decode cX3_show 47 = .ok (.iastore, 1) := by decide +kernel
theorem dX3_show_48 : decode cX3_show 48 = .ok (.aload_n 0, 1) := by decide +kernel
theorem dX3_show_49 : decode cX3_show 49 = .ok (.getfield 19, 3) := by decide +kernel
theorem dX3_show_52 : decode cX3_show 52 = .ok (.getfield 63, 3) := by decide +kernel
theorem dX3_show_55 : decode cX3_show 55 = .ok (.iload_n 1, 1) := by decide +kernel
theorem dX3_show_56 : decode cX3_show 56 = .ok (.aaload, 1) := by decide +kernel
theorem dX3_show_57 : decode cX3_show 57 = .ok (.bipush 6, 2) := by decide +kernel
theorem dX3_show_59 : decode cX3_show 59 = .ok (.iaload, 1) := by decide +kernel
theorem dX3_show_60 : decode cX3_show 60 = .ok (.iload_n 3, 1) := by decide +kernel
theorem dX3_show_61 : decode cX3_show 61 = .ok (.if_icmp .ne 7, 3) := by decide +kernel
theorem dX3_show_64 : decode cX3_show 64 = .ok (.iconst 0, 1) := by decide +kernel
theorem dX3_show_65 : decode cX3_show 65 = .ok (.goto 4, 3) := by decide +kernel
theorem dX3_show_68 : decode cX3_show 68 = .ok (.iconst 1, 1) := by decide +kernel
theorem dX3_show_69 : decode cX3_show 69 = .ok (.ireturn, 1) := by decide +kernel
theorem hd_X3_show : yX3_show.cls ≠ "java/lang/invoke/MethodHandle" ∧ yX3_show.cls ≠ "java/lang/invoke/VarHandle" ∧ (parseMethodDescriptor yX3_show.desc).map (fun d => d.parameters.length) = some 2 := by decide +kernel
def f_X3_show (a1 : Int32) (a2 : Int32) (S : vS) : Option (Int32 × vS) := b1 (f_X3_isSpell a1 S) fun r2 => if r2 = 0 then b2 (f_X3_refuse (-1 : Int32) S) fun r13 S12 => some (r13, S12) else if inb a1 20 = true then lt ((S (34 + a1.toNatClampNeg) 6)) fun v5 => if a2 = 0 then lt (upk S (34 + a1.toNatClampNeg) (upd (S (34 + a1.toNatClampNeg)) 6 (0 : Int32))) fun S7 => if (S7 (34 + a1.toNatClampNeg) 6) = v5 then some ((0 : Int32), S7) else some ((1 : Int32), S7) else lt (upk S (34 + a1.toNatClampNeg) (upd (S (34 + a1.toNatClampNeg)) 6 (1 : Int32))) fun S9 => if (S9 (34 + a1.toNatClampNeg) 6) = v5 then some ((0 : Int32), S9) else some ((1 : Int32), S9) else none
set_option maxHeartbeats 4000000 in
set_option maxRecDepth 20000 in
theorem c_X3_show (l : Launch) (D : va_G) (cI cO : ClassId) (ad : Nat → Nat) (a1 : Int32) (a2 : Int32) (S : vS) (R9 : Int32) (S9 : vS) (hf : f_X3_show a1 a2 S = some (R9, S9)) : CI l yX3_show cX3_show 4 .int ({ frames := 1, cells := 0, slots := 0, locals := 21 }) [.ref (ad 0), .int a1, .int a2] D cI cO ad S R9 S9 := by
  refine CI.of (by decide +kernel) (Nat.le_of_ble_eq_true rfl) (fun p e s m args below meth c Q ls X hl hw hfin => ?_)
  have hl : lv_has ls 4 [(0, .ref (ad 0)), (1, .int a1), (2, .int a2)] := hl
  have hx := X.1
  have hb := X.2.1
  unfold f_X3_show at hf
  refine lv_aload_n hx hb dX3_show_0 rfl (lv_at hl 0 rfl) ?_
  refine lv_iload_n hx hb dX3_show_1 rfl (lv_at hl 1 rfl) ?_
  obtain ⟨r2, h1, hf⟩ := b1_s hf
  refine kVi X hw (c_X3_isSpell l D cI cO ad a1 S r2 h1) (Nat.le_of_ble_eq_true rfl) ce0 rfl ⟨rfl, rfl⟩ q333 q335 q6 q59 q336 hd_X3_isSpell ⟨Nat.le_of_ble_eq_true rfl, Nat.le_of_ble_eq_true rfl⟩ rfl hl.1 rfl (Nat.le_of_ble_eq_true rfl) dX3_show_2 (fun H locs hw => ?_)
  refine lv_if_ne (tgt := 14) hx hb dX3_show_5 (by decide) (fun c3 => ?_) (fun c3 => ?_)
  · replace hf := if_f c3 hf
    refine lv_aload_n hx hb dX3_show_14 rfl (lv_at hl 0 rfl) ?_
    refine x_get X hw 0 (Nat.le_of_ble_eq_true rfl) ce0 rfl i_X3 1 (by decide) q183 ⟨rfl, rfl, rfl⟩ rfl dX3_show_15 ?_
    refine x_getN X hw 2 (Nat.le_of_ble_eq_true rfl) ce2 rfl i_X0 0 (by decide) q114 ⟨rfl, rfl, rfl⟩ rfl dX3_show_18 ?_
    refine lv_iload_n hx hb dX3_show_21 rfl (lv_at hl 1 rfl) ?_
    obtain ⟨h4, hf⟩ := if_s hf
    refine x_aald X hw 6 (Nat.le_of_ble_eq_true rfl) ce6 h4 rfl dX3_show_22 ?_
    refine lv_bipush (v := 6) hx hb dX3_show_23 (by decide +kernel) ?_
    refine x_iald X hw (34 + a1.toNatClampNeg) (have q9 := inb_lt h4; ⟨by omega, by omega⟩) (alen_34 (inb_lt h4)) (by decide) 6 (by decide) dX3_show_25 ?_
    refine lv_topi (fun v5 ev5 => ?_)
    replace hf := lt_e ev5 hf
    refine lv_istore_n (lv' := [(3, .int v5), (0, .ref (ad 0)), (1, .int a1), (2, .int a2)]) hx hb dX3_show_26 rfl hl (by decide) rfl (fun ls hl => ?_)
    refine lv_aload_n hx hb dX3_show_27 rfl (lv_at hl 1 rfl) ?_
    refine x_get X hw 0 (Nat.le_of_ble_eq_true rfl) ce0 rfl i_X3 1 (by decide) q183 ⟨rfl, rfl, rfl⟩ rfl dX3_show_28 ?_
    refine x_getN X hw 2 (Nat.le_of_ble_eq_true rfl) ce2 rfl i_X0 0 (by decide) q114 ⟨rfl, rfl, rfl⟩ rfl dX3_show_31 ?_
    refine lv_iload_n hx hb dX3_show_34 rfl (lv_at hl 2 rfl) ?_
    refine x_aald X hw 6 (Nat.le_of_ble_eq_true rfl) ce6 h4 rfl dX3_show_35 ?_
    refine lv_bipush (v := 6) hx hb dX3_show_36 (by decide +kernel) ?_
    refine lv_iload_n hx hb dX3_show_38 rfl (lv_at hl 3 rfl) ?_
    refine lv_if_eq (tgt := 46) hx hb dX3_show_39 (by decide) (fun c6 => ?_) (fun c6 => ?_)
    · replace hf := if_t c6 hf
      refine lv_iconst (v := 0) hx hb dX3_show_46 (by decide) ?_
      refine x_iast X hw (34 + a1.toNatClampNeg) (have q9 := inb_lt h4; ⟨by omega, by omega⟩) (alen_34 (inb_lt h4)) (by decide) 6 (by decide) dX3_show_47 (fun S7 eS7 H locs hw => ?_)
      replace hf := lt_e eS7 hf
      refine lv_aload_n hx hb dX3_show_48 rfl (lv_at hl 1 rfl) ?_
      refine x_get X hw 0 (Nat.le_of_ble_eq_true rfl) ce0 rfl i_X3 1 (by decide) q183 ⟨rfl, rfl, rfl⟩ rfl dX3_show_49 ?_
      refine x_getN X hw 2 (Nat.le_of_ble_eq_true rfl) ce2 rfl i_X0 0 (by decide) q114 ⟨rfl, rfl, rfl⟩ rfl dX3_show_52 ?_
      refine lv_iload_n hx hb dX3_show_55 rfl (lv_at hl 2 rfl) ?_
      refine x_aald X hw 6 (Nat.le_of_ble_eq_true rfl) ce6 h4 rfl dX3_show_56 ?_
      refine lv_bipush (v := 6) hx hb dX3_show_57 (by decide +kernel) ?_
      refine x_iald X hw (34 + a1.toNatClampNeg) (have q9 := inb_lt h4; ⟨by omega, by omega⟩) (alen_34 (inb_lt h4)) (by decide) 6 (by decide) dX3_show_59 ?_
      refine lv_iload_n hx hb dX3_show_60 rfl (lv_at hl 0 rfl) ?_
      refine lv_icmp_ne (tgt := 68) hx hb dX3_show_61 (by decide) (fun c8 => ?_) (fun c8 => ?_)
      · replace hf := if_f c8 hf
        refine lv_iconst (v := 1) hx hb dX3_show_68 (by decide) ?_
        exact hfin _ _ _ _ _ _ hw (s2a hf) (s2b hf) (narI _) dX3_show_69
      · replace hf := if_t c8 hf
        refine lv_iconst (v := 0) hx hb dX3_show_64 (by decide) ?_
        refine lv_goto (tgt := 69) hx hb dX3_show_65 (by decide) ?_
        exact hfin _ _ _ _ _ _ hw (s2a hf) (s2b hf) (narI _) dX3_show_69
    · replace hf := if_f c6 hf
      refine lv_iconst (v := 1) hx hb dX3_show_42 (by decide) ?_
      refine lv_goto (tgt := 47) hx hb dX3_show_43 (by decide) ?_
      refine x_iast X hw (34 + a1.toNatClampNeg) (have q9 := inb_lt h4; ⟨by omega, by omega⟩) (alen_34 (inb_lt h4)) (by decide) 6 (by decide) dX3_show_47 (fun S9 eS9 H locs hw => ?_)
      replace hf := lt_e eS9 hf
      refine lv_aload_n hx hb dX3_show_48 rfl (lv_at hl 1 rfl) ?_
      refine x_get X hw 0 (Nat.le_of_ble_eq_true rfl) ce0 rfl i_X3 1 (by decide) q183 ⟨rfl, rfl, rfl⟩ rfl dX3_show_49 ?_
      refine x_getN X hw 2 (Nat.le_of_ble_eq_true rfl) ce2 rfl i_X0 0 (by decide) q114 ⟨rfl, rfl, rfl⟩ rfl dX3_show_52 ?_
      refine lv_iload_n hx hb dX3_show_55 rfl (lv_at hl 2 rfl) ?_
      refine x_aald X hw 6 (Nat.le_of_ble_eq_true rfl) ce6 h4 rfl dX3_show_56 ?_
      refine lv_bipush (v := 6) hx hb dX3_show_57 (by decide +kernel) ?_
      refine x_iald X hw (34 + a1.toNatClampNeg) (have q9 := inb_lt h4; ⟨by omega, by omega⟩) (alen_34 (inb_lt h4)) (by decide) 6 (by decide) dX3_show_59 ?_
      refine lv_iload_n hx hb dX3_show_60 rfl (lv_at hl 0 rfl) ?_
      refine lv_icmp_ne (tgt := 68) hx hb dX3_show_61 (by decide) (fun c10 => ?_) (fun c10 => ?_)
      · replace hf := if_f c10 hf
        refine lv_iconst (v := 1) hx hb dX3_show_68 (by decide) ?_
        exact hfin _ _ _ _ _ _ hw (s2a hf) (s2b hf) (narI _) dX3_show_69
      · replace hf := if_t c10 hf
        refine lv_iconst (v := 0) hx hb dX3_show_64 (by decide) ?_
        refine lv_goto (tgt := 69) hx hb dX3_show_65 (by decide) ?_
        exact hfin _ _ _ _ _ _ hw (s2a hf) (s2b hf) (narI _) dX3_show_69
  · replace hf := if_t c3 hf
    refine lv_aload_n hx hb dX3_show_8 rfl (lv_at hl 0 rfl) ?_
    refine lv_iconst (v := -1) hx hb dX3_show_9 (by decide) ?_
    obtain ⟨r13, S12, h11, hf⟩ := b2_s hf
    refine kVi X hw (c_X3_refuse l D cI cO ad (-1 : Int32) S r13 S12 h11) (Nat.le_of_ble_eq_true rfl) ce0 rfl ⟨rfl, rfl⟩ q211 q213 q0 q59 q214 hd_X3_refuse ⟨Nat.le_of_ble_eq_true rfl, Nat.le_of_ble_eq_true rfl⟩ rfl hl.1 rfl (Nat.le_of_ble_eq_true rfl) dX3_show_10 (fun H locs hw => ?_)
    exact hfin _ _ _ _ _ _ hw (s2a hf) (s2b hf) (narI _) dX3_show_13
/-- NineLands.kind(II)I -/
theorem dX3_kind_0 : decode cX3_kind 0 = .ok (.iload_n 1, 1) := by decide +kernel
theorem dX3_kind_1 : decode cX3_kind 1 = .ok (.invokestatic 78, 3) := by decide +kernel
theorem dX3_kind_4 : decode cX3_kind 4 = .ok (.ifCond .ne 9, 3) := by decide +kernel
theorem dX3_kind_7 : decode cX3_kind 7 = .ok (.aload_n 0, 1) := by decide +kernel
theorem dX3_kind_8 : decode cX3_kind 8 = .ok (.iconst (-1), 1) := by decide +kernel
theorem dX3_kind_9 : decode cX3_kind 9 = .ok (.invokevirtual 48, 3) := by decide +kernel
theorem dX3_kind_12 : decode cX3_kind 12 = .ok (.ireturn, 1) := by decide +kernel
theorem dX3_kind_13 : decode cX3_kind 13 = .ok (.iload_n 2, 1) := by decide +kernel
theorem dX3_kind_14 : decode cX3_kind 14 = .ok (.invokestatic 87, 3) := by decide +kernel
theorem dX3_kind_17 : decode cX3_kind 17 = .ok (.ifCond .ne 10, 3) := by decide +kernel
theorem dX3_kind_20 : decode cX3_kind 20 = .ok (.aload_n 0, 1) := by decide +kernel
theorem dX3_kind_21 : decode cX3_kind 21 = .ok (.bipush (-2), 2) := by decide +kernel
theorem dX3_kind_23 : decode cX3_kind 23 = .ok (.invokevirtual 48, 3) := by decide +kernel
theorem dX3_kind_26 : decode cX3_kind 26 = .ok (.ireturn, 1) := by decide +kernel
theorem dX3_kind_27 : decode cX3_kind 27 = .ok (.aload_n 0, 1) := by decide +kernel
theorem dX3_kind_28 : decode cX3_kind 28 = .ok (.getfield 19, 3) := by decide +kernel
theorem dX3_kind_31 : decode cX3_kind 31 = .ok (.getfield 90, 3) := by decide +kernel
theorem dX3_kind_34 : decode cX3_kind 34 = .ok (.iload_n 1, 1) := by decide +kernel
theorem dX3_kind_35 : decode cX3_kind 35 = .ok (.iaload, 1) := by decide +kernel
theorem dX3_kind_36 : decode cX3_kind 36 = .ok (.istore_n 3, 1) := by decide +kernel
theorem dX3_kind_37 : decode cX3_kind 37 = .ok (.aload_n 0, 1) := by decide +kernel
theorem dX3_kind_38 : decode cX3_kind 38 = .ok (.getfield 19, 3) := by decide +kernel
theorem dX3_kind_41 : decode cX3_kind 41 = .ok (.getfield 90, 3) := by decide +kernel
theorem dX3_kind_44 : decode cX3_kind 44 = .ok (.iload_n 1, 1) := by decide +kernel
theorem dX3_kind_45 : decode cX3_kind 45 = .ok (.iload_n 2, 1) := by decide +kernel
theorem dX3_kind_46 : decode cX3_kind 46 = .ok (.iastore, 1) := by decide +kernel
theorem dX3_kind_47 : decode cX3_kind 47 = .ok (.iload_n 3, 1) := by decide +kernel
theorem dX3_kind_48 : decode cX3_kind 48 = .ok (.ireturn, 1) := by decide +kernel
theorem hd_X3_kind : yX3_kind.cls ≠ "java/lang/invoke/MethodHandle" ∧ yX3_kind.cls ≠ "java/lang/invoke/VarHandle" ∧ (parseMethodDescriptor yX3_kind.desc).map (fun d => d.parameters.length) = some 2 := by decide +kernel
def f_X3_kind (a1 : Int32) (a2 : Int32) (S : vS) : Option (Int32 × vS) := b1 (f_X3_isLand a1 S) fun r2 => if r2 = 0 then b2 (f_X3_refuse (-1 : Int32) S) fun r15 S14 => some (r15, S14) else b1 (f_X3_isKind a2 S) fun r5 => if r5 = 0 then b2 (f_X3_refuse (-2 : Int32) S) fun r12 S11 => some (r12, S11) else if inb a1 6 = true then lt ((S 23 (a1.toNatClampNeg))) fun v8 => lt (upk S 23 (upd (S 23) (a1.toNatClampNeg) a2)) fun S9 => some (v8, S9) else none
set_option maxHeartbeats 4000000 in
set_option maxRecDepth 20000 in
theorem c_X3_kind (l : Launch) (D : va_G) (cI cO : ClassId) (ad : Nat → Nat) (a1 : Int32) (a2 : Int32) (S : vS) (R9 : Int32) (S9 : vS) (hf : f_X3_kind a1 a2 S = some (R9, S9)) : CI l yX3_kind cX3_kind 4 .int ({ frames := 1, cells := 0, slots := 0, locals := 21 }) [.ref (ad 0), .int a1, .int a2] D cI cO ad S R9 S9 := by
  refine CI.of (by decide +kernel) (Nat.le_of_ble_eq_true rfl) (fun p e s m args below meth c Q ls X hl hw hfin => ?_)
  have hl : lv_has ls 4 [(0, .ref (ad 0)), (1, .int a1), (2, .int a2)] := hl
  have hx := X.1
  have hb := X.2.1
  unfold f_X3_kind at hf
  refine lv_iload_n hx hb dX3_kind_0 rfl (lv_at hl 1 rfl) ?_
  obtain ⟨r2, h1, hf⟩ := b1_s hf
  refine kSi X hw (c_X3_isLand l D cI cO ad a1 S r2 h1) ⟨rfl, rfl⟩ q345 q346 q59 q347 hd_X3_isLand ⟨Nat.le_of_ble_eq_true rfl, Nat.le_of_ble_eq_true rfl⟩ rfl hl.1 rfl (Nat.le_of_ble_eq_true rfl) dX3_kind_1 (fun H locs hw => ?_)
  refine lv_if_ne (tgt := 13) hx hb dX3_kind_4 (by decide) (fun c3 => ?_) (fun c3 => ?_)
  · replace hf := if_f c3 hf
    refine lv_iload_n hx hb dX3_kind_13 rfl (lv_at hl 2 rfl) ?_
    obtain ⟨r5, h4, hf⟩ := b1_s hf
    refine kSi X hw (c_X3_isKind l D cI cO ad a2 S r5 h4) ⟨rfl, rfl⟩ q354 q355 q59 q356 hd_X3_isKind ⟨Nat.le_of_ble_eq_true rfl, Nat.le_of_ble_eq_true rfl⟩ rfl hl.1 rfl (Nat.le_of_ble_eq_true rfl) dX3_kind_14 (fun H locs hw => ?_)
    refine lv_if_ne (tgt := 27) hx hb dX3_kind_17 (by decide) (fun c6 => ?_) (fun c6 => ?_)
    · replace hf := if_f c6 hf
      refine lv_aload_n hx hb dX3_kind_27 rfl (lv_at hl 0 rfl) ?_
      refine x_get X hw 0 (Nat.le_of_ble_eq_true rfl) ce0 rfl i_X3 1 (by decide) q183 ⟨rfl, rfl, rfl⟩ rfl dX3_kind_28 ?_
      refine x_getN X hw 2 (Nat.le_of_ble_eq_true rfl) ce2 rfl i_X0 2 (by decide) q119 ⟨rfl, rfl, rfl⟩ rfl dX3_kind_31 ?_
      refine lv_iload_n hx hb dX3_kind_34 rfl (lv_at hl 1 rfl) ?_
      obtain ⟨h7, hf⟩ := if_s hf
      refine x_iald X hw 23 ⟨Nat.le_of_ble_eq_true rfl, Nat.le_of_ble_eq_true rfl⟩ rfl h7 (a1.toNatClampNeg) rfl dX3_kind_35 ?_
      refine lv_topi (fun v8 ev8 => ?_)
      replace hf := lt_e ev8 hf
      refine lv_istore_n (lv' := [(3, .int v8), (0, .ref (ad 0)), (1, .int a1), (2, .int a2)]) hx hb dX3_kind_36 rfl hl (by decide) rfl (fun ls hl => ?_)
      refine lv_aload_n hx hb dX3_kind_37 rfl (lv_at hl 1 rfl) ?_
      refine x_get X hw 0 (Nat.le_of_ble_eq_true rfl) ce0 rfl i_X3 1 (by decide) q183 ⟨rfl, rfl, rfl⟩ rfl dX3_kind_38 ?_
      refine x_getN X hw 2 (Nat.le_of_ble_eq_true rfl) ce2 rfl i_X0 2 (by decide) q119 ⟨rfl, rfl, rfl⟩ rfl dX3_kind_41 ?_
      refine lv_iload_n hx hb dX3_kind_44 rfl (lv_at hl 2 rfl) ?_
      refine lv_iload_n hx hb dX3_kind_45 rfl (lv_at hl 3 rfl) ?_
      refine x_iast X hw 23 ⟨Nat.le_of_ble_eq_true rfl, Nat.le_of_ble_eq_true rfl⟩ rfl h7 (a1.toNatClampNeg) rfl dX3_kind_46 (fun S9 eS9 H locs hw => ?_)
      replace hf := lt_e eS9 hf
      refine lv_iload_n hx hb dX3_kind_47 rfl (lv_at hl 0 rfl) ?_
      exact hfin _ _ _ _ _ _ hw (s2a hf) (s2b hf) (narI _) dX3_kind_48
    · replace hf := if_t c6 hf
      refine lv_aload_n hx hb dX3_kind_20 rfl (lv_at hl 0 rfl) ?_
      refine lv_bipush (v := -2) hx hb dX3_kind_21 (by decide +kernel) ?_
      obtain ⟨r12, S11, h10, hf⟩ := b2_s hf
      refine kVi X hw (c_X3_refuse l D cI cO ad (-2 : Int32) S r12 S11 h10) (Nat.le_of_ble_eq_true rfl) ce0 rfl ⟨rfl, rfl⟩ q211 q213 q0 q59 q214 hd_X3_refuse ⟨Nat.le_of_ble_eq_true rfl, Nat.le_of_ble_eq_true rfl⟩ rfl hl.1 rfl (Nat.le_of_ble_eq_true rfl) dX3_kind_23 (fun H locs hw => ?_)
      exact hfin _ _ _ _ _ _ hw (s2a hf) (s2b hf) (narI _) dX3_kind_26
  · replace hf := if_t c3 hf
    refine lv_aload_n hx hb dX3_kind_7 rfl (lv_at hl 0 rfl) ?_
    refine lv_iconst (v := -1) hx hb dX3_kind_8 (by decide) ?_
    obtain ⟨r15, S14, h13, hf⟩ := b2_s hf
    refine kVi X hw (c_X3_refuse l D cI cO ad (-1 : Int32) S r15 S14 h13) (Nat.le_of_ble_eq_true rfl) ce0 rfl ⟨rfl, rfl⟩ q211 q213 q0 q59 q214 hd_X3_refuse ⟨Nat.le_of_ble_eq_true rfl, Nat.le_of_ble_eq_true rfl⟩ rfl hl.1 rfl (Nat.le_of_ble_eq_true rfl) dX3_kind_9 (fun H locs hw => ?_)
    exact hfin _ _ _ _ _ _ hw (s2a hf) (s2b hf) (narI _) dX3_kind_12
/-- NineLands.pact(IIZ)I -/
theorem dX3_pact_0 : decode cX3_pact 0 = .ok (.iload_n 1, 1) := by decide +kernel
theorem dX3_pact_1 : decode cX3_pact 1 = .ok (.invokestatic 78, 3) := by decide +kernel
theorem dX3_pact_4 : decode cX3_pact 4 = .ok (.ifCond .eq 15, 3) := by decide +kernel
theorem dX3_pact_7 : decode cX3_pact 7 = .ok (.iload_n 2, 1) := by decide +kernel
theorem dX3_pact_8 : decode cX3_pact 8 = .ok (.invokestatic 78, 3) := by decide +kernel
theorem dX3_pact_11 : decode cX3_pact 11 = .ok (.ifCond .eq 8, 3) := by decide +kernel
theorem dX3_pact_14 : decode cX3_pact 14 = .ok (.iload_n 1, 1) := by decide +kernel
theorem dX3_pact_15 : decode cX3_pact 15 = .ok (.iload_n 2, 1) := by decide +kernel
theorem dX3_pact_16 : decode cX3_pact 16 = .ok (.if_icmp .ne 9, 3) := by decide +kernel
theorem dX3_pact_19 : decode cX3_pact 19 = .ok (.aload_n 0, 1) := by decide +kernel
theorem dX3_pact_20 : decode cX3_pact 20 = .ok (.iconst (-1), 1) := by decide +kernel
theorem dX3_pact_21 : decode cX3_pact 21 = .ok (.invokevirtual 48, 3) := by decide +kernel
theorem dX3_pact_24 : decode cX3_pact 24 = .ok (.ireturn, 1) := by decide +kernel
theorem dX3_pact_25 : decode cX3_pact 25 = .ok (.aload_n 0, 1) := by decide +kernel
theorem dX3_pact_26 : decode cX3_pact 26 = .ok (.getfield 19, 3) := by decide +kernel
theorem dX3_pact_29 : decode cX3_pact 29 = .ok (.getfield 93, 3) := by decide +kernel
theorem dX3_pact_32 : decode cX3_pact 32 = .ok (.iload_n 1, 1) := by decide +kernel
theorem dX3_pact_33 : decode cX3_pact 33 = .ok (.aaload, 1) := by decide +kernel
theorem dX3_pact_34 : decode cX3_pact 34 = .ok (.iload_n 2, 1) := by decide +kernel
theorem dX3_pact_35 : decode cX3_pact 35 = .ok (.iaload, 1) := by decide +kernel
theorem dX3_pact_36 : decode cX3_pact 36 = .ok (.istore 4, 2) := by decide +kernel
theorem dX3_pact_38 : decode cX3_pact 38 = .ok (.aload_n 0, 1) := by decide +kernel
theorem dX3_pact_39 : decode cX3_pact 39 = .ok (.getfield 19, 3) := by decide +kernel
theorem dX3_pact_42 : decode cX3_pact 42 = .ok (.getfield 93, 3) := by decide +kernel
theorem dX3_pact_45 : decode cX3_pact 45 = .ok (.iload_n 1, 1) := by decide +kernel
theorem dX3_pact_46 : decode cX3_pact 46 = .ok (.aaload, 1) := by decide +kernel
theorem dX3_pact_47 : decode cX3_pact 47 = .ok (.iload_n 2, 1) := by decide +kernel
theorem dX3_pact_48 : decode cX3_pact 48 = .ok (.iload_n 3, 1) := by decide +kernel
theorem dX3_pact_49 : decode cX3_pact 49 = .ok (.ifCond .eq 7, 3) := by decide +kernel
theorem dX3_pact_52 : decode cX3_pact 52 = .ok (.iconst 1, 1) := by decide +kernel
theorem dX3_pact_53 : decode cX3_pact 53 = .ok (.goto 4, 3) := by decide +kernel
theorem dX3_pact_56 : decode cX3_pact 56 = .ok (.iconst 0, 1) := by decide +kernel
theorem dX3_pact_57 : decode cX3_pact 57 = .ok (.iastore, 1) := by decide +kernel
theorem dX3_pact_58 : decode cX3_pact 58 = .ok (.aload_n 0, 1) := by decide +kernel
theorem dX3_pact_59 : decode cX3_pact 59 = .ok (.getfield 19, 3) := by decide +kernel
theorem dX3_pact_62 : decode cX3_pact 62 = .ok (.getfield 93, 3) := by decide +kernel
theorem dX3_pact_65 : decode cX3_pact 65 = .ok (.iload_n 2, 1) := by decide +kernel
theorem dX3_pact_66 : decode cX3_pact 66 = .ok (.aaload, 1) := by decide +kernel
theorem dX3_pact_67 : decode cX3_pact 67 = .ok (.iload_n 1, 1) := by decide +kernel
theorem dX3_pact_68 : decode cX3_pact 68 = .ok (.aload_n 0, 1) := by decide +kernel
theorem dX3_pact_69 : decode cX3_pact 69 = .ok (.getfield 19, 3) := by decide +kernel
theorem dX3_pact_72 : decode cX3_pact 72 = .ok (.getfield 93, 3) := by decide +kernel
theorem dX3_pact_75 : decode cX3_pact 75 = .ok (.iload_n 1, 1) := by decide +kernel
theorem dX3_pact_76 : decode cX3_pact 76 = .ok (.aaload, 1) := by decide +kernel
theorem dX3_pact_77 : decode cX3_pact 77 = .ok (.iload_n 2, 1) := by decide +kernel
theorem dX3_pact_78 : decode cX3_pact 78 = .ok (.iaload, 1) := by decide +kernel
theorem dX3_pact_79 : decode cX3_pact 79 = .ok (.iastore, 1) := by decide +kernel
theorem dX3_pact_80 : decode cX3_pact 80 = .ok (.aload_n 0, 1) := by decide +kernel
theorem dX3_pact_81 : decode cX3_pact 81 = .ok (.getfield 19, 3) := by decide +kernel
theorem dX3_pact_84 : decode cX3_pact 84 = .ok (.getfield 93, 3) := by decide +kernel
theorem dX3_pact_87 : decode cX3_pact 87 = .ok (.iload_n 1, 1) := by decide +kernel
theorem dX3_pact_88 : decode cX3_pact 88 = .ok (.aaload, 1) := by decide +kernel
theorem dX3_pact_89 : decode cX3_pact 89 = .ok (.iload_n 2, 1) := by decide +kernel
theorem dX3_pact_90 : decode cX3_pact 90 = .ok (.iaload, 1) := by decide +kernel
theorem dX3_pact_91 : decode cX3_pact 91 = .ok (.iload 4, 2) := by decide +kernel
theorem dX3_pact_93 : decode cX3_pact 93 = .ok (.if_icmp .ne 7, 3) := by decide +kernel
theorem dX3_pact_96 : decode cX3_pact 96 = .ok (.iconst 0, 1) := by decide +kernel
theorem dX3_pact_97 : decode cX3_pact 97 = .ok (.goto 4, 3) := by decide +kernel
theorem dX3_pact_100 : decode cX3_pact 100 = .ok (.iconst 1, 1) := by decide +kernel
theorem dX3_pact_101 : decode cX3_pact 101 = .ok (.ireturn, 1) := by decide +kernel
theorem hd_X3_pact : yX3_pact.cls ≠ "java/lang/invoke/MethodHandle" ∧ yX3_pact.cls ≠ "java/lang/invoke/VarHandle" ∧ (parseMethodDescriptor yX3_pact.desc).map (fun d => d.parameters.length) = some 3 := by decide +kernel
def f_X3_pact_J57 (x1 : Int32) (x2 : Int32) (x4 : Int32) (k0 : Nat) (k1 : Int32) (k2 : Int32) (S : vS) : Option (Int32 × vS) := if 1 ≤ k0 ∧ k0 ≤ 97 then if inb k1 (alen k0) = true then lt (upk S k0 (upd (S k0) (k1.toNatClampNeg) k2)) fun S20 => if inb x2 6 = true then if inb x1 6 = true then if inb x2 6 = true then if inb x1 6 = true then lt (upk S20 (60 + x2.toNatClampNeg) (upd (S20 (60 + x2.toNatClampNeg)) (x1.toNatClampNeg) (S20 (60 + x1.toNatClampNeg) (x2.toNatClampNeg)))) fun S25 => if (S25 (60 + x1.toNatClampNeg) (x2.toNatClampNeg)) = x4 then some ((0 : Int32), S25) else some ((1 : Int32), S25) else none else none else none else none else none else none
def f_X3_pact (a1 : Int32) (a2 : Int32) (a3 : Int32) (S : vS) : Option (Int32 × vS) := b1 (f_X3_isLand a1 S) fun r2 => if r2 = 0 then b2 (f_X3_refuse (-1 : Int32) S) fun r6 S5 => some (r6, S5) else b1 (f_X3_isLand a2 S) fun r8 => if r8 = 0 then b2 (f_X3_refuse (-1 : Int32) S) fun r12 S11 => some (r12, S11) else if a1 = a2 then b2 (f_X3_refuse (-1 : Int32) S) fun r29 S28 => some (r29, S28) else if inb a1 6 = true then if inb a2 6 = true then lt ((S (60 + a1.toNatClampNeg) (a2.toNatClampNeg))) fun v16 => if a3 = 0 then f_X3_pact_J57 a1 a2 v16 (60 + a1.toNatClampNeg) a2 (0 : Int32) S else f_X3_pact_J57 a1 a2 v16 (60 + a1.toNatClampNeg) a2 (1 : Int32) S else none else none
set_option maxHeartbeats 4000000 in
set_option maxRecDepth 20000 in
theorem c_X3_pact (l : Launch) (D : va_G) (cI cO : ClassId) (ad : Nat → Nat) (a1 : Int32) (a2 : Int32) (a3 : Int32) (S : vS) (R9 : Int32) (S9 : vS) (hf : f_X3_pact a1 a2 a3 S = some (R9, S9)) : CI l yX3_pact cX3_pact 5 .int ({ frames := 1, cells := 0, slots := 0, locals := 21 }) [.ref (ad 0), .int a1, .int a2, .int a3] D cI cO ad S R9 S9 := by
  refine CI.of (by decide +kernel) (Nat.le_of_ble_eq_true rfl) (fun p e s m args below meth c Q ls X hl hw hfin => ?_)
  have hl : lv_has ls 5 [(0, .ref (ad 0)), (1, .int a1), (2, .int a2), (3, .int a3)] := hl
  have hx := X.1
  have hb := X.2.1
  have J57 : ∀ (x1 : Int32) (x2 : Int32) (x4 : Int32) (k0 : Nat) (k1 : Int32) (k2 : Int32) (S : vS), f_X3_pact_J57 x1 x2 x4 k0 k1 k2 S = some (R9, S9) → ∀ (H : Heap) (locs : List Loc) (ls : Array Slot), WD D cI cO ad s S H locs → lv_has ls 5 [(0, .ref (ad 0)), (1, .int x1), (2, .int x2), (4, .int x4)] → W p l e ({ frames := 1, cells := 0, slots := 0, locals := 21 }) s m args below meth c H locs 0 0 Q (F0 m 57 ls [.int k2, .int k1, .ref (ar ad k0)]) := by
    intro x1 x2 x4 k0 k1 k2 S hf H locs ls hw hl
    unfold f_X3_pact_J57 at hf
    obtain ⟨h18, hf⟩ := if_s hf
    obtain ⟨h19, hf⟩ := if_s hf
    refine x_iast X hw k0 h18 rfl h19 (k1.toNatClampNeg) rfl dX3_pact_57 (fun S20 eS20 H locs hw => ?_)
    replace hf := lt_e eS20 hf
    refine lv_aload_n hx hb dX3_pact_58 rfl (lv_at hl 0 rfl) ?_
    refine x_get X hw 0 (Nat.le_of_ble_eq_true rfl) ce0 rfl i_X3 1 (by decide) q183 ⟨rfl, rfl, rfl⟩ rfl dX3_pact_59 ?_
    refine x_getN X hw 2 (Nat.le_of_ble_eq_true rfl) ce2 rfl i_X0 3 (by decide) q123 ⟨rfl, rfl, rfl⟩ rfl dX3_pact_62 ?_
    refine lv_iload_n hx hb dX3_pact_65 rfl (lv_at hl 2 rfl) ?_
    obtain ⟨h21, hf⟩ := if_s hf
    refine x_aald X hw 8 (Nat.le_of_ble_eq_true rfl) ce8 h21 rfl dX3_pact_66 ?_
    refine lv_iload_n hx hb dX3_pact_67 rfl (lv_at hl 1 rfl) ?_
    refine lv_aload_n hx hb dX3_pact_68 rfl (lv_at hl 0 rfl) ?_
    refine x_get X hw 0 (Nat.le_of_ble_eq_true rfl) ce0 rfl i_X3 1 (by decide) q183 ⟨rfl, rfl, rfl⟩ rfl dX3_pact_69 ?_
    refine x_getN X hw 2 (Nat.le_of_ble_eq_true rfl) ce2 rfl i_X0 3 (by decide) q123 ⟨rfl, rfl, rfl⟩ rfl dX3_pact_72 ?_
    refine lv_iload_n hx hb dX3_pact_75 rfl (lv_at hl 1 rfl) ?_
    obtain ⟨h22, hf⟩ := if_s hf
    refine x_aald X hw 8 (Nat.le_of_ble_eq_true rfl) ce8 h22 rfl dX3_pact_76 ?_
    refine lv_iload_n hx hb dX3_pact_77 rfl (lv_at hl 2 rfl) ?_
    obtain ⟨h23, hf⟩ := if_s hf
    refine x_iald X hw (60 + x1.toNatClampNeg) (have q9 := inb_lt h22; ⟨by omega, by omega⟩) (alen_60 (inb_lt h22)) h23 (x2.toNatClampNeg) rfl dX3_pact_78 ?_
    obtain ⟨h24, hf⟩ := if_s hf
    refine x_iast X hw (60 + x2.toNatClampNeg) (have q9 := inb_lt h21; ⟨by omega, by omega⟩) (alen_60 (inb_lt h21)) h24 (x1.toNatClampNeg) rfl dX3_pact_79 (fun S25 eS25 H locs hw => ?_)
    replace hf := lt_e eS25 hf
    refine lv_aload_n hx hb dX3_pact_80 rfl (lv_at hl 0 rfl) ?_
    refine x_get X hw 0 (Nat.le_of_ble_eq_true rfl) ce0 rfl i_X3 1 (by decide) q183 ⟨rfl, rfl, rfl⟩ rfl dX3_pact_81 ?_
    refine x_getN X hw 2 (Nat.le_of_ble_eq_true rfl) ce2 rfl i_X0 3 (by decide) q123 ⟨rfl, rfl, rfl⟩ rfl dX3_pact_84 ?_
    refine lv_iload_n hx hb dX3_pact_87 rfl (lv_at hl 1 rfl) ?_
    refine x_aald X hw 8 (Nat.le_of_ble_eq_true rfl) ce8 h22 rfl dX3_pact_88 ?_
    refine lv_iload_n hx hb dX3_pact_89 rfl (lv_at hl 2 rfl) ?_
    refine x_iald X hw (60 + x1.toNatClampNeg) (have q9 := inb_lt h22; ⟨by omega, by omega⟩) (alen_60 (inb_lt h22)) h23 (x2.toNatClampNeg) rfl dX3_pact_90 ?_
    refine lv_iload hx hb dX3_pact_91 (lv_at hl 3 rfl) ?_
    refine lv_icmp_ne (tgt := 100) hx hb dX3_pact_93 (by decide) (fun c26 => ?_) (fun c26 => ?_)
    · replace hf := if_f c26 hf
      refine lv_iconst (v := 1) hx hb dX3_pact_100 (by decide) ?_
      exact hfin _ _ _ _ _ _ hw (s2a hf) (s2b hf) (narI _) dX3_pact_101
    · replace hf := if_t c26 hf
      refine lv_iconst (v := 0) hx hb dX3_pact_96 (by decide) ?_
      refine lv_goto (tgt := 101) hx hb dX3_pact_97 (by decide) ?_
      exact hfin _ _ _ _ _ _ hw (s2a hf) (s2b hf) (narI _) dX3_pact_101
  unfold f_X3_pact at hf
  refine lv_iload_n hx hb dX3_pact_0 rfl (lv_at hl 1 rfl) ?_
  obtain ⟨r2, h1, hf⟩ := b1_s hf
  refine kSi X hw (c_X3_isLand l D cI cO ad a1 S r2 h1) ⟨rfl, rfl⟩ q345 q346 q59 q347 hd_X3_isLand ⟨Nat.le_of_ble_eq_true rfl, Nat.le_of_ble_eq_true rfl⟩ rfl hl.1 rfl (Nat.le_of_ble_eq_true rfl) dX3_pact_1 (fun H locs hw => ?_)
  refine lv_if_eq (tgt := 19) hx hb dX3_pact_4 (by decide) (fun c3 => ?_) (fun c3 => ?_)
  · replace hf := if_t c3 hf
    refine lv_aload_n hx hb dX3_pact_19 rfl (lv_at hl 0 rfl) ?_
    refine lv_iconst (v := -1) hx hb dX3_pact_20 (by decide) ?_
    obtain ⟨r6, S5, h4, hf⟩ := b2_s hf
    refine kVi X hw (c_X3_refuse l D cI cO ad (-1 : Int32) S r6 S5 h4) (Nat.le_of_ble_eq_true rfl) ce0 rfl ⟨rfl, rfl⟩ q211 q213 q0 q59 q214 hd_X3_refuse ⟨Nat.le_of_ble_eq_true rfl, Nat.le_of_ble_eq_true rfl⟩ rfl hl.1 rfl (Nat.le_of_ble_eq_true rfl) dX3_pact_21 (fun H locs hw => ?_)
    exact hfin _ _ _ _ _ _ hw (s2a hf) (s2b hf) (narI _) dX3_pact_24
  · replace hf := if_f c3 hf
    refine lv_iload_n hx hb dX3_pact_7 rfl (lv_at hl 2 rfl) ?_
    obtain ⟨r8, h7, hf⟩ := b1_s hf
    refine kSi X hw (c_X3_isLand l D cI cO ad a2 S r8 h7) ⟨rfl, rfl⟩ q345 q346 q59 q347 hd_X3_isLand ⟨Nat.le_of_ble_eq_true rfl, Nat.le_of_ble_eq_true rfl⟩ rfl hl.1 rfl (Nat.le_of_ble_eq_true rfl) dX3_pact_8 (fun H locs hw => ?_)
    refine lv_if_eq (tgt := 19) hx hb dX3_pact_11 (by decide) (fun c9 => ?_) (fun c9 => ?_)
    · replace hf := if_t c9 hf
      refine lv_aload_n hx hb dX3_pact_19 rfl (lv_at hl 0 rfl) ?_
      refine lv_iconst (v := -1) hx hb dX3_pact_20 (by decide) ?_
      obtain ⟨r12, S11, h10, hf⟩ := b2_s hf
      refine kVi X hw (c_X3_refuse l D cI cO ad (-1 : Int32) S r12 S11 h10) (Nat.le_of_ble_eq_true rfl) ce0 rfl ⟨rfl, rfl⟩ q211 q213 q0 q59 q214 hd_X3_refuse ⟨Nat.le_of_ble_eq_true rfl, Nat.le_of_ble_eq_true rfl⟩ rfl hl.1 rfl (Nat.le_of_ble_eq_true rfl) dX3_pact_21 (fun H locs hw => ?_)
      exact hfin _ _ _ _ _ _ hw (s2a hf) (s2b hf) (narI _) dX3_pact_24
    · replace hf := if_f c9 hf
      refine lv_iload_n hx hb dX3_pact_14 rfl (lv_at hl 1 rfl) ?_
      refine lv_iload_n hx hb dX3_pact_15 rfl (lv_at hl 2 rfl) ?_
      refine lv_icmp_ne (tgt := 25) hx hb dX3_pact_16 (by decide) (fun c13 => ?_) (fun c13 => ?_)
      · replace hf := if_f c13 hf
        refine lv_aload_n hx hb dX3_pact_25 rfl (lv_at hl 0 rfl) ?_
        refine x_get X hw 0 (Nat.le_of_ble_eq_true rfl) ce0 rfl i_X3 1 (by decide) q183 ⟨rfl, rfl, rfl⟩ rfl dX3_pact_26 ?_
        refine x_getN X hw 2 (Nat.le_of_ble_eq_true rfl) ce2 rfl i_X0 3 (by decide) q123 ⟨rfl, rfl, rfl⟩ rfl dX3_pact_29 ?_
        refine lv_iload_n hx hb dX3_pact_32 rfl (lv_at hl 1 rfl) ?_
        obtain ⟨h14, hf⟩ := if_s hf
        refine x_aald X hw 8 (Nat.le_of_ble_eq_true rfl) ce8 h14 rfl dX3_pact_33 ?_
        refine lv_iload_n hx hb dX3_pact_34 rfl (lv_at hl 2 rfl) ?_
        obtain ⟨h15, hf⟩ := if_s hf
        refine x_iald X hw (60 + a1.toNatClampNeg) (have q9 := inb_lt h14; ⟨by omega, by omega⟩) (alen_60 (inb_lt h14)) h15 (a2.toNatClampNeg) rfl dX3_pact_35 ?_
        refine lv_topi (fun v16 ev16 => ?_)
        replace hf := lt_e ev16 hf
        refine lv_istore (lv' := [(4, .int v16), (0, .ref (ad 0)), (1, .int a1), (2, .int a2), (3, .int a3)]) hx hb dX3_pact_36 hl (by decide) rfl (fun ls hl => ?_)
        refine lv_aload_n hx hb dX3_pact_38 rfl (lv_at hl 1 rfl) ?_
        refine x_get X hw 0 (Nat.le_of_ble_eq_true rfl) ce0 rfl i_X3 1 (by decide) q183 ⟨rfl, rfl, rfl⟩ rfl dX3_pact_39 ?_
        refine x_getN X hw 2 (Nat.le_of_ble_eq_true rfl) ce2 rfl i_X0 3 (by decide) q123 ⟨rfl, rfl, rfl⟩ rfl dX3_pact_42 ?_
        refine lv_iload_n hx hb dX3_pact_45 rfl (lv_at hl 2 rfl) ?_
        refine x_aald X hw 8 (Nat.le_of_ble_eq_true rfl) ce8 h14 rfl dX3_pact_46 ?_
        refine lv_iload_n hx hb dX3_pact_47 rfl (lv_at hl 3 rfl) ?_
        refine lv_iload_n hx hb dX3_pact_48 rfl (lv_at hl 4 rfl) ?_
        refine lv_if_eq (tgt := 56) hx hb dX3_pact_49 (by decide) (fun c17 => ?_) (fun c17 => ?_)
        · replace hf := if_t c17 hf
          refine lv_iconst (v := 0) hx hb dX3_pact_56 (by decide) ?_
          exact J57 a1 a2 v16 (60 + a1.toNatClampNeg) a2 (0 : Int32) S hf _ _ _ hw (lv_sub hl [1, 2, 3, 0] rfl)
        · replace hf := if_f c17 hf
          refine lv_iconst (v := 1) hx hb dX3_pact_52 (by decide) ?_
          refine lv_goto (tgt := 57) hx hb dX3_pact_53 (by decide) ?_
          exact J57 a1 a2 v16 (60 + a1.toNatClampNeg) a2 (1 : Int32) S hf _ _ _ hw (lv_sub hl [1, 2, 3, 0] rfl)
      · replace hf := if_t c13 hf
        refine lv_aload_n hx hb dX3_pact_19 rfl (lv_at hl 0 rfl) ?_
        refine lv_iconst (v := -1) hx hb dX3_pact_20 (by decide) ?_
        obtain ⟨r29, S28, h27, hf⟩ := b2_s hf
        refine kVi X hw (c_X3_refuse l D cI cO ad (-1 : Int32) S r29 S28 h27) (Nat.le_of_ble_eq_true rfl) ce0 rfl ⟨rfl, rfl⟩ q211 q213 q0 q59 q214 hd_X3_refuse ⟨Nat.le_of_ble_eq_true rfl, Nat.le_of_ble_eq_true rfl⟩ rfl hl.1 rfl (Nat.le_of_ble_eq_true rfl) dX3_pact_21 (fun H locs hw => ?_)
        exact hfin _ _ _ _ _ _ hw (s2a hf) (s2b hf) (narI _) dX3_pact_24
/-- NineLands.counts(II)I -/
theorem dX3_counts_0 : decode cX3_counts 0 = .ok (.iload_n 1, 1) := by decide +kernel
theorem dX3_counts_1 : decode cX3_counts 1 = .ok (.invokestatic 78, 3) := by decide +kernel
theorem dX3_counts_4 : decode cX3_counts 4 = .ok (.ifCond .ne 9, 3) := by decide +kernel
theorem dX3_counts_7 : decode cX3_counts 7 = .ok (.aload_n 0, 1) := by decide +kernel
theorem dX3_counts_8 : decode cX3_counts 8 = .ok (.iconst (-1), 1) := by decide +kernel
theorem dX3_counts_9 : decode cX3_counts 9 = .ok (.invokevirtual 48, 3) := by decide +kernel
theorem dX3_counts_12 : decode cX3_counts 12 = .ok (.ireturn, 1) := by decide +kernel
theorem dX3_counts_13 : decode cX3_counts 13 = .ok (.iload_n 2, 1) := by decide +kernel
theorem dX3_counts_14 : decode cX3_counts 14 = .ok (.ifCond .lt 8, 3) := by decide +kernel
theorem dX3_counts_17 : decode cX3_counts 17 = .ok (.iload_n 2, 1) := by decide +kernel
theorem dX3_counts_18 : decode cX3_counts 18 = .ok (.iconst 3, 1) := by decide +kernel
theorem dX3_counts_19 : decode cX3_counts 19 = .ok (.if_icmp .le 10, 3) := by decide +kernel
theorem dX3_counts_22 : decode cX3_counts 22 = .ok (.aload_n 0, 1) := by decide +kernel
theorem dX3_counts_23 : decode cX3_counts 23 = .ok (.bipush (-2), 2) := by decide +kernel
theorem dX3_counts_25 : decode cX3_counts 25 = .ok (.invokevirtual 48, 3) := by decide +kernel
theorem dX3_counts_28 : decode cX3_counts 28 = .ok (.ireturn, 1) := by decide +kernel
theorem dX3_counts_29 : decode cX3_counts 29 = .ok (.aload_n 0, 1) := by decide +kernel
theorem dX3_counts_30 : decode cX3_counts 30 = .ok (.getfield 29, 3) := by decide +kernel
theorem dX3_counts_33 : decode cX3_counts 33 = .ok (.aload_n 0, 1) := by decide +kernel
theorem dX3_counts_34 : decode cX3_counts 34 = .ok (.getfield 19, 3) := by decide +kernel
theorem dX3_counts_37 : decode cX3_counts 37 = .ok (.invokevirtual 96, 3) := by decide +kernel
theorem dX3_counts_40 : decode cX3_counts 40 = .ok (.iload_n 2, 1) := by decide +kernel
theorem dX3_counts_41 : decode cX3_counts 41 = .ok (.tableswitch 57 0 2 #[27, 37, 47], 27) := by decide +kernel
theorem dX3_counts_68 : decode cX3_counts 68 = .ok (.aload_n 0, 1) := by decide +kernel
theorem dX3_counts_69 : decode cX3_counts 69 = .ok (.getfield 29, 3) := by decide +kernel
theorem dX3_counts_72 : decode cX3_counts 72 = .ok (.getfield 100, 3) := by decide +kernel
theorem dX3_counts_75 : decode cX3_counts 75 = .ok (.iload_n 1, 1) := by decide +kernel
theorem dX3_counts_76 : decode cX3_counts 76 = .ok (.iaload, 1) := by decide +kernel
theorem dX3_counts_77 : decode cX3_counts 77 = .ok (.ireturn, 1) := by decide +kernel
theorem dX3_counts_78 : decode cX3_counts 78 = .ok (.aload_n 0, 1) := by decide +kernel
theorem dX3_counts_79 : decode cX3_counts 79 = .ok (.getfield 29, 3) := by decide +kernel
theorem dX3_counts_82 : decode cX3_counts 82 = .ok (.getfield 103, 3) := by decide +kernel
theorem dX3_counts_85 : decode cX3_counts 85 = .ok (.iload_n 1, 1) := by decide +kernel
theorem dX3_counts_86 : decode cX3_counts 86 = .ok (.iaload, 1) := by decide +kernel
theorem dX3_counts_87 : decode cX3_counts 87 = .ok (.ireturn, 1) := by decide +kernel
theorem dX3_counts_88 : decode cX3_counts 88 = .ok (.aload_n 0, 1) := by decide +kernel
theorem dX3_counts_89 : decode cX3_counts 89 = .ok (.getfield 29, 3) := by decide +kernel
theorem dX3_counts_92 : decode cX3_counts 92 = .ok (.getfield 106, 3) := by decide +kernel
theorem dX3_counts_95 : decode cX3_counts 95 = .ok (.iload_n 1, 1) := by decide +kernel
theorem dX3_counts_96 : decode cX3_counts 96 = .ok (.iaload, 1) := by decide +kernel
theorem dX3_counts_97 : decode cX3_counts 97 = .ok (.ireturn, 1) := by decide +kernel
theorem dX3_counts_98 : decode cX3_counts 98 = .ok (.aload_n 0, 1) := by decide +kernel
theorem dX3_counts_99 : decode cX3_counts 99 = .ok (.getfield 29, 3) := by decide +kernel
theorem dX3_counts_102 : decode cX3_counts 102 = .ok (.getfield 109, 3) := by decide +kernel
theorem dX3_counts_105 : decode cX3_counts 105 = .ok (.iload_n 1, 1) := by decide +kernel
theorem dX3_counts_106 : decode cX3_counts 106 = .ok (.iaload, 1) := by decide +kernel
theorem dX3_counts_107 : decode cX3_counts 107 = .ok (.ireturn, 1) := by decide +kernel
theorem hd_X3_counts : yX3_counts.cls ≠ "java/lang/invoke/MethodHandle" ∧ yX3_counts.cls ≠ "java/lang/invoke/VarHandle" ∧ (parseMethodDescriptor yX3_counts.desc).map (fun d => d.parameters.length) = some 2 := by decide +kernel
def f_X3_counts (a1 : Int32) (a2 : Int32) (S : vS) : Option (Int32 × vS) := b1 (f_X3_isLand a1 S) fun r2 => if r2 = 0 then b2 (f_X3_refuse (-1 : Int32) S) fun r23 S22 => some (r23, S22) else if a2 < 0 then b2 (f_X3_refuse (-2 : Int32) S) fun r7 S6 => some (r7, S6) else if a2 ≤ (3 : Int32) then b1 (f_X1_reckon  S) fun S10 => if a2 = (0 : Int32) then if inb a1 6 = true then some ((S10 26 (a1.toNatClampNeg)), S10) else none else if a2 = (1 : Int32) then if inb a1 6 = true then some ((S10 27 (a1.toNatClampNeg)), S10) else none else if a2 = (2 : Int32) then if inb a1 6 = true then some ((S10 28 (a1.toNatClampNeg)), S10) else none else if inb a1 6 = true then some ((S10 29 (a1.toNatClampNeg)), S10) else none else b2 (f_X3_refuse (-2 : Int32) S) fun r20 S19 => some (r20, S19)
set_option maxHeartbeats 4000000 in
set_option maxRecDepth 20000 in
theorem c_X3_counts (l : Launch) (D : va_G) (cI cO : ClassId) (ad : Nat → Nat) (a1 : Int32) (a2 : Int32) (S : vS) (R9 : Int32) (S9 : vS) (hf : f_X3_counts a1 a2 S = some (R9, S9)) : CI l yX3_counts cX3_counts 3 .int ({ frames := 4, cells := 0, slots := 0, locals := 97 }) [.ref (ad 0), .int a1, .int a2] D cI cO ad S R9 S9 := by
  refine CI.of (by decide +kernel) (Nat.le_of_ble_eq_true rfl) (fun p e s m args below meth c Q ls X hl hw hfin => ?_)
  have hl : lv_has ls 3 [(0, .ref (ad 0)), (1, .int a1), (2, .int a2)] := hl
  have hx := X.1
  have hb := X.2.1
  unfold f_X3_counts at hf
  refine lv_iload_n hx hb dX3_counts_0 rfl (lv_at hl 1 rfl) ?_
  obtain ⟨r2, h1, hf⟩ := b1_s hf
  refine kSi X hw (c_X3_isLand l D cI cO ad a1 S r2 h1) ⟨rfl, rfl⟩ q345 q346 q59 q347 hd_X3_isLand ⟨Nat.le_of_ble_eq_true rfl, Nat.le_of_ble_eq_true rfl⟩ rfl hl.1 rfl (Nat.le_of_ble_eq_true rfl) dX3_counts_1 (fun H locs hw => ?_)
  refine lv_if_ne (tgt := 13) hx hb dX3_counts_4 (by decide) (fun c3 => ?_) (fun c3 => ?_)
  · replace hf := if_f c3 hf
    refine lv_iload_n hx hb dX3_counts_13 rfl (lv_at hl 2 rfl) ?_
    refine lv_if_lt (tgt := 22) hx hb dX3_counts_14 (by decide) (fun c4 => ?_) (fun c4 => ?_)
    · replace hf := if_t c4 hf
      refine lv_aload_n hx hb dX3_counts_22 rfl (lv_at hl 0 rfl) ?_
      refine lv_bipush (v := -2) hx hb dX3_counts_23 (by decide +kernel) ?_
      obtain ⟨r7, S6, h5, hf⟩ := b2_s hf
      refine kVi X hw (c_X3_refuse l D cI cO ad (-2 : Int32) S r7 S6 h5) (Nat.le_of_ble_eq_true rfl) ce0 rfl ⟨rfl, rfl⟩ q211 q213 q0 q59 q214 hd_X3_refuse ⟨Nat.le_of_ble_eq_true rfl, Nat.le_of_ble_eq_true rfl⟩ rfl hl.1 rfl (Nat.le_of_ble_eq_true rfl) dX3_counts_25 (fun H locs hw => ?_)
      exact hfin _ _ _ _ _ _ hw (s2a hf) (s2b hf) (narI _) dX3_counts_28
    · replace hf := if_f c4 hf
      refine lv_iload_n hx hb dX3_counts_17 rfl (lv_at hl 2 rfl) ?_
      refine lv_iconst (v := 3) hx hb dX3_counts_18 (by decide) ?_
      refine lv_icmp_le (tgt := 29) hx hb dX3_counts_19 (by decide) (fun c8 => ?_) (fun c8 => ?_)
      · replace hf := if_t c8 hf
        refine lv_aload_n hx hb dX3_counts_29 rfl (lv_at hl 0 rfl) ?_
        refine x_get X hw 0 (Nat.le_of_ble_eq_true rfl) ce0 rfl i_X3 3 (by decide) q185 ⟨rfl, rfl, rfl⟩ rfl dX3_counts_30 ?_
        refine lv_aload_n hx hb dX3_counts_33 rfl (lv_at hl 0 rfl) ?_
        refine x_get X hw 0 (Nat.le_of_ble_eq_true rfl) ce0 rfl i_X3 1 (by decide) q183 ⟨rfl, rfl, rfl⟩ rfl dX3_counts_34 ?_
        obtain ⟨S10, h9, hf⟩ := b1_s hf
        refine kNv X hw (c_X1_reckon l D cI cO ad  S S10 h9) (Nat.le_of_ble_eq_true rfl) ce4 rfl ⟨rfl, rfl⟩ q365 q367 q7 q63 q368 hd_X1_reckon ⟨Nat.le_of_ble_eq_true rfl, Nat.le_of_ble_eq_true rfl⟩ rfl hl.1 rfl (Nat.le_of_ble_eq_true rfl) dX3_counts_37 (fun H locs hw => ?_)
        refine lv_iload_n hx hb dX3_counts_40 rfl (lv_at hl 2 rfl) ?_
        by_cases c11 : a2 = (0 : Int32)
        · replace hf := if_t c11 hf
          refine lv_tableIn (off := 27) (tgt := 68) hx hb dX3_counts_41 (by rw [c11]; decide) (by rw [c11]; decide) (by rw [c11]; rfl) (by decide) ?_
          refine lv_aload_n hx hb dX3_counts_68 rfl (lv_at hl 0 rfl) ?_
          refine x_get X hw 0 (Nat.le_of_ble_eq_true rfl) ce0 rfl i_X3 3 (by decide) q185 ⟨rfl, rfl, rfl⟩ rfl dX3_counts_69 ?_
          refine x_getN X hw 4 (Nat.le_of_ble_eq_true rfl) ce4 rfl i_X1 1 (by decide) q145 ⟨rfl, rfl, rfl⟩ rfl dX3_counts_72 ?_
          refine lv_iload_n hx hb dX3_counts_75 rfl (lv_at hl 1 rfl) ?_
          obtain ⟨h12, hf⟩ := if_s hf
          refine x_iald X hw 26 ⟨Nat.le_of_ble_eq_true rfl, Nat.le_of_ble_eq_true rfl⟩ rfl h12 (a1.toNatClampNeg) rfl dX3_counts_76 ?_
          exact hfin _ _ _ _ _ _ hw (s2a hf) (s2b hf) (narI _) dX3_counts_77
        · replace hf := if_f c11 hf
          by_cases c13 : a2 = (1 : Int32)
          · replace hf := if_t c13 hf
            refine lv_tableIn (off := 37) (tgt := 78) hx hb dX3_counts_41 (by rw [c13]; decide) (by rw [c13]; decide) (by rw [c13]; rfl) (by decide) ?_
            refine lv_aload_n hx hb dX3_counts_78 rfl (lv_at hl 0 rfl) ?_
            refine x_get X hw 0 (Nat.le_of_ble_eq_true rfl) ce0 rfl i_X3 3 (by decide) q185 ⟨rfl, rfl, rfl⟩ rfl dX3_counts_79 ?_
            refine x_getN X hw 4 (Nat.le_of_ble_eq_true rfl) ce4 rfl i_X1 2 (by decide) q147 ⟨rfl, rfl, rfl⟩ rfl dX3_counts_82 ?_
            refine lv_iload_n hx hb dX3_counts_85 rfl (lv_at hl 1 rfl) ?_
            obtain ⟨h14, hf⟩ := if_s hf
            refine x_iald X hw 27 ⟨Nat.le_of_ble_eq_true rfl, Nat.le_of_ble_eq_true rfl⟩ rfl h14 (a1.toNatClampNeg) rfl dX3_counts_86 ?_
            exact hfin _ _ _ _ _ _ hw (s2a hf) (s2b hf) (narI _) dX3_counts_87
          · replace hf := if_f c13 hf
            by_cases c15 : a2 = (2 : Int32)
            · replace hf := if_t c15 hf
              refine lv_tableIn (off := 47) (tgt := 88) hx hb dX3_counts_41 (by rw [c15]; decide) (by rw [c15]; decide) (by rw [c15]; rfl) (by decide) ?_
              refine lv_aload_n hx hb dX3_counts_88 rfl (lv_at hl 0 rfl) ?_
              refine x_get X hw 0 (Nat.le_of_ble_eq_true rfl) ce0 rfl i_X3 3 (by decide) q185 ⟨rfl, rfl, rfl⟩ rfl dX3_counts_89 ?_
              refine x_getN X hw 4 (Nat.le_of_ble_eq_true rfl) ce4 rfl i_X1 3 (by decide) q149 ⟨rfl, rfl, rfl⟩ rfl dX3_counts_92 ?_
              refine lv_iload_n hx hb dX3_counts_95 rfl (lv_at hl 1 rfl) ?_
              obtain ⟨h16, hf⟩ := if_s hf
              refine x_iald X hw 28 ⟨Nat.le_of_ble_eq_true rfl, Nat.le_of_ble_eq_true rfl⟩ rfl h16 (a1.toNatClampNeg) rfl dX3_counts_96 ?_
              exact hfin _ _ _ _ _ _ hw (s2a hf) (s2b hf) (narI _) dX3_counts_97
            · replace hf := if_f c15 hf
              have nc11 : ¬ (a2).toInt = 0 := lv_neT c11 (by decide)
              have nc13 : ¬ (a2).toInt = 1 := lv_neT c13 (by decide)
              have nc15 : ¬ (a2).toInt = 2 := lv_neT c15 (by decide)
              refine lv_tableOut (tgt := 98) hx hb dX3_counts_41 (by omega) (by decide) ?_
              refine lv_aload_n hx hb dX3_counts_98 rfl (lv_at hl 0 rfl) ?_
              refine x_get X hw 0 (Nat.le_of_ble_eq_true rfl) ce0 rfl i_X3 3 (by decide) q185 ⟨rfl, rfl, rfl⟩ rfl dX3_counts_99 ?_
              refine x_getN X hw 4 (Nat.le_of_ble_eq_true rfl) ce4 rfl i_X1 4 (by decide) q151 ⟨rfl, rfl, rfl⟩ rfl dX3_counts_102 ?_
              refine lv_iload_n hx hb dX3_counts_105 rfl (lv_at hl 1 rfl) ?_
              obtain ⟨h17, hf⟩ := if_s hf
              refine x_iald X hw 29 ⟨Nat.le_of_ble_eq_true rfl, Nat.le_of_ble_eq_true rfl⟩ rfl h17 (a1.toNatClampNeg) rfl dX3_counts_106 ?_
              exact hfin _ _ _ _ _ _ hw (s2a hf) (s2b hf) (narI _) dX3_counts_107
      · replace hf := if_f c8 hf
        refine lv_aload_n hx hb dX3_counts_22 rfl (lv_at hl 0 rfl) ?_
        refine lv_bipush (v := -2) hx hb dX3_counts_23 (by decide +kernel) ?_
        obtain ⟨r20, S19, h18, hf⟩ := b2_s hf
        refine kVi X hw (c_X3_refuse l D cI cO ad (-2 : Int32) S r20 S19 h18) (Nat.le_of_ble_eq_true rfl) ce0 rfl ⟨rfl, rfl⟩ q211 q213 q0 q59 q214 hd_X3_refuse ⟨Nat.le_of_ble_eq_true rfl, Nat.le_of_ble_eq_true rfl⟩ rfl hl.1 rfl (Nat.le_of_ble_eq_true rfl) dX3_counts_25 (fun H locs hw => ?_)
        exact hfin _ _ _ _ _ _ hw (s2a hf) (s2b hf) (narI _) dX3_counts_28
  · replace hf := if_t c3 hf
    refine lv_aload_n hx hb dX3_counts_7 rfl (lv_at hl 0 rfl) ?_
    refine lv_iconst (v := -1) hx hb dX3_counts_8 (by decide) ?_
    obtain ⟨r23, S22, h21, hf⟩ := b2_s hf
    refine kVi X hw (c_X3_refuse l D cI cO ad (-1 : Int32) S r23 S22 h21) (Nat.le_of_ble_eq_true rfl) ce0 rfl ⟨rfl, rfl⟩ q211 q213 q0 q59 q214 hd_X3_refuse ⟨Nat.le_of_ble_eq_true rfl, Nat.le_of_ble_eq_true rfl⟩ rfl hl.1 rfl (Nat.le_of_ble_eq_true rfl) dX3_counts_9 (fun H locs hw => ?_)
    exact hfin _ _ _ _ _ _ hw (s2a hf) (s2b hf) (narI _) dX3_counts_12
/-- NineLands.month(II)I -/
theorem dX3_month_0 : decode cX3_month 0 = .ok (.iload_n 1, 1) := by decide +kernel
theorem dX3_month_1 : decode cX3_month 1 = .ok (.invokestatic 78, 3) := by decide +kernel
theorem dX3_month_4 : decode cX3_month 4 = .ok (.ifCond .ne 9, 3) := by decide +kernel
theorem dX3_month_7 : decode cX3_month 7 = .ok (.aload_n 0, 1) := by decide +kernel
theorem dX3_month_8 : decode cX3_month 8 = .ok (.iconst (-1), 1) := by decide +kernel
theorem dX3_month_9 : decode cX3_month 9 = .ok (.invokevirtual 48, 3) := by decide +kernel
theorem dX3_month_12 : decode cX3_month 12 = .ok (.ireturn, 1) := by decide +kernel
theorem dX3_month_13 : decode cX3_month 13 = .ok (.iload_n 2, 1) := by decide +kernel
theorem dX3_month_14 : decode cX3_month 14 = .ok (.ifCond .ge 10, 3) := by decide +kernel
theorem dX3_month_17 : decode cX3_month 17 = .ok (.aload_n 0, 1) := by decide +kernel
theorem dX3_month_18 : decode cX3_month 18 = .ok (.bipush (-4), 2) := by decide +kernel
theorem dX3_month_20 : decode cX3_month 20 = .ok (.invokevirtual 48, 3) := by decide +kernel
theorem dX3_month_23 : decode cX3_month 23 = .ok (.ireturn, 1) := by decide +kernel
theorem dX3_month_24 : decode cX3_month 24 = .ok (.iload_n 2, 1) := by decide +kernel
theorem dX3_month_25 : decode cX3_month 25 = .ok (.sipush 900, 3) := by decide +kernel
theorem dX3_month_28 : decode cX3_month 28 = .ok (.if_icmp .lt 10, 3) := by decide +kernel
theorem dX3_month_31 : decode cX3_month 31 = .ok (.aload_n 0, 1) := by decide +kernel
theorem dX3_month_32 : decode cX3_month 32 = .ok (.bipush (-6), 2) := by decide +kernel
theorem dX3_month_34 : decode cX3_month 34 = .ok (.invokevirtual 48, 3) := by decide +kernel
theorem dX3_month_37 : decode cX3_month 37 = .ok (.ireturn, 1) := by decide +kernel
theorem dX3_month_38 : decode cX3_month 38 = .ok (.aload_n 0, 1) := by decide +kernel
theorem dX3_month_39 : decode cX3_month 39 = .ok (.getfield 19, 3) := by decide +kernel
theorem dX3_month_42 : decode cX3_month 42 = .ok (.iload_n 1, 1) := by decide +kernel
theorem dX3_month_43 : decode cX3_month 43 = .ok (.iload_n 2, 1) := by decide +kernel
theorem dX3_month_44 : decode cX3_month 44 = .ok (.invokevirtual 112, 3) := by decide +kernel
theorem dX3_month_47 : decode cX3_month 47 = .ok (.ireturn, 1) := by decide +kernel
theorem hd_X3_month : yX3_month.cls ≠ "java/lang/invoke/MethodHandle" ∧ yX3_month.cls ≠ "java/lang/invoke/VarHandle" ∧ (parseMethodDescriptor yX3_month.desc).map (fun d => d.parameters.length) = some 2 := by decide +kernel
def f_X3_month (a1 : Int32) (a2 : Int32) (S : vS) : Option (Int32 × vS) := b1 (f_X3_isLand a1 S) fun r2 => if r2 = 0 then b2 (f_X3_refuse (-1 : Int32) S) fun r16 S15 => some (r16, S15) else if 0 ≤ a2 then if a2 < (900 : Int32) then b1 (f_X0_payAt a1 a2 S) fun r7 => some (r7, S) else b2 (f_X3_refuse (-6 : Int32) S) fun r10 S9 => some (r10, S9) else b2 (f_X3_refuse (-4 : Int32) S) fun r13 S12 => some (r13, S12)
set_option maxHeartbeats 4000000 in
set_option maxRecDepth 20000 in
theorem c_X3_month (l : Launch) (D : va_G) (cI cO : ClassId) (ad : Nat → Nat) (a1 : Int32) (a2 : Int32) (S : vS) (R9 : Int32) (S9 : vS) (hf : f_X3_month a1 a2 S = some (R9, S9)) : CI l yX3_month cX3_month 3 .int ({ frames := 2, cells := 0, slots := 0, locals := 49 }) [.ref (ad 0), .int a1, .int a2] D cI cO ad S R9 S9 := by
  refine CI.of (by decide +kernel) (Nat.le_of_ble_eq_true rfl) (fun p e s m args below meth c Q ls X hl hw hfin => ?_)
  have hl : lv_has ls 3 [(0, .ref (ad 0)), (1, .int a1), (2, .int a2)] := hl
  have hx := X.1
  have hb := X.2.1
  unfold f_X3_month at hf
  refine lv_iload_n hx hb dX3_month_0 rfl (lv_at hl 1 rfl) ?_
  obtain ⟨r2, h1, hf⟩ := b1_s hf
  refine kSi X hw (c_X3_isLand l D cI cO ad a1 S r2 h1) ⟨rfl, rfl⟩ q345 q346 q59 q347 hd_X3_isLand ⟨Nat.le_of_ble_eq_true rfl, Nat.le_of_ble_eq_true rfl⟩ rfl hl.1 rfl (Nat.le_of_ble_eq_true rfl) dX3_month_1 (fun H locs hw => ?_)
  refine lv_if_ne (tgt := 13) hx hb dX3_month_4 (by decide) (fun c3 => ?_) (fun c3 => ?_)
  · replace hf := if_f c3 hf
    refine lv_iload_n hx hb dX3_month_13 rfl (lv_at hl 2 rfl) ?_
    refine lv_if_ge (tgt := 24) hx hb dX3_month_14 (by decide) (fun c4 => ?_) (fun c4 => ?_)
    · replace hf := if_t c4 hf
      refine lv_iload_n hx hb dX3_month_24 rfl (lv_at hl 2 rfl) ?_
      refine lv_sipush (v := 900) hx hb dX3_month_25 (by decide +kernel) ?_
      refine lv_icmp_lt (tgt := 38) hx hb dX3_month_28 (by decide) (fun c5 => ?_) (fun c5 => ?_)
      · replace hf := if_t c5 hf
        refine lv_aload_n hx hb dX3_month_38 rfl (lv_at hl 0 rfl) ?_
        refine x_get X hw 0 (Nat.le_of_ble_eq_true rfl) ce0 rfl i_X3 1 (by decide) q183 ⟨rfl, rfl, rfl⟩ rfl dX3_month_39 ?_
        refine lv_iload_n hx hb dX3_month_42 rfl (lv_at hl 1 rfl) ?_
        refine lv_iload_n hx hb dX3_month_43 rfl (lv_at hl 2 rfl) ?_
        obtain ⟨r7, h6, hf⟩ := b1_s hf
        refine kNi X hw (c_X0_payAt l D cI cO ad a1 a2 S r7 h6) (Nat.le_of_ble_eq_true rfl) ce2 rfl ⟨rfl, rfl⟩ q418 q387 q11 q61 q388 hd_X0_payAt ⟨Nat.le_of_ble_eq_true rfl, Nat.le_of_ble_eq_true rfl⟩ rfl hl.1 rfl (Nat.le_of_ble_eq_true rfl) dX3_month_44 (fun H locs hw => ?_)
        exact hfin _ _ _ _ _ _ hw (s2a hf) (s2b hf) (narI _) dX3_month_47
      · replace hf := if_f c5 hf
        refine lv_aload_n hx hb dX3_month_31 rfl (lv_at hl 0 rfl) ?_
        refine lv_bipush (v := -6) hx hb dX3_month_32 (by decide +kernel) ?_
        obtain ⟨r10, S9, h8, hf⟩ := b2_s hf
        refine kVi X hw (c_X3_refuse l D cI cO ad (-6 : Int32) S r10 S9 h8) (Nat.le_of_ble_eq_true rfl) ce0 rfl ⟨rfl, rfl⟩ q211 q213 q0 q59 q214 hd_X3_refuse ⟨Nat.le_of_ble_eq_true rfl, Nat.le_of_ble_eq_true rfl⟩ rfl hl.1 rfl (Nat.le_of_ble_eq_true rfl) dX3_month_34 (fun H locs hw => ?_)
        exact hfin _ _ _ _ _ _ hw (s2a hf) (s2b hf) (narI _) dX3_month_37
    · replace hf := if_f c4 hf
      refine lv_aload_n hx hb dX3_month_17 rfl (lv_at hl 0 rfl) ?_
      refine lv_bipush (v := -4) hx hb dX3_month_18 (by decide +kernel) ?_
      obtain ⟨r13, S12, h11, hf⟩ := b2_s hf
      refine kVi X hw (c_X3_refuse l D cI cO ad (-4 : Int32) S r13 S12 h11) (Nat.le_of_ble_eq_true rfl) ce0 rfl ⟨rfl, rfl⟩ q211 q213 q0 q59 q214 hd_X3_refuse ⟨Nat.le_of_ble_eq_true rfl, Nat.le_of_ble_eq_true rfl⟩ rfl hl.1 rfl (Nat.le_of_ble_eq_true rfl) dX3_month_20 (fun H locs hw => ?_)
      exact hfin _ _ _ _ _ _ hw (s2a hf) (s2b hf) (narI _) dX3_month_23
  · replace hf := if_t c3 hf
    refine lv_aload_n hx hb dX3_month_7 rfl (lv_at hl 0 rfl) ?_
    refine lv_iconst (v := -1) hx hb dX3_month_8 (by decide) ?_
    obtain ⟨r16, S15, h14, hf⟩ := b2_s hf
    refine kVi X hw (c_X3_refuse l D cI cO ad (-1 : Int32) S r16 S15 h14) (Nat.le_of_ble_eq_true rfl) ce0 rfl ⟨rfl, rfl⟩ q211 q213 q0 q59 q214 hd_X3_refuse ⟨Nat.le_of_ble_eq_true rfl, Nat.le_of_ble_eq_true rfl⟩ rfl hl.1 rfl (Nat.le_of_ble_eq_true rfl) dX3_month_9 (fun H locs hw => ?_)
    exact hfin _ _ _ _ _ _ hw (s2a hf) (s2b hf) (narI _) dX3_month_12
/-- NineLands.over(I)I -/
theorem dX3_over_0 : decode cX3_over 0 = .ok (.iload_n 1, 1) := by decide +kernel
theorem dX3_over_1 : decode cX3_over 1 = .ok (.ifCond .lt 8, 3) := by decide +kernel
theorem dX3_over_4 : decode cX3_over 4 = .ok (.iload_n 1, 1) := by decide +kernel
theorem dX3_over_5 : decode cX3_over 5 = .ok (.iconst 1, 1) := by decide +kernel
theorem dX3_over_6 : decode cX3_over 6 = .ok (.if_icmp .le 10, 3) := by decide +kernel
theorem dX3_over_9 : decode cX3_over 9 = .ok (.aload_n 0, 1) := by decide +kernel
theorem dX3_over_10 : decode cX3_over 10 = .ok (.bipush (-2), 2) := by decide +kernel
theorem dX3_over_12 : decode cX3_over 12 = .ok (.invokevirtual 48, 3) := by decide +kernel
theorem dX3_over_15 : decode cX3_over 15 = .ok (.ireturn, 1) := by decide +kernel
theorem dX3_over_16 : decode cX3_over 16 = .ok (.aload_n 0, 1) := by decide +kernel
theorem dX3_over_17 : decode cX3_over 17 = .ok (.getfield 29, 3) := by decide +kernel
theorem dX3_over_20 : decode cX3_over 20 = .ok (.aload_n 0, 1) := by decide +kernel
theorem dX3_over_21 : decode cX3_over 21 = .ok (.getfield 19, 3) := by decide +kernel
theorem dX3_over_24 : decode cX3_over 24 = .ok (.invokevirtual 96, 3) := by decide +kernel
theorem dX3_over_27 : decode cX3_over 27 = .ok (.iload_n 1, 1) := by decide +kernel
theorem dX3_over_28 : decode cX3_over 28 = .ok (.ifCond .ne 13, 3) := by decide +kernel
theorem dX3_over_31 : decode cX3_over 31 = .ok (.aload_n 0, 1) := by decide +kernel
theorem dX3_over_32 : decode cX3_over 32 = .ok (.getfield 29, 3) := by decide +kernel
theorem dX3_over_35 : decode cX3_over 35 = .ok (.getfield 116, 3) := by decide +kernel
theorem dX3_over_38 : decode cX3_over 38 = .ok (.goto 10, 3) := by decide +kernel
theorem dX3_over_41 : decode cX3_over 41 = .ok (.aload_n 0, 1) := by decide +kernel
theorem dX3_over_42 : decode cX3_over 42 = .ok (.getfield 29, 3) := by decide +kernel
theorem dX3_over_45 : decode cX3_over 45 = .ok (.getfield 119, 3) := by decide +kernel
theorem dX3_over_48 : decode cX3_over 48 = .ok (.ireturn, 1) := by decide +kernel
theorem hd_X3_over : yX3_over.cls ≠ "java/lang/invoke/MethodHandle" ∧ yX3_over.cls ≠ "java/lang/invoke/VarHandle" ∧ (parseMethodDescriptor yX3_over.desc).map (fun d => d.parameters.length) = some 1 := by decide +kernel
def f_X3_over (a1 : Int32) (S : vS) : Option (Int32 × vS) := if a1 < 0 then b2 (f_X3_refuse (-2 : Int32) S) fun r4 S3 => some (r4, S3) else if a1 ≤ (1 : Int32) then b1 (f_X1_reckon  S) fun S7 => if a1 = 0 then some ((S7 0 14), S7) else some ((S7 0 15), S7) else b2 (f_X3_refuse (-2 : Int32) S) fun r11 S10 => some (r11, S10)
set_option maxHeartbeats 4000000 in
set_option maxRecDepth 20000 in
theorem c_X3_over (l : Launch) (D : va_G) (cI cO : ClassId) (ad : Nat → Nat) (a1 : Int32) (S : vS) (R9 : Int32) (S9 : vS) (hf : f_X3_over a1 S = some (R9, S9)) : CI l yX3_over cX3_over 2 .int ({ frames := 4, cells := 0, slots := 0, locals := 97 }) [.ref (ad 0), .int a1] D cI cO ad S R9 S9 := by
  refine CI.of (by decide +kernel) (Nat.le_of_ble_eq_true rfl) (fun p e s m args below meth c Q ls X hl hw hfin => ?_)
  have hl : lv_has ls 2 [(0, .ref (ad 0)), (1, .int a1)] := hl
  have hx := X.1
  have hb := X.2.1
  unfold f_X3_over at hf
  refine lv_iload_n hx hb dX3_over_0 rfl (lv_at hl 1 rfl) ?_
  refine lv_if_lt (tgt := 9) hx hb dX3_over_1 (by decide) (fun c1 => ?_) (fun c1 => ?_)
  · replace hf := if_t c1 hf
    refine lv_aload_n hx hb dX3_over_9 rfl (lv_at hl 0 rfl) ?_
    refine lv_bipush (v := -2) hx hb dX3_over_10 (by decide +kernel) ?_
    obtain ⟨r4, S3, h2, hf⟩ := b2_s hf
    refine kVi X hw (c_X3_refuse l D cI cO ad (-2 : Int32) S r4 S3 h2) (Nat.le_of_ble_eq_true rfl) ce0 rfl ⟨rfl, rfl⟩ q211 q213 q0 q59 q214 hd_X3_refuse ⟨Nat.le_of_ble_eq_true rfl, Nat.le_of_ble_eq_true rfl⟩ rfl hl.1 rfl (Nat.le_of_ble_eq_true rfl) dX3_over_12 (fun H locs hw => ?_)
    exact hfin _ _ _ _ _ _ hw (s2a hf) (s2b hf) (narI _) dX3_over_15
  · replace hf := if_f c1 hf
    refine lv_iload_n hx hb dX3_over_4 rfl (lv_at hl 1 rfl) ?_
    refine lv_iconst (v := 1) hx hb dX3_over_5 (by decide) ?_
    refine lv_icmp_le (tgt := 16) hx hb dX3_over_6 (by decide) (fun c5 => ?_) (fun c5 => ?_)
    · replace hf := if_t c5 hf
      refine lv_aload_n hx hb dX3_over_16 rfl (lv_at hl 0 rfl) ?_
      refine x_get X hw 0 (Nat.le_of_ble_eq_true rfl) ce0 rfl i_X3 3 (by decide) q185 ⟨rfl, rfl, rfl⟩ rfl dX3_over_17 ?_
      refine lv_aload_n hx hb dX3_over_20 rfl (lv_at hl 0 rfl) ?_
      refine x_get X hw 0 (Nat.le_of_ble_eq_true rfl) ce0 rfl i_X3 1 (by decide) q183 ⟨rfl, rfl, rfl⟩ rfl dX3_over_21 ?_
      obtain ⟨S7, h6, hf⟩ := b1_s hf
      refine kNv X hw (c_X1_reckon l D cI cO ad  S S7 h6) (Nat.le_of_ble_eq_true rfl) ce4 rfl ⟨rfl, rfl⟩ q365 q367 q7 q63 q368 hd_X1_reckon ⟨Nat.le_of_ble_eq_true rfl, Nat.le_of_ble_eq_true rfl⟩ rfl hl.1 rfl (Nat.le_of_ble_eq_true rfl) dX3_over_24 (fun H locs hw => ?_)
      refine lv_iload_n hx hb dX3_over_27 rfl (lv_at hl 1 rfl) ?_
      refine lv_if_ne (tgt := 41) hx hb dX3_over_28 (by decide) (fun c8 => ?_) (fun c8 => ?_)
      · replace hf := if_f c8 hf
        refine lv_aload_n hx hb dX3_over_41 rfl (lv_at hl 0 rfl) ?_
        refine x_get X hw 0 (Nat.le_of_ble_eq_true rfl) ce0 rfl i_X3 3 (by decide) q185 ⟨rfl, rfl, rfl⟩ rfl dX3_over_42 ?_
        refine x_getN X hw 4 (Nat.le_of_ble_eq_true rfl) ce4 rfl i_X1 8 (by decide) q158 ⟨rfl, rfl, rfl⟩ rfl dX3_over_45 ?_
        exact hfin _ _ _ _ _ _ hw (s2a hf) (s2b hf) (narI _) dX3_over_48
      · replace hf := if_t c8 hf
        refine lv_aload_n hx hb dX3_over_31 rfl (lv_at hl 0 rfl) ?_
        refine x_get X hw 0 (Nat.le_of_ble_eq_true rfl) ce0 rfl i_X3 3 (by decide) q185 ⟨rfl, rfl, rfl⟩ rfl dX3_over_32 ?_
        refine x_getN X hw 4 (Nat.le_of_ble_eq_true rfl) ce4 rfl i_X1 7 (by decide) q156 ⟨rfl, rfl, rfl⟩ rfl dX3_over_35 ?_
        refine lv_goto (tgt := 48) hx hb dX3_over_38 (by decide) ?_
        exact hfin _ _ _ _ _ _ hw (s2a hf) (s2b hf) (narI _) dX3_over_48
    · replace hf := if_f c5 hf
      refine lv_aload_n hx hb dX3_over_9 rfl (lv_at hl 0 rfl) ?_
      refine lv_bipush (v := -2) hx hb dX3_over_10 (by decide +kernel) ?_
      obtain ⟨r11, S10, h9, hf⟩ := b2_s hf
      refine kVi X hw (c_X3_refuse l D cI cO ad (-2 : Int32) S r11 S10 h9) (Nat.le_of_ble_eq_true rfl) ce0 rfl ⟨rfl, rfl⟩ q211 q213 q0 q59 q214 hd_X3_refuse ⟨Nat.le_of_ble_eq_true rfl, Nat.le_of_ble_eq_true rfl⟩ rfl hl.1 rfl (Nat.le_of_ble_eq_true rfl) dX3_over_12 (fun H locs hw => ?_)
      exact hfin _ _ _ _ _ _ hw (s2a hf) (s2b hf) (narI _) dX3_over_15
/-- NineLands.alone(II)I -/
theorem dX3_alone_0 : decode cX3_alone 0 = .ok (.iload_n 1, 1) := by decide +kernel
theorem dX3_alone_1 : decode cX3_alone 1 = .ok (.invokestatic 78, 3) := by decide +kernel
theorem dX3_alone_4 : decode cX3_alone 4 = .ok (.ifCond .ne 9, 3) := by decide +kernel
theorem dX3_alone_7 : decode cX3_alone 7 = .ok (.aload_n 0, 1) := by decide +kernel
theorem dX3_alone_8 : decode cX3_alone 8 = .ok (.iconst (-1), 1) := by decide +kernel
theorem dX3_alone_9 : decode cX3_alone 9 = .ok (.invokevirtual 48, 3) := by decide +kernel
theorem dX3_alone_12 : decode cX3_alone 12 = .ok (.ireturn, 1) := by decide +kernel
theorem dX3_alone_13 : decode cX3_alone 13 = .ok (.iload_n 2, 1) := by decide +kernel
theorem dX3_alone_14 : decode cX3_alone 14 = .ok (.invokestatic 87, 3) := by decide +kernel
theorem dX3_alone_17 : decode cX3_alone 17 = .ok (.ifCond .ne 10, 3) := by decide +kernel
theorem dX3_alone_20 : decode cX3_alone 20 = .ok (.aload_n 0, 1) := by decide +kernel
theorem dX3_alone_21 : decode cX3_alone 21 = .ok (.bipush (-2), 2) := by decide +kernel
theorem dX3_alone_23 : decode cX3_alone 23 = .ok (.invokevirtual 48, 3) := by decide +kernel
theorem dX3_alone_26 : decode cX3_alone 26 = .ok (.ireturn, 1) := by decide +kernel
theorem dX3_alone_27 : decode cX3_alone 27 = .ok (.aload_n 0, 1) := by decide +kernel
theorem dX3_alone_28 : decode cX3_alone 28 = .ok (.getfield 29, 3) := by decide +kernel
theorem dX3_alone_31 : decode cX3_alone 31 = .ok (.aload_n 0, 1) := by decide +kernel
theorem dX3_alone_32 : decode cX3_alone 32 = .ok (.getfield 19, 3) := by decide +kernel
theorem dX3_alone_35 : decode cX3_alone 35 = .ok (.invokevirtual 96, 3) := by decide +kernel
theorem dX3_alone_38 : decode cX3_alone 38 = .ok (.aload_n 0, 1) := by decide +kernel
theorem dX3_alone_39 : decode cX3_alone 39 = .ok (.getfield 29, 3) := by decide +kernel
theorem dX3_alone_42 : decode cX3_alone 42 = .ok (.aload_n 0, 1) := by decide +kernel
theorem dX3_alone_43 : decode cX3_alone 43 = .ok (.getfield 19, 3) := by decide +kernel
theorem dX3_alone_46 : decode cX3_alone 46 = .ok (.iload_n 1, 1) := by decide +kernel
theorem dX3_alone_47 : decode cX3_alone 47 = .ok (.iload_n 2, 1) := by decide +kernel
theorem dX3_alone_48 : decode cX3_alone 48 = .ok (.iconst 0, 1) := by decide +kernel
theorem dX3_alone_49 : decode cX3_alone 49 = .ok (.invokevirtual 122, 3) := by decide +kernel
theorem dX3_alone_52 : decode cX3_alone 52 = .ok (.ireturn, 1) := by decide +kernel
theorem hd_X3_alone : yX3_alone.cls ≠ "java/lang/invoke/MethodHandle" ∧ yX3_alone.cls ≠ "java/lang/invoke/VarHandle" ∧ (parseMethodDescriptor yX3_alone.desc).map (fun d => d.parameters.length) = some 2 := by decide +kernel
def f_X3_alone (a1 : Int32) (a2 : Int32) (S : vS) : Option (Int32 × vS) := b1 (f_X3_isLand a1 S) fun r2 => if r2 = 0 then b2 (f_X3_refuse (-1 : Int32) S) fun r16 S15 => some (r16, S15) else b1 (f_X3_isKind a2 S) fun r5 => if r5 = 0 then b2 (f_X3_refuse (-2 : Int32) S) fun r13 S12 => some (r13, S12) else b1 (f_X1_reckon  S) fun S8 => b1 (f_X1_dueBy a1 a2 (0 : Int32) S8) fun r10 => some (r10, S8)
set_option maxHeartbeats 4000000 in
set_option maxRecDepth 20000 in
theorem c_X3_alone (l : Launch) (D : va_G) (cI cO : ClassId) (ad : Nat → Nat) (a1 : Int32) (a2 : Int32) (S : vS) (R9 : Int32) (S9 : vS) (hf : f_X3_alone a1 a2 S = some (R9, S9)) : CI l yX3_alone cX3_alone 3 .int ({ frames := 5, cells := 0, slots := 0, locals := 116 }) [.ref (ad 0), .int a1, .int a2] D cI cO ad S R9 S9 := by
  refine CI.of (by decide +kernel) (Nat.le_of_ble_eq_true rfl) (fun p e s m args below meth c Q ls X hl hw hfin => ?_)
  have hl : lv_has ls 3 [(0, .ref (ad 0)), (1, .int a1), (2, .int a2)] := hl
  have hx := X.1
  have hb := X.2.1
  unfold f_X3_alone at hf
  refine lv_iload_n hx hb dX3_alone_0 rfl (lv_at hl 1 rfl) ?_
  obtain ⟨r2, h1, hf⟩ := b1_s hf
  refine kSi X hw (c_X3_isLand l D cI cO ad a1 S r2 h1) ⟨rfl, rfl⟩ q345 q346 q59 q347 hd_X3_isLand ⟨Nat.le_of_ble_eq_true rfl, Nat.le_of_ble_eq_true rfl⟩ rfl hl.1 rfl (Nat.le_of_ble_eq_true rfl) dX3_alone_1 (fun H locs hw => ?_)
  refine lv_if_ne (tgt := 13) hx hb dX3_alone_4 (by decide) (fun c3 => ?_) (fun c3 => ?_)
  · replace hf := if_f c3 hf
    refine lv_iload_n hx hb dX3_alone_13 rfl (lv_at hl 2 rfl) ?_
    obtain ⟨r5, h4, hf⟩ := b1_s hf
    refine kSi X hw (c_X3_isKind l D cI cO ad a2 S r5 h4) ⟨rfl, rfl⟩ q354 q355 q59 q356 hd_X3_isKind ⟨Nat.le_of_ble_eq_true rfl, Nat.le_of_ble_eq_true rfl⟩ rfl hl.1 rfl (Nat.le_of_ble_eq_true rfl) dX3_alone_14 (fun H locs hw => ?_)
    refine lv_if_ne (tgt := 27) hx hb dX3_alone_17 (by decide) (fun c6 => ?_) (fun c6 => ?_)
    · replace hf := if_f c6 hf
      refine lv_aload_n hx hb dX3_alone_27 rfl (lv_at hl 0 rfl) ?_
      refine x_get X hw 0 (Nat.le_of_ble_eq_true rfl) ce0 rfl i_X3 3 (by decide) q185 ⟨rfl, rfl, rfl⟩ rfl dX3_alone_28 ?_
      refine lv_aload_n hx hb dX3_alone_31 rfl (lv_at hl 0 rfl) ?_
      refine x_get X hw 0 (Nat.le_of_ble_eq_true rfl) ce0 rfl i_X3 1 (by decide) q183 ⟨rfl, rfl, rfl⟩ rfl dX3_alone_32 ?_
      obtain ⟨S8, h7, hf⟩ := b1_s hf
      refine kNv X hw (c_X1_reckon l D cI cO ad  S S8 h7) (Nat.le_of_ble_eq_true rfl) ce4 rfl ⟨rfl, rfl⟩ q365 q367 q7 q63 q368 hd_X1_reckon ⟨Nat.le_of_ble_eq_true rfl, Nat.le_of_ble_eq_true rfl⟩ rfl hl.1 rfl (Nat.le_of_ble_eq_true rfl) dX3_alone_35 (fun H locs hw => ?_)
      refine lv_aload_n hx hb dX3_alone_38 rfl (lv_at hl 0 rfl) ?_
      refine x_get X hw 0 (Nat.le_of_ble_eq_true rfl) ce0 rfl i_X3 3 (by decide) q185 ⟨rfl, rfl, rfl⟩ rfl dX3_alone_39 ?_
      refine lv_aload_n hx hb dX3_alone_42 rfl (lv_at hl 0 rfl) ?_
      refine x_get X hw 0 (Nat.le_of_ble_eq_true rfl) ce0 rfl i_X3 1 (by decide) q183 ⟨rfl, rfl, rfl⟩ rfl dX3_alone_43 ?_
      refine lv_iload_n hx hb dX3_alone_46 rfl (lv_at hl 1 rfl) ?_
      refine lv_iload_n hx hb dX3_alone_47 rfl (lv_at hl 2 rfl) ?_
      refine lv_iconst (v := 0) hx hb dX3_alone_48 (by decide) ?_
      obtain ⟨r10, h9, hf⟩ := b1_s hf
      refine kNi X hw (c_X1_dueBy l D cI cO ad a1 a2 (0 : Int32) S8 r10 h9) (Nat.le_of_ble_eq_true rfl) ce4 rfl ⟨rfl, rfl⟩ q427 q429 q18 q63 q430 hd_X1_dueBy ⟨Nat.le_of_ble_eq_true rfl, Nat.le_of_ble_eq_true rfl⟩ rfl hl.1 rfl (Nat.le_of_ble_eq_true rfl) dX3_alone_49 (fun H locs hw => ?_)
      exact hfin _ _ _ _ _ _ hw (s2a hf) (s2b hf) (narI _) dX3_alone_52
    · replace hf := if_t c6 hf
      refine lv_aload_n hx hb dX3_alone_20 rfl (lv_at hl 0 rfl) ?_
      refine lv_bipush (v := -2) hx hb dX3_alone_21 (by decide +kernel) ?_
      obtain ⟨r13, S12, h11, hf⟩ := b2_s hf
      refine kVi X hw (c_X3_refuse l D cI cO ad (-2 : Int32) S r13 S12 h11) (Nat.le_of_ble_eq_true rfl) ce0 rfl ⟨rfl, rfl⟩ q211 q213 q0 q59 q214 hd_X3_refuse ⟨Nat.le_of_ble_eq_true rfl, Nat.le_of_ble_eq_true rfl⟩ rfl hl.1 rfl (Nat.le_of_ble_eq_true rfl) dX3_alone_23 (fun H locs hw => ?_)
      exact hfin _ _ _ _ _ _ hw (s2a hf) (s2b hf) (narI _) dX3_alone_26
  · replace hf := if_t c3 hf
    refine lv_aload_n hx hb dX3_alone_7 rfl (lv_at hl 0 rfl) ?_
    refine lv_iconst (v := -1) hx hb dX3_alone_8 (by decide) ?_
    obtain ⟨r16, S15, h14, hf⟩ := b2_s hf
    refine kVi X hw (c_X3_refuse l D cI cO ad (-1 : Int32) S r16 S15 h14) (Nat.le_of_ble_eq_true rfl) ce0 rfl ⟨rfl, rfl⟩ q211 q213 q0 q59 q214 hd_X3_refuse ⟨Nat.le_of_ble_eq_true rfl, Nat.le_of_ble_eq_true rfl⟩ rfl hl.1 rfl (Nat.le_of_ble_eq_true rfl) dX3_alone_9 (fun H locs hw => ?_)
    exact hfin _ _ _ _ _ _ hw (s2a hf) (s2b hf) (narI _) dX3_alone_12
/-- NineLands.lacks(IZ)I -/
theorem dX3_lacks_0 : decode cX3_lacks 0 = .ok (.iload_n 1, 1) := by decide +kernel
theorem dX3_lacks_1 : decode cX3_lacks 1 = .ok (.invokestatic 78, 3) := by decide +kernel
theorem dX3_lacks_4 : decode cX3_lacks 4 = .ok (.ifCond .ne 9, 3) := by decide +kernel
theorem dX3_lacks_7 : decode cX3_lacks 7 = .ok (.aload_n 0, 1) := by decide +kernel
theorem dX3_lacks_8 : decode cX3_lacks 8 = .ok (.iconst (-1), 1) := by decide +kernel
theorem dX3_lacks_9 : decode cX3_lacks 9 = .ok (.invokevirtual 48, 3) := by decide +kernel
theorem dX3_lacks_12 : decode cX3_lacks 12 = .ok (.ireturn, 1) := by decide +kernel
theorem dX3_lacks_13 : decode cX3_lacks 13 = .ok (.aload_n 0, 1) := by decide +kernel
theorem dX3_lacks_14 : decode cX3_lacks 14 = .ok (.getfield 29, 3) := by decide +kernel
theorem dX3_lacks_17 : decode cX3_lacks 17 = .ok (.aload_n 0, 1) := by decide +kernel
theorem dX3_lacks_18 : decode cX3_lacks 18 = .ok (.getfield 19, 3) := by decide +kernel
theorem dX3_lacks_21 : decode cX3_lacks 21 = .ok (.invokevirtual 96, 3) := by decide +kernel
theorem dX3_lacks_24 : decode cX3_lacks 24 = .ok (.iload_n 2, 1) := by decide +kernel
theorem dX3_lacks_25 : decode cX3_lacks 25 = .ok (.ifCond .eq 15, 3) := by decide +kernel
theorem dX3_lacks_28 : decode cX3_lacks 28 = .ok (.aload_n 0, 1) := by decide +kernel
theorem dX3_lacks_29 : decode cX3_lacks 29 = .ok (.getfield 29, 3) := by decide +kernel
theorem dX3_lacks_32 : decode cX3_lacks 32 = .ok (.getfield 106, 3) := by decide +kernel
theorem dX3_lacks_35 : decode cX3_lacks 35 = .ok (.iload_n 1, 1) := by decide +kernel
theorem dX3_lacks_36 : decode cX3_lacks 36 = .ok (.iaload, 1) := by decide +kernel
theorem dX3_lacks_37 : decode cX3_lacks 37 = .ok (.goto 12, 3) := by decide +kernel
theorem dX3_lacks_40 : decode cX3_lacks 40 = .ok (.aload_n 0, 1) := by decide +kernel
theorem dX3_lacks_41 : decode cX3_lacks 41 = .ok (.getfield 29, 3) := by decide +kernel
theorem dX3_lacks_44 : decode cX3_lacks 44 = .ok (.getfield 100, 3) := by decide +kernel
theorem dX3_lacks_47 : decode cX3_lacks 47 = .ok (.iload_n 1, 1) := by decide +kernel
theorem dX3_lacks_48 : decode cX3_lacks 48 = .ok (.iaload, 1) := by decide +kernel
theorem dX3_lacks_49 : decode cX3_lacks 49 = .ok (.istore_n 3, 1) := by decide +kernel
theorem dX3_lacks_50 : decode cX3_lacks 50 = .ok (.iconst 0, 1) := by decide +kernel
theorem dX3_lacks_51 : decode cX3_lacks 51 = .ok (.iconst 1, 1) := by decide +kernel
theorem dX3_lacks_52 : decode cX3_lacks 52 = .ok (.aload_n 0, 1) := by decide +kernel
theorem dX3_lacks_53 : decode cX3_lacks 53 = .ok (.getfield 19, 3) := by decide +kernel
theorem dX3_lacks_56 : decode cX3_lacks 56 = .ok (.getfield 84, 3) := by decide +kernel
theorem dX3_lacks_59 : decode cX3_lacks 59 = .ok (.iload_n 1, 1) := by decide +kernel
theorem dX3_lacks_60 : decode cX3_lacks 60 = .ok (.aaload, 1) := by decide +kernel
theorem dX3_lacks_61 : decode cX3_lacks 61 = .ok (.iconst 0, 1) := by decide +kernel
theorem dX3_lacks_62 : decode cX3_lacks 62 = .ok (.iaload, 1) := by decide +kernel
theorem dX3_lacks_63 : decode cX3_lacks 63 = .ok (.invokestatic 126, 3) := by decide +kernel
theorem dX3_lacks_66 : decode cX3_lacks 66 = .ok (.iload_n 3, 1) := by decide +kernel
theorem dX3_lacks_67 : decode cX3_lacks 67 = .ok (.isub, 1) := by decide +kernel
theorem dX3_lacks_68 : decode cX3_lacks 68 = .ok (.invokestatic 126, 3) := by decide +kernel
theorem dX3_lacks_71 : decode cX3_lacks 71 = .ok (.ireturn, 1) := by decide +kernel
theorem hd_X3_lacks : yX3_lacks.cls ≠ "java/lang/invoke/MethodHandle" ∧ yX3_lacks.cls ≠ "java/lang/invoke/VarHandle" ∧ (parseMethodDescriptor yX3_lacks.desc).map (fun d => d.parameters.length) = some 2 := by decide +kernel
def f_X3_lacks_J49 (x1 : Int32) (k0 : Int32) (S : vS) : Option (Int32 × vS) := if inb x1 6 = true then some ((mx (0 : Int32) ((mx (1 : Int32) (S (54 + x1.toNatClampNeg) 0)) - k0)), S) else none
def f_X3_lacks (a1 : Int32) (a2 : Int32) (S : vS) : Option (Int32 × vS) := b1 (f_X3_isLand a1 S) fun r2 => if r2 = 0 then b2 (f_X3_refuse (-1 : Int32) S) fun r12 S11 => some (r12, S11) else b1 (f_X1_reckon  S) fun S5 => if a2 = 0 then if inb a1 6 = true then f_X3_lacks_J49 a1 (S5 26 (a1.toNatClampNeg)) S5 else none else if inb a1 6 = true then f_X3_lacks_J49 a1 (S5 28 (a1.toNatClampNeg)) S5 else none
set_option maxHeartbeats 4000000 in
set_option maxRecDepth 20000 in
theorem c_X3_lacks (l : Launch) (D : va_G) (cI cO : ClassId) (ad : Nat → Nat) (a1 : Int32) (a2 : Int32) (S : vS) (R9 : Int32) (S9 : vS) (hf : f_X3_lacks a1 a2 S = some (R9, S9)) : CI l yX3_lacks cX3_lacks 4 .int ({ frames := 4, cells := 0, slots := 0, locals := 97 }) [.ref (ad 0), .int a1, .int a2] D cI cO ad S R9 S9 := by
  refine CI.of (by decide +kernel) (Nat.le_of_ble_eq_true rfl) (fun p e s m args below meth c Q ls X hl hw hfin => ?_)
  have hl : lv_has ls 4 [(0, .ref (ad 0)), (1, .int a1), (2, .int a2)] := hl
  have hx := X.1
  have hb := X.2.1
  have J49 : ∀ (x1 : Int32) (k0 : Int32) (S : vS), f_X3_lacks_J49 x1 k0 S = some (R9, S9) → ∀ (H : Heap) (locs : List Loc) (ls : Array Slot), WD D cI cO ad s S H locs → lv_has ls 4 [(0, .ref (ad 0)), (1, .int x1)] → W p l e ({ frames := 4, cells := 0, slots := 0, locals := 97 }) s m args below meth c H locs 0 0 Q (F0 m 49 ls [.int k0]) := by
    intro x1 k0 S hf H locs ls hw hl
    unfold f_X3_lacks_J49 at hf
    refine lv_istore_n (lv' := [(3, .int k0), (0, .ref (ad 0)), (1, .int x1)]) hx hb dX3_lacks_49 rfl hl (by decide) rfl (fun ls hl => ?_)
    refine lv_iconst (v := 0) hx hb dX3_lacks_50 (by decide) ?_
    refine lv_iconst (v := 1) hx hb dX3_lacks_51 (by decide) ?_
    refine lv_aload_n hx hb dX3_lacks_52 rfl (lv_at hl 1 rfl) ?_
    refine x_get X hw 0 (Nat.le_of_ble_eq_true rfl) ce0 rfl i_X3 1 (by decide) q183 ⟨rfl, rfl, rfl⟩ rfl dX3_lacks_53 ?_
    refine x_getN X hw 2 (Nat.le_of_ble_eq_true rfl) ce2 rfl i_X0 1 (by decide) q116 ⟨rfl, rfl, rfl⟩ rfl dX3_lacks_56 ?_
    refine lv_iload_n hx hb dX3_lacks_59 rfl (lv_at hl 2 rfl) ?_
    obtain ⟨h8, hf⟩ := if_s hf
    refine x_aald X hw 7 (Nat.le_of_ble_eq_true rfl) ce7 h8 rfl dX3_lacks_60 ?_
    refine lv_iconst (v := 0) hx hb dX3_lacks_61 (by decide) ?_
    refine x_iald X hw (54 + x1.toNatClampNeg) (have q9 := inb_lt h8; ⟨by omega, by omega⟩) (alen_54 (inb_lt h8)) (by decide) 0 (by decide) dX3_lacks_62 ?_
    refine x_max X hl.1 q454 q258 q67 q259 (Nat.le_of_ble_eq_true rfl) (Nat.le_of_ble_eq_true rfl) dX3_lacks_63 ?_
    refine lv_iload_n hx hb dX3_lacks_66 rfl (lv_at hl 0 rfl) ?_
    refine lv_isub hx hb dX3_lacks_67 ?_
    refine x_max X hl.1 q454 q258 q67 q259 (Nat.le_of_ble_eq_true rfl) (Nat.le_of_ble_eq_true rfl) dX3_lacks_68 ?_
    exact hfin _ _ _ _ _ _ hw (s2a hf) (s2b hf) (narI _) dX3_lacks_71
  unfold f_X3_lacks at hf
  refine lv_iload_n hx hb dX3_lacks_0 rfl (lv_at hl 1 rfl) ?_
  obtain ⟨r2, h1, hf⟩ := b1_s hf
  refine kSi X hw (c_X3_isLand l D cI cO ad a1 S r2 h1) ⟨rfl, rfl⟩ q345 q346 q59 q347 hd_X3_isLand ⟨Nat.le_of_ble_eq_true rfl, Nat.le_of_ble_eq_true rfl⟩ rfl hl.1 rfl (Nat.le_of_ble_eq_true rfl) dX3_lacks_1 (fun H locs hw => ?_)
  refine lv_if_ne (tgt := 13) hx hb dX3_lacks_4 (by decide) (fun c3 => ?_) (fun c3 => ?_)
  · replace hf := if_f c3 hf
    refine lv_aload_n hx hb dX3_lacks_13 rfl (lv_at hl 0 rfl) ?_
    refine x_get X hw 0 (Nat.le_of_ble_eq_true rfl) ce0 rfl i_X3 3 (by decide) q185 ⟨rfl, rfl, rfl⟩ rfl dX3_lacks_14 ?_
    refine lv_aload_n hx hb dX3_lacks_17 rfl (lv_at hl 0 rfl) ?_
    refine x_get X hw 0 (Nat.le_of_ble_eq_true rfl) ce0 rfl i_X3 1 (by decide) q183 ⟨rfl, rfl, rfl⟩ rfl dX3_lacks_18 ?_
    obtain ⟨S5, h4, hf⟩ := b1_s hf
    refine kNv X hw (c_X1_reckon l D cI cO ad  S S5 h4) (Nat.le_of_ble_eq_true rfl) ce4 rfl ⟨rfl, rfl⟩ q365 q367 q7 q63 q368 hd_X1_reckon ⟨Nat.le_of_ble_eq_true rfl, Nat.le_of_ble_eq_true rfl⟩ rfl hl.1 rfl (Nat.le_of_ble_eq_true rfl) dX3_lacks_21 (fun H locs hw => ?_)
    refine lv_iload_n hx hb dX3_lacks_24 rfl (lv_at hl 2 rfl) ?_
    refine lv_if_eq (tgt := 40) hx hb dX3_lacks_25 (by decide) (fun c6 => ?_) (fun c6 => ?_)
    · replace hf := if_t c6 hf
      refine lv_aload_n hx hb dX3_lacks_40 rfl (lv_at hl 0 rfl) ?_
      refine x_get X hw 0 (Nat.le_of_ble_eq_true rfl) ce0 rfl i_X3 3 (by decide) q185 ⟨rfl, rfl, rfl⟩ rfl dX3_lacks_41 ?_
      refine x_getN X hw 4 (Nat.le_of_ble_eq_true rfl) ce4 rfl i_X1 1 (by decide) q145 ⟨rfl, rfl, rfl⟩ rfl dX3_lacks_44 ?_
      refine lv_iload_n hx hb dX3_lacks_47 rfl (lv_at hl 1 rfl) ?_
      obtain ⟨h7, hf⟩ := if_s hf
      refine x_iald X hw 26 ⟨Nat.le_of_ble_eq_true rfl, Nat.le_of_ble_eq_true rfl⟩ rfl h7 (a1.toNatClampNeg) rfl dX3_lacks_48 ?_
      exact J49 a1 (S5 26 (a1.toNatClampNeg)) S5 hf _ _ _ hw (lv_sub hl [0, 1] rfl)
    · replace hf := if_f c6 hf
      refine lv_aload_n hx hb dX3_lacks_28 rfl (lv_at hl 0 rfl) ?_
      refine x_get X hw 0 (Nat.le_of_ble_eq_true rfl) ce0 rfl i_X3 3 (by decide) q185 ⟨rfl, rfl, rfl⟩ rfl dX3_lacks_29 ?_
      refine x_getN X hw 4 (Nat.le_of_ble_eq_true rfl) ce4 rfl i_X1 3 (by decide) q149 ⟨rfl, rfl, rfl⟩ rfl dX3_lacks_32 ?_
      refine lv_iload_n hx hb dX3_lacks_35 rfl (lv_at hl 1 rfl) ?_
      obtain ⟨h9, hf⟩ := if_s hf
      refine x_iald X hw 28 ⟨Nat.le_of_ble_eq_true rfl, Nat.le_of_ble_eq_true rfl⟩ rfl h9 (a1.toNatClampNeg) rfl dX3_lacks_36 ?_
      refine lv_goto (tgt := 49) hx hb dX3_lacks_37 (by decide) ?_
      exact J49 a1 (S5 28 (a1.toNatClampNeg)) S5 hf _ _ _ hw (lv_sub hl [0, 1] rfl)
  · replace hf := if_t c3 hf
    refine lv_aload_n hx hb dX3_lacks_7 rfl (lv_at hl 0 rfl) ?_
    refine lv_iconst (v := -1) hx hb dX3_lacks_8 (by decide) ?_
    obtain ⟨r12, S11, h10, hf⟩ := b2_s hf
    refine kVi X hw (c_X3_refuse l D cI cO ad (-1 : Int32) S r12 S11 h10) (Nat.le_of_ble_eq_true rfl) ce0 rfl ⟨rfl, rfl⟩ q211 q213 q0 q59 q214 hd_X3_refuse ⟨Nat.le_of_ble_eq_true rfl, Nat.le_of_ble_eq_true rfl⟩ rfl hl.1 rfl (Nat.le_of_ble_eq_true rfl) dX3_lacks_9 (fun H locs hw => ?_)
    exact hfin _ _ _ _ _ _ hw (s2a hf) (s2b hf) (narI _) dX3_lacks_12
/-- NineLands.owed(I)I -/
theorem dX3_owed_0 : decode cX3_owed 0 = .ok (.iload_n 1, 1) := by decide +kernel
theorem dX3_owed_1 : decode cX3_owed 1 = .ok (.invokestatic 78, 3) := by decide +kernel
theorem dX3_owed_4 : decode cX3_owed 4 = .ok (.ifCond .ne 9, 3) := by decide +kernel
theorem dX3_owed_7 : decode cX3_owed 7 = .ok (.aload_n 0, 1) := by decide +kernel
theorem dX3_owed_8 : decode cX3_owed 8 = .ok (.iconst (-1), 1) := by decide +kernel
theorem dX3_owed_9 : decode cX3_owed 9 = .ok (.invokevirtual 48, 3) := by decide +kernel
theorem dX3_owed_12 : decode cX3_owed 12 = .ok (.ireturn, 1) := by decide +kernel
theorem dX3_owed_13 : decode cX3_owed 13 = .ok (.aload_n 0, 1) := by decide +kernel
theorem dX3_owed_14 : decode cX3_owed 14 = .ok (.invokevirtual 131, 3) := by decide +kernel
theorem dX3_owed_17 : decode cX3_owed 17 = .ok (.pop, 1) := by decide +kernel
theorem dX3_owed_18 : decode cX3_owed 18 = .ok (.aload_n 0, 1) := by decide +kernel
theorem dX3_owed_19 : decode cX3_owed 19 = .ok (.getfield 29, 3) := by decide +kernel
theorem dX3_owed_22 : decode cX3_owed 22 = .ok (.getfield 135, 3) := by decide +kernel
theorem dX3_owed_25 : decode cX3_owed 25 = .ok (.iload_n 1, 1) := by decide +kernel
theorem dX3_owed_26 : decode cX3_owed 26 = .ok (.iaload, 1) := by decide +kernel
theorem dX3_owed_27 : decode cX3_owed 27 = .ok (.ireturn, 1) := by decide +kernel
theorem hd_X3_owed : yX3_owed.cls ≠ "java/lang/invoke/MethodHandle" ∧ yX3_owed.cls ≠ "java/lang/invoke/VarHandle" ∧ (parseMethodDescriptor yX3_owed.desc).map (fun d => d.parameters.length) = some 1 := by decide +kernel
def f_X3_owed (a1 : Int32) (S : vS) : Option (Int32 × vS) := b1 (f_X3_isLand a1 S) fun r2 => if r2 = 0 then b2 (f_X3_refuse (-1 : Int32) S) fun r10 S9 => some (r10, S9) else b2 (f_X3_owedByAll  S) fun r6 S5 => if inb a1 6 = true then some ((S5 31 (a1.toNatClampNeg)), S5) else none
set_option maxHeartbeats 4000000 in
set_option maxRecDepth 20000 in
theorem c_X3_owed (l : Launch) (D : va_G) (cI cO : ClassId) (ad : Nat → Nat) (a1 : Int32) (S : vS) (R9 : Int32) (S9 : vS) (hf : f_X3_owed a1 S = some (R9, S9)) : CI l yX3_owed cX3_owed 2 .int ({ frames := 6, cells := 0, slots := 0, locals := 133 }) [.ref (ad 0), .int a1] D cI cO ad S R9 S9 := by
  refine CI.of (by decide +kernel) (Nat.le_of_ble_eq_true rfl) (fun p e s m args below meth c Q ls X hl hw hfin => ?_)
  have hl : lv_has ls 2 [(0, .ref (ad 0)), (1, .int a1)] := hl
  have hx := X.1
  have hb := X.2.1
  unfold f_X3_owed at hf
  refine lv_iload_n hx hb dX3_owed_0 rfl (lv_at hl 1 rfl) ?_
  obtain ⟨r2, h1, hf⟩ := b1_s hf
  refine kSi X hw (c_X3_isLand l D cI cO ad a1 S r2 h1) ⟨rfl, rfl⟩ q345 q346 q59 q347 hd_X3_isLand ⟨Nat.le_of_ble_eq_true rfl, Nat.le_of_ble_eq_true rfl⟩ rfl hl.1 rfl (Nat.le_of_ble_eq_true rfl) dX3_owed_1 (fun H locs hw => ?_)
  refine lv_if_ne (tgt := 13) hx hb dX3_owed_4 (by decide) (fun c3 => ?_) (fun c3 => ?_)
  · replace hf := if_f c3 hf
    refine lv_aload_n hx hb dX3_owed_13 rfl (lv_at hl 0 rfl) ?_
    obtain ⟨r6, S5, h4, hf⟩ := b2_s hf
    refine kVi X hw (c_X3_owedByAll l D cI cO ad  S r6 S5 h4) (Nat.le_of_ble_eq_true rfl) ce0 rfl ⟨rfl, rfl⟩ q459 q461 q21 q59 q462 hd_X3_owedByAll ⟨Nat.le_of_ble_eq_true rfl, Nat.le_of_ble_eq_true rfl⟩ rfl hl.1 rfl (Nat.le_of_ble_eq_true rfl) dX3_owed_14 (fun H locs hw => ?_)
    refine lv_pop hx hb dX3_owed_17 rfl ?_
    refine lv_aload_n hx hb dX3_owed_18 rfl (lv_at hl 0 rfl) ?_
    refine x_get X hw 0 (Nat.le_of_ble_eq_true rfl) ce0 rfl i_X3 3 (by decide) q185 ⟨rfl, rfl, rfl⟩ rfl dX3_owed_19 ?_
    refine x_getN X hw 4 (Nat.le_of_ble_eq_true rfl) ce4 rfl i_X1 6 (by decide) q154 ⟨rfl, rfl, rfl⟩ rfl dX3_owed_22 ?_
    refine lv_iload_n hx hb dX3_owed_25 rfl (lv_at hl 1 rfl) ?_
    obtain ⟨h7, hf⟩ := if_s hf
    refine x_iald X hw 31 ⟨Nat.le_of_ble_eq_true rfl, Nat.le_of_ble_eq_true rfl⟩ rfl h7 (a1.toNatClampNeg) rfl dX3_owed_26 ?_
    exact hfin _ _ _ _ _ _ hw (s2a hf) (s2b hf) (narI _) dX3_owed_27
  · replace hf := if_t c3 hf
    refine lv_aload_n hx hb dX3_owed_7 rfl (lv_at hl 0 rfl) ?_
    refine lv_iconst (v := -1) hx hb dX3_owed_8 (by decide) ?_
    obtain ⟨r10, S9, h8, hf⟩ := b2_s hf
    refine kVi X hw (c_X3_refuse l D cI cO ad (-1 : Int32) S r10 S9 h8) (Nat.le_of_ble_eq_true rfl) ce0 rfl ⟨rfl, rfl⟩ q211 q213 q0 q59 q214 hd_X3_refuse ⟨Nat.le_of_ble_eq_true rfl, Nat.le_of_ble_eq_true rfl⟩ rfl hl.1 rfl (Nat.le_of_ble_eq_true rfl) dX3_owed_9 (fun H locs hw => ?_)
    exact hfin _ _ _ _ _ _ hw (s2a hf) (s2b hf) (narI _) dX3_owed_12
/-- NineLands.rests()I -/
theorem dX3_rests_0 : decode cX3_rests 0 = .ok (.aload_n 0, 1) := by decide +kernel
theorem dX3_rests_1 : decode cX3_rests 1 = .ok (.invokevirtual 131, 3) := by decide +kernel
theorem dX3_rests_4 : decode cX3_rests 4 = .ok (.pop, 1) := by decide +kernel
theorem dX3_rests_5 : decode cX3_rests 5 = .ok (.aload_n 0, 1) := by decide +kernel
theorem dX3_rests_6 : decode cX3_rests 6 = .ok (.getfield 29, 3) := by decide +kernel
theorem dX3_rests_9 : decode cX3_rests 9 = .ok (.getfield 138, 3) := by decide +kernel
theorem dX3_rests_12 : decode cX3_rests 12 = .ok (.ifCond .eq 7, 3) := by decide +kernel
theorem dX3_rests_15 : decode cX3_rests 15 = .ok (.iconst 1, 1) := by decide +kernel
theorem dX3_rests_16 : decode cX3_rests 16 = .ok (.goto 4, 3) := by decide +kernel
theorem dX3_rests_19 : decode cX3_rests 19 = .ok (.iconst 0, 1) := by decide +kernel
theorem dX3_rests_20 : decode cX3_rests 20 = .ok (.ireturn, 1) := by decide +kernel
theorem hd_X3_rests : yX3_rests.cls ≠ "java/lang/invoke/MethodHandle" ∧ yX3_rests.cls ≠ "java/lang/invoke/VarHandle" ∧ (parseMethodDescriptor yX3_rests.desc).map (fun d => d.parameters.length) = some 0 := by decide +kernel
def f_X3_rests  (S : vS) : Option (Int32 × vS) := b2 (f_X3_owedByAll  S) fun r3 S2 => if (S2 0 16) = 0 then some ((0 : Int32), S2) else some ((1 : Int32), S2)
set_option maxHeartbeats 4000000 in
set_option maxRecDepth 20000 in
theorem c_X3_rests (l : Launch) (D : va_G) (cI cO : ClassId) (ad : Nat → Nat)  (S : vS) (R9 : Int32) (S9 : vS) (hf : f_X3_rests  S = some (R9, S9)) : CI l yX3_rests cX3_rests 1 .int ({ frames := 6, cells := 0, slots := 0, locals := 133 }) [.ref (ad 0)] D cI cO ad S R9 S9 := by
  refine CI.of (by decide +kernel) (Nat.le_of_ble_eq_true rfl) (fun p e s m args below meth c Q ls X hl hw hfin => ?_)
  have hl : lv_has ls 1 [(0, .ref (ad 0))] := hl
  have hx := X.1
  have hb := X.2.1
  unfold f_X3_rests at hf
  refine lv_aload_n hx hb dX3_rests_0 rfl (lv_at hl 0 rfl) ?_
  obtain ⟨r3, S2, h1, hf⟩ := b2_s hf
  refine kVi X hw (c_X3_owedByAll l D cI cO ad  S r3 S2 h1) (Nat.le_of_ble_eq_true rfl) ce0 rfl ⟨rfl, rfl⟩ q459 q461 q21 q59 q462 hd_X3_owedByAll ⟨Nat.le_of_ble_eq_true rfl, Nat.le_of_ble_eq_true rfl⟩ rfl hl.1 rfl (Nat.le_of_ble_eq_true rfl) dX3_rests_1 (fun H locs hw => ?_)
  refine lv_pop hx hb dX3_rests_4 rfl ?_
  refine lv_aload_n hx hb dX3_rests_5 rfl (lv_at hl 0 rfl) ?_
  refine x_get X hw 0 (Nat.le_of_ble_eq_true rfl) ce0 rfl i_X3 3 (by decide) q185 ⟨rfl, rfl, rfl⟩ rfl dX3_rests_6 ?_
  refine x_getN X hw 4 (Nat.le_of_ble_eq_true rfl) ce4 rfl i_X1 9 (by decide) q160 ⟨rfl, rfl, rfl⟩ rfl dX3_rests_9 ?_
  refine lv_if_eq (tgt := 19) hx hb dX3_rests_12 (by decide) (fun c4 => ?_) (fun c4 => ?_)
  · replace hf := if_t c4 hf
    refine lv_iconst (v := 0) hx hb dX3_rests_19 (by decide) ?_
    exact hfin _ _ _ _ _ _ hw (s2a hf) (s2b hf) (narI _) dX3_rests_20
  · replace hf := if_f c4 hf
    refine lv_iconst (v := 1) hx hb dX3_rests_15 (by decide) ?_
    refine lv_goto (tgt := 20) hx hb dX3_rests_16 (by decide) ?_
    exact hfin _ _ _ _ _ _ hw (s2a hf) (s2b hf) (narI _) dX3_rests_20
/-- NineLands.all()I -/
theorem dX3_all_0 : decode cX3_all 0 = .ok (.aload_n 0, 1) := by decide +kernel
theorem dX3_all_1 : decode cX3_all 1 = .ok (.invokevirtual 131, 3) := by decide +kernel
theorem dX3_all_4 : decode cX3_all 4 = .ok (.ireturn, 1) := by decide +kernel
theorem hd_X3_all : yX3_all.cls ≠ "java/lang/invoke/MethodHandle" ∧ yX3_all.cls ≠ "java/lang/invoke/VarHandle" ∧ (parseMethodDescriptor yX3_all.desc).map (fun d => d.parameters.length) = some 0 := by decide +kernel
def f_X3_all  (S : vS) : Option (Int32 × vS) := b2 (f_X3_owedByAll  S) fun r3 S2 => some (r3, S2)
set_option maxHeartbeats 4000000 in
set_option maxRecDepth 20000 in
theorem c_X3_all (l : Launch) (D : va_G) (cI cO : ClassId) (ad : Nat → Nat)  (S : vS) (R9 : Int32) (S9 : vS) (hf : f_X3_all  S = some (R9, S9)) : CI l yX3_all cX3_all 1 .int ({ frames := 6, cells := 0, slots := 0, locals := 133 }) [.ref (ad 0)] D cI cO ad S R9 S9 := by
  refine CI.of (by decide +kernel) (Nat.le_of_ble_eq_true rfl) (fun p e s m args below meth c Q ls X hl hw hfin => ?_)
  have hl : lv_has ls 1 [(0, .ref (ad 0))] := hl
  have hx := X.1
  have hb := X.2.1
  unfold f_X3_all at hf
  refine lv_aload_n hx hb dX3_all_0 rfl (lv_at hl 0 rfl) ?_
  obtain ⟨r3, S2, h1, hf⟩ := b2_s hf
  refine kVi X hw (c_X3_owedByAll l D cI cO ad  S r3 S2 h1) (Nat.le_of_ble_eq_true rfl) ce0 rfl ⟨rfl, rfl⟩ q459 q461 q21 q59 q462 hd_X3_owedByAll ⟨Nat.le_of_ble_eq_true rfl, Nat.le_of_ble_eq_true rfl⟩ rfl hl.1 rfl (Nat.le_of_ble_eq_true rfl) dX3_all_1 (fun H locs hw => ?_)
  exact hfin _ _ _ _ _ _ hw (s2a hf) (s2b hf) (narI _) dX3_all_4
