/-- NineLandsModel.put(I)I -/
theorem dX4_put_0 : decode cX4_put 0 = .ok (.iload_n 1, 1) := by decide +kernel
theorem dX4_put_1 : decode cX4_put 1 = .ok (.iconst 0, 1) := by decide +kernel
theorem dX4_put_2 : decode cX4_put 2 = .ok (.sipush 9999, 3) := by decide +kernel
theorem dX4_put_5 : decode cX4_put 5 = .ok (.invokestatic 78, 3) := by decide +kernel
theorem dX4_put_8 : decode cX4_put 8 = .ok (.istore_n 2, 1) := by decide +kernel
theorem dX4_put_9 : decode cX4_put 9 = .ok (.iload_n 2, 1) := by decide +kernel
theorem dX4_put_10 : decode cX4_put 10 = .ok (.ifCond .ne 15, 3) := by decide +kernel
theorem dX4_put_13 : decode cX4_put 13 = .ok (.aload_n 0, 1) := by decide +kernel
theorem dX4_put_14 : decode cX4_put 14 = .ok (.getfield 182, 3) := by decide +kernel
theorem dX4_put_17 : decode cX4_put 17 = .ok (.bipush 6, 2) := by decide +kernel
theorem dX4_put_19 : decode cX4_put 19 = .ok (.if_icmp .ne 6, 3) := by decide +kernel
theorem dX4_put_22 : decode cX4_put 22 = .ok (.bipush (-6), 2) := by decide +kernel
theorem dX4_put_24 : decode cX4_put 24 = .ok (.istore_n 2, 1) := by decide +kernel
theorem dX4_put_25 : decode cX4_put 25 = .ok (.iload_n 2, 1) := by decide +kernel
theorem dX4_put_26 : decode cX4_put 26 = .ok (.ifCond .eq 9, 3) := by decide +kernel
theorem dX4_put_29 : decode cX4_put 29 = .ok (.aload_n 0, 1) := by decide +kernel
theorem dX4_put_30 : decode cX4_put 30 = .ok (.iload_n 2, 1) := by decide +kernel
theorem dX4_put_31 : decode cX4_put 31 = .ok (.invokevirtual 85, 3) := by decide +kernel
theorem dX4_put_34 : decode cX4_put 34 = .ok (.ireturn, 1) := by decide +kernel
theorem dX4_put_35 : decode cX4_put 35 = .ok (.aload_n 0, 1) := by decide +kernel
theorem dX4_put_36 : decode cX4_put 36 = .ok (.getfield 71, 3) := by decide +kernel
theorem dX4_put_39 : decode cX4_put 39 = .ok (.aload_n 0, 1) := by decide +kernel
theorem dX4_put_40 : decode cX4_put 40 = .ok (.getfield 182, 3) := by decide +kernel
theorem dX4_put_43 : decode cX4_put 43 = .ok (.iload_n 1, 1) := by decide +kernel
theorem dX4_put_44 : decode cX4_put 44 = .ok (.iastore, 1) := by decide +kernel
theorem dX4_put_45 : decode cX4_put 45 = .ok (.aload_n 0, 1) := by decide +kernel
theorem dX4_put_46 : decode cX4_put 46 = .ok (.dup, 1) := by decide +kernel
theorem dX4_put_47 : decode cX4_put 47 = .ok (.getfield 182, 3) := by decide +kernel
theorem dX4_put_50 : decode cX4_put 50 = .ok (.iconst 1, 1) := by decide +kernel
theorem dX4_put_51 : decode cX4_put 51 = .ok (.iadd, 1) := by decide +kernel
theorem dX4_put_52 : decode cX4_put 52 = .ok (.putfield 182, 3) := by decide +kernel
theorem dX4_put_55 : decode cX4_put 55 = .ok (.aload_n 0, 1) := by decide +kernel
theorem dX4_put_56 : decode cX4_put 56 = .ok (.getfield 182, 3) := by decide +kernel
theorem dX4_put_59 : decode cX4_put 59 = .ok (.ireturn, 1) := by decide +kernel
theorem hd_X4_put : yX4_put.cls ≠ "java/lang/invoke/MethodHandle" ∧ yX4_put.cls ≠ "java/lang/invoke/VarHandle" ∧ (parseMethodDescriptor yX4_put.desc).map (fun d => d.parameters.length) = some 1 := by decide +kernel
def f_X4_put_J25 (x1 : Int32) (x2 : Int32) (S : vS) : Option (Int32 × vS) := if x2 = 0 then if inb (S 0 5) 6 = true then lt (upk S 20 (upd (S 20) ((S 0 5).toNatClampNeg) x1)) fun S6 => lt (upk S6 0 (upd (S6 0) 5 ((S6 0 5) + (1 : Int32)))) fun S7 => some ((S7 0 5), S7) else none else b2 (f_X4_no x2 S) fun r10 S9 => some (r10, S9)
def f_X4_put (a1 : Int32) (S : vS) : Option (Int32 × vS) := b1 (f_X4_out a1 (0 : Int32) (9999 : Int32) S) fun r2 => if r2 = 0 then if (S 0 5) = (6 : Int32) then f_X4_put_J25 a1 (-6 : Int32) S else f_X4_put_J25 a1 r2 S else f_X4_put_J25 a1 r2 S
set_option maxHeartbeats 4000000 in
set_option maxRecDepth 20000 in
theorem c_X4_put (l : Launch) (D : va_G) (cI cO : ClassId) (ad : Nat → Nat) (a1 : Int32) (S : vS) (R9 : Int32) (S9 : vS) (hf : f_X4_put a1 S = some (R9, S9)) : CI l yX4_put cX4_put 3 .int ({ frames := 1, cells := 0, slots := 0, locals := 22 }) [.ref (ad 5), .int a1] D cI cO ad S R9 S9 := by
  refine CI.of (by decide +kernel) (Nat.le_of_ble_eq_true rfl) (fun p e s m args below meth c Q ls X hl hw hfin => ?_)
  have hl : lv_has ls 3 [(0, .ref (ad 5)), (1, .int a1)] := hl
  have hx := X.1
  have hb := X.2.1
  have J25 : ∀ (x1 : Int32) (x2 : Int32) (S : vS), f_X4_put_J25 x1 x2 S = some (R9, S9) → ∀ (H : Heap) (locs : List Loc) (ls : Array Slot), WD D cI cO ad s S H locs → lv_has ls 3 [(0, .ref (ad 5)), (1, .int x1), (2, .int x2)] → W p l e ({ frames := 1, cells := 0, slots := 0, locals := 22 }) s m args below meth c H locs 0 0 Q (F0 m 25 ls []) := by
    intro x1 x2 S hf H locs ls hw hl
    unfold f_X4_put_J25 at hf
    refine lv_iload_n hx hb dX4_put_25 rfl (lv_at hl 2 rfl) ?_
    refine lv_if_eq (tgt := 35) hx hb dX4_put_26 (by decide) (fun c4 => ?_) (fun c4 => ?_)
    · replace hf := if_t c4 hf
      refine lv_aload_n hx hb dX4_put_35 rfl (lv_at hl 0 rfl) ?_
      refine x_get X hw 5 (Nat.le_of_ble_eq_true rfl) ce5 rfl i_X4 24 (by decide) q614 ⟨rfl, rfl, rfl⟩ rfl dX4_put_36 ?_
      refine lv_aload_n hx hb dX4_put_39 rfl (lv_at hl 0 rfl) ?_
      refine x_get X hw 5 (Nat.le_of_ble_eq_true rfl) ce5 rfl i_X4 25 (by decide) q615 ⟨rfl, rfl, rfl⟩ rfl dX4_put_40 ?_
      refine lv_iload_n hx hb dX4_put_43 rfl (lv_at hl 1 rfl) ?_
      obtain ⟨h5, hf⟩ := if_s hf
      refine x_iast X hw 20 ⟨Nat.le_of_ble_eq_true rfl, Nat.le_of_ble_eq_true rfl⟩ rfl h5 ((S 0 5).toNatClampNeg) rfl dX4_put_44 (fun S6 eS6 H locs hw => ?_)
      replace hf := lt_e eS6 hf
      refine lv_aload_n hx hb dX4_put_45 rfl (lv_at hl 0 rfl) ?_
      refine lv_dup hx hb dX4_put_46 rfl ?_
      refine x_get X hw 5 (Nat.le_of_ble_eq_true rfl) ce5 rfl i_X4 25 (by decide) q615 ⟨rfl, rfl, rfl⟩ rfl dX4_put_47 ?_
      refine lv_iconst (v := 1) hx hb dX4_put_50 (by decide) ?_
      refine lv_iadd hx hb dX4_put_51 ?_
      refine x_put X hw 5 (Nat.le_of_ble_eq_true rfl) ce5 rfl i_X4 tyX4_ok nmX4 25 (by decide) q615 ⟨rfl, rfl, rfl⟩ rfl pfI rfl rfl (Nat.le_of_ble_eq_true rfl) 5 (ws_5 _) dX4_put_52 (fun S7 eS7 H locs hw => ?_)
      replace hf := lt_e eS7 hf
      refine lv_aload_n hx hb dX4_put_55 rfl (lv_at hl 0 rfl) ?_
      refine x_get X hw 5 (Nat.le_of_ble_eq_true rfl) ce5 rfl i_X4 25 (by decide) q615 ⟨rfl, rfl, rfl⟩ rfl dX4_put_56 ?_
      exact hfin _ _ _ _ _ _ hw (s2a hf) (s2b hf) (narI _) dX4_put_59
    · replace hf := if_f c4 hf
      refine lv_aload_n hx hb dX4_put_29 rfl (lv_at hl 0 rfl) ?_
      refine lv_iload_n hx hb dX4_put_30 rfl (lv_at hl 2 rfl) ?_
      obtain ⟨r10, S9, h8, hf⟩ := b2_s hf
      refine kVi X hw (c_X4_no l D cI cO ad x2 S r10 S9 h8) (Nat.le_of_ble_eq_true rfl) ce5 rfl ⟨rfl, rfl⟩ q688 q690 q34 q64 q691 hd_X4_no ⟨Nat.le_of_ble_eq_true rfl, Nat.le_of_ble_eq_true rfl⟩ rfl hl.1 rfl (Nat.le_of_ble_eq_true rfl) dX4_put_31 (fun H locs hw => ?_)
      exact hfin _ _ _ _ _ _ hw (s2a hf) (s2b hf) (narI _) dX4_put_34
  unfold f_X4_put at hf
  refine lv_iload_n hx hb dX4_put_0 rfl (lv_at hl 1 rfl) ?_
  refine lv_iconst (v := 0) hx hb dX4_put_1 (by decide) ?_
  refine lv_sipush (v := 9999) hx hb dX4_put_2 (by decide +kernel) ?_
  obtain ⟨r2, h1, hf⟩ := b1_s hf
  refine kSi X hw (c_X4_out l D cI cO ad a1 (0 : Int32) (9999 : Int32) S r2 h1) ⟨rfl, rfl⟩ q685 q686 q64 q687 hd_X4_out ⟨Nat.le_of_ble_eq_true rfl, Nat.le_of_ble_eq_true rfl⟩ rfl hl.1 rfl (Nat.le_of_ble_eq_true rfl) dX4_put_5 (fun H locs hw => ?_)
  refine lv_istore_n (lv' := [(2, .int r2), (0, .ref (ad 5)), (1, .int a1)]) hx hb dX4_put_8 rfl hl (by decide) rfl (fun ls hl => ?_)
  refine lv_iload_n hx hb dX4_put_9 rfl (lv_at hl 0 rfl) ?_
  refine lv_if_ne (tgt := 25) hx hb dX4_put_10 (by decide) (fun c3 => ?_) (fun c3 => ?_)
  · replace hf := if_f c3 hf
    exact J25 a1 r2 S hf _ _ _ hw (lv_sub hl [1, 2, 0] rfl)
  · replace hf := if_t c3 hf
    refine lv_aload_n hx hb dX4_put_13 rfl (lv_at hl 1 rfl) ?_
    refine x_get X hw 5 (Nat.le_of_ble_eq_true rfl) ce5 rfl i_X4 25 (by decide) q615 ⟨rfl, rfl, rfl⟩ rfl dX4_put_14 ?_
    refine lv_bipush (v := 6) hx hb dX4_put_17 (by decide +kernel) ?_
    refine lv_icmp_ne (tgt := 25) hx hb dX4_put_19 (by decide) (fun c11 => ?_) (fun c11 => ?_)
    · replace hf := if_f c11 hf
      exact J25 a1 r2 S hf _ _ _ hw (lv_sub hl [1, 2, 0] rfl)
    · replace hf := if_t c11 hf
      refine lv_bipush (v := -6) hx hb dX4_put_22 (by decide +kernel) ?_
      refine lv_istore_n (lv' := [(2, .int (-6 : Int32)), (0, .ref (ad 5)), (1, .int a1)]) hx hb dX4_put_24 rfl hl (by decide) rfl (fun ls hl => ?_)
      exact J25 a1 (-6 : Int32) S hf _ _ _ hw (lv_sub hl [1, 2, 0] rfl)
/-- NineLandsModel.judge()I -/
theorem dX4_judge_0 : decode cX4_judge 0 = .ok (.aload_n 0, 1) := by decide +kernel
theorem dX4_judge_1 : decode cX4_judge 1 = .ok (.getfield 182, 3) := by decide +kernel
theorem dX4_judge_4 : decode cX4_judge 4 = .ok (.istore_n 1, 1) := by decide +kernel
theorem dX4_judge_5 : decode cX4_judge 5 = .ok (.aload_n 0, 1) := by decide +kernel
theorem dX4_judge_6 : decode cX4_judge 6 = .ok (.iconst 0, 1) := by decide +kernel
theorem dX4_judge_7 : decode cX4_judge 7 = .ok (.putfield 182, 3) := by decide +kernel
theorem dX4_judge_10 : decode cX4_judge 10 = .ok (.iload_n 1, 1) := by decide +kernel
theorem dX4_judge_11 : decode cX4_judge 11 = .ok (.istore_n 2, 1) := by decide +kernel
theorem dX4_judge_12 : decode cX4_judge 12 = .ok (.iload_n 2, 1) := by decide +kernel
theorem dX4_judge_13 : decode cX4_judge 13 = .ok (.bipush 6, 2) := by decide +kernel
theorem dX4_judge_15 : decode cX4_judge 15 = .ok (.if_icmp .ge 16, 3) := by decide +kernel
theorem dX4_judge_18 : decode cX4_judge 18 = .ok (.aload_n 0, 1) := by decide +kernel
theorem dX4_judge_19 : decode cX4_judge 19 = .ok (.getfield 71, 3) := by decide +kernel
theorem dX4_judge_22 : decode cX4_judge 22 = .ok (.iload_n 2, 1) := by decide +kernel
theorem dX4_judge_23 : decode cX4_judge 23 = .ok (.iconst 0, 1) := by decide +kernel
theorem dX4_judge_24 : decode cX4_judge 24 = .ok (.iastore, 1) := by decide +kernel
theorem dX4_judge_25 : decode cX4_judge 25 = .ok (.iinc 2 1, 3) := by decide +kernel
theorem dX4_judge_28 : decode cX4_judge 28 = .ok (.goto (-16), 3) := by decide +kernel
theorem dX4_judge_31 : decode cX4_judge 31 = .ok (.aload_n 0, 1) := by decide +kernel
theorem dX4_judge_32 : decode cX4_judge 32 = .ok (.aload_n 0, 1) := by decide +kernel
theorem dX4_judge_33 : decode cX4_judge 33 = .ok (.getfield 102, 3) := by decide +kernel
theorem dX4_judge_36 : decode cX4_judge 36 = .ok (.invokevirtual 133, 3) := by decide +kernel
theorem dX4_judge_39 : decode cX4_judge 39 = .ok (.iconst 0, 1) := by decide +kernel
theorem dX4_judge_40 : decode cX4_judge 40 = .ok (.istore_n 2, 1) := by decide +kernel
theorem dX4_judge_41 : decode cX4_judge 41 = .ok (.iload_n 2, 1) := by decide +kernel
theorem dX4_judge_42 : decode cX4_judge 42 = .ok (.iload_n 1, 1) := by decide +kernel
theorem dX4_judge_43 : decode cX4_judge 43 = .ok (.if_icmp .ge 46, 3) := by decide +kernel
theorem dX4_judge_46 : decode cX4_judge 46 = .ok (.aload_n 0, 1) := by decide +kernel
theorem dX4_judge_47 : decode cX4_judge 47 = .ok (.getfield 71, 3) := by decide +kernel
theorem dX4_judge_50 : decode cX4_judge 50 = .ok (.iload_n 2, 1) := by decide +kernel
theorem dX4_judge_51 : decode cX4_judge 51 = .ok (.iaload, 1) := by decide +kernel
theorem dX4_judge_52 : decode cX4_judge 52 = .ok (.aload_n 0, 1) := by decide +kernel
theorem dX4_judge_53 : decode cX4_judge 53 = .ok (.iload_n 2, 1) := by decide +kernel
theorem dX4_judge_54 : decode cX4_judge 54 = .ok (.aload_n 0, 1) := by decide +kernel
theorem dX4_judge_55 : decode cX4_judge 55 = .ok (.getfield 40, 3) := by decide +kernel
theorem dX4_judge_58 : decode cX4_judge 58 = .ok (.iload_n 2, 1) := by decide +kernel
theorem dX4_judge_59 : decode cX4_judge 59 = .ok (.iaload, 1) := by decide +kernel
theorem dX4_judge_60 : decode cX4_judge 60 = .ok (.aload_n 0, 1) := by decide +kernel
theorem dX4_judge_61 : decode cX4_judge 61 = .ok (.aload_n 0, 1) := by decide +kernel
theorem dX4_judge_62 : decode cX4_judge 62 = .ok (.getfield 71, 3) := by decide +kernel
theorem dX4_judge_65 : decode cX4_judge 65 = .ok (.invokevirtual 156, 3) := by decide +kernel
theorem dX4_judge_68 : decode cX4_judge 68 = .ok (.aload_n 0, 1) := by decide +kernel
theorem dX4_judge_69 : decode cX4_judge 69 = .ok (.getfield 71, 3) := by decide +kernel
theorem dX4_judge_72 : decode cX4_judge 72 = .ok (.iload_n 2, 1) := by decide +kernel
theorem dX4_judge_73 : decode cX4_judge 73 = .ok (.iaload, 1) := by decide +kernel
theorem dX4_judge_74 : decode cX4_judge 74 = .ok (.isub, 1) := by decide +kernel
theorem dX4_judge_75 : decode cX4_judge 75 = .ok (.invokevirtual 160, 3) := by decide +kernel
theorem dX4_judge_78 : decode cX4_judge 78 = .ok (.if_icmp .eq 5, 3) := by decide +kernel
theorem dX4_judge_81 : decode cX4_judge 81 = .ok (.iload_n 2, 1) := by decide +kernel
theorem dX4_judge_82 : decode cX4_judge 82 = .ok (.ireturn, 1) := by decide +kernel
theorem dX4_judge_83 : decode cX4_judge 83 = .ok (.iinc 2 1, 3) := by decide +kernel
theorem dX4_judge_86 : decode cX4_judge 86 = .ok (.goto (-45), 3) := by decide +kernel
theorem dX4_judge_89 : decode cX4_judge 89 = .ok (.iload_n 1, 1) := by decide +kernel
theorem dX4_judge_90 : decode cX4_judge 90 = .ok (.bipush 6, 2) := by decide +kernel
theorem dX4_judge_92 : decode cX4_judge 92 = .ok (.if_icmp .ge 7, 3) := by decide +kernel
theorem dX4_judge_95 : decode cX4_judge 95 = .ok (.iload_n 1, 1) := by decide +kernel
theorem dX4_judge_96 : decode cX4_judge 96 = .ok (.goto 5, 3) := by decide +kernel
theorem dX4_judge_99 : decode cX4_judge 99 = .ok (.bipush (-9), 2) := by decide +kernel
theorem dX4_judge_101 : decode cX4_judge 101 = .ok (.ireturn, 1) := by decide +kernel
theorem hd_X4_judge : yX4_judge.cls ≠ "java/lang/invoke/MethodHandle" ∧ yX4_judge.cls ≠ "java/lang/invoke/VarHandle" ∧ (parseMethodDescriptor yX4_judge.desc).map (fun d => d.parameters.length) = some 0 := by decide +kernel
def f_X4_judge_L12 : Nat → Int32 → Int32 → vS → Option vS
  | 0, _, _, _ => none
  | n + 1, x1, x2, S => if (6 : Int32) ≤ x2 then some S else if inb x2 6 = true then lt (upk S 20 (upd (S 20) (x2.toNatClampNeg) (0 : Int32))) fun S4 => (f_X4_judge_L12 n) x1 (x2 + 1) S4 else none
def f_X4_judge_L41 (S : vS) : Nat → Int32 → Int32 →  Option (Unit ⊕ (Int32 × vS))
  | 0, _, _ => none
  | n + 1, x1, x2 => if x1 ≤ x2 then some (.inl (())) else if inb x2 6 = true then b1 (f_X4_sumOf 20 S) fun r11 => b1 (f_X4_says x2 (S 11 (x2.toNatClampNeg)) (r11 - (S 20 (x2.toNatClampNeg))) S) fun r13 => if (S 20 (x2.toNatClampNeg)) = r13 then (f_X4_judge_L41 S n) x1 (x2 + 1) else some (.inr (x2, S)) else none
def f_X4_judge  (S : vS) : Option (Int32 × vS) := lt (upk S 0 (upd (S 0) 5 (0 : Int32))) fun S1 => b1 (f_X4_judge_L12 FU (S 0 5) (S 0 5) S1) fun S5 => b1 (f_X4_findMonths (S5 0 2) S5) fun S7 => bS (f_X4_judge_L41 S7 FU (S 0 5) (0 : Int32)) some fun _ => if (6 : Int32) ≤ (S 0 5) then some ((-9 : Int32), S7) else some ((S 0 5), S7)
set_option maxHeartbeats 4000000 in
set_option maxRecDepth 20000 in
theorem c_X4_judge (l : Launch) (D : va_G) (cI cO : ClassId) (ad : Nat → Nat)  (S : vS) (R9 : Int32) (S9 : vS) (hf : f_X4_judge  S = some (R9, S9)) : CI l yX4_judge cX4_judge 3 .int ({ frames := 4, cells := 0, slots := 0, locals := 90 }) [.ref (ad 5)] D cI cO ad S R9 S9 := by
  refine CI.of (by decide +kernel) (Nat.le_of_ble_eq_true rfl) (fun p e s m args below meth c Q ls X hl hw hfin => ?_)
  have hl : lv_has ls 3 [(0, .ref (ad 5))] := hl
  have hx := X.1
  have hb := X.2.1
  have L12 : ∀ (n : Nat) (x1 : Int32) (x2 : Int32) (S : vS) (res : vS), f_X4_judge_L12 n x1 x2 S = some res → (K : ∀  (S2 : vS), some S2 = some res → ∀ (H : Heap) (locs : List Loc) (ls : Array Slot), WD D cI cO ad s S2 H locs → lv_has ls 3 [(0, .ref (ad 5)), (1, .int x1)] → W p l e ({ frames := 4, cells := 0, slots := 0, locals := 90 }) s m args below meth c H locs 0 0 Q (F0 m 31 ls [])) → ∀ (H : Heap) (locs : List Loc) (ls : Array Slot), WD D cI cO ad s S H locs → lv_has ls 3 [(0, .ref (ad 5)), (1, .int x1), (2, .int x2)] → W p l e ({ frames := 4, cells := 0, slots := 0, locals := 90 }) s m args below meth c H locs 0 0 Q (F0 m 12 ls []) := by
    intro n
    induction n with
    | zero => intro x1 x2 S res hf; cases hf
    | succ n ih =>
      intro x1 x2 S res hf K H locs ls hw hl
      unfold f_X4_judge_L12 at hf
      refine lv_iload_n hx hb dX4_judge_12 rfl (lv_at hl 2 rfl) ?_
      refine lv_bipush (v := 6) hx hb dX4_judge_13 (by decide +kernel) ?_
      refine lv_icmp_ge (tgt := 31) hx hb dX4_judge_15 (by decide) (fun c2 => ?_) (fun c2 => ?_)
      · replace hf := if_t c2 hf
        exact K S hf _ _ _ hw (lv_sub hl [0, 1] rfl)
      · replace hf := if_f c2 hf
        refine lv_aload_n hx hb dX4_judge_18 rfl (lv_at hl 0 rfl) ?_
        refine x_get X hw 5 (Nat.le_of_ble_eq_true rfl) ce5 rfl i_X4 24 (by decide) q614 ⟨rfl, rfl, rfl⟩ rfl dX4_judge_19 ?_
        refine lv_iload_n hx hb dX4_judge_22 rfl (lv_at hl 2 rfl) ?_
        refine lv_iconst (v := 0) hx hb dX4_judge_23 (by decide) ?_
        obtain ⟨h3, hf⟩ := if_s hf
        refine x_iast X hw 20 ⟨Nat.le_of_ble_eq_true rfl, Nat.le_of_ble_eq_true rfl⟩ rfl h3 (x2.toNatClampNeg) rfl dX4_judge_24 (fun S4 eS4 H locs hw => ?_)
        replace hf := lt_e eS4 hf
        refine lv_iinc (v := (x2 + 1)) (lv' := [(2, .int (x2 + 1)), (0, .ref (ad 5)), (1, .int x1)]) hx hb dX4_judge_25 hl (k := 2) rfl rfl (by decide) rfl (fun ls hl => ?_)
        refine lv_goto (tgt := 12) hx hb dX4_judge_28 (by decide) ?_
        exact ih x1 (x2 + 1) S4 _ hf K _ _ _ hw (lv_sub hl [1, 2, 0] rfl)
  have L41 : ∀ (S : vS) (n : Nat) (x1 : Int32) (x2 : Int32) (res : (Unit ⊕ (Int32 × vS))), f_X4_judge_L41 S n x1 x2 = some res → (K : some (Sum.inl (())) = some res → ∀ (H : Heap) (locs : List Loc) (ls : Array Slot), WD D cI cO ad s S H locs → lv_has ls 3 [(1, .int x1)] → W p l e ({ frames := 4, cells := 0, slots := 0, locals := 90 }) s m args below meth c H locs 0 0 Q (F0 m 89 ls [])) → (K2 : ∀ q : (Int32 × vS), some (Sum.inr q) = some res → some q = some (R9, S9)) → ∀ (H : Heap) (locs : List Loc) (ls : Array Slot), WD D cI cO ad s S H locs → lv_has ls 3 [(0, .ref (ad 5)), (1, .int x1), (2, .int x2)] → W p l e ({ frames := 4, cells := 0, slots := 0, locals := 90 }) s m args below meth c H locs 0 0 Q (F0 m 41 ls []) := by
    intro S n
    induction n with
    | zero => intro x1 x2 res hf; cases hf
    | succ n ih =>
      intro x1 x2 res hf K K2 H locs ls hw hl
      unfold f_X4_judge_L41 at hf
      refine lv_iload_n hx hb dX4_judge_41 rfl (lv_at hl 2 rfl) ?_
      refine lv_iload_n hx hb dX4_judge_42 rfl (lv_at hl 1 rfl) ?_
      refine lv_icmp_ge (tgt := 89) hx hb dX4_judge_43 (by decide) (fun c8 => ?_) (fun c8 => ?_)
      · replace hf := if_t c8 hf
        exact K  hf _ _ _ hw (lv_sub hl [1] rfl)
      · replace hf := if_f c8 hf
        refine lv_aload_n hx hb dX4_judge_46 rfl (lv_at hl 0 rfl) ?_
        refine x_get X hw 5 (Nat.le_of_ble_eq_true rfl) ce5 rfl i_X4 24 (by decide) q614 ⟨rfl, rfl, rfl⟩ rfl dX4_judge_47 ?_
        refine lv_iload_n hx hb dX4_judge_50 rfl (lv_at hl 2 rfl) ?_
        obtain ⟨h9, hf⟩ := if_s hf
        refine x_iald X hw 20 ⟨Nat.le_of_ble_eq_true rfl, Nat.le_of_ble_eq_true rfl⟩ rfl h9 (x2.toNatClampNeg) rfl dX4_judge_51 ?_
        refine lv_aload_n hx hb dX4_judge_52 rfl (lv_at hl 0 rfl) ?_
        refine lv_iload_n hx hb dX4_judge_53 rfl (lv_at hl 2 rfl) ?_
        refine lv_aload_n hx hb dX4_judge_54 rfl (lv_at hl 0 rfl) ?_
        refine x_get X hw 5 (Nat.le_of_ble_eq_true rfl) ce5 rfl i_X4 10 (by decide) q600 ⟨rfl, rfl, rfl⟩ rfl dX4_judge_55 ?_
        refine lv_iload_n hx hb dX4_judge_58 rfl (lv_at hl 2 rfl) ?_
        refine x_iald X hw 11 ⟨Nat.le_of_ble_eq_true rfl, Nat.le_of_ble_eq_true rfl⟩ rfl h9 (x2.toNatClampNeg) rfl dX4_judge_59 ?_
        refine lv_aload_n hx hb dX4_judge_60 rfl (lv_at hl 0 rfl) ?_
        refine lv_aload_n hx hb dX4_judge_61 rfl (lv_at hl 0 rfl) ?_
        refine x_get X hw 5 (Nat.le_of_ble_eq_true rfl) ce5 rfl i_X4 24 (by decide) q614 ⟨rfl, rfl, rfl⟩ rfl dX4_judge_62 ?_
        obtain ⟨r11, h10, hf⟩ := b1_s hf
        refine kVi X hw (c_X4_sumOf l D cI cO ad 20 S r11 h10) (Nat.le_of_ble_eq_true rfl) ce5 rfl ⟨rfl, rfl⟩ q810 q812 q50 q64 q813 hd_X4_sumOf ⟨Nat.le_of_ble_eq_true rfl, Nat.le_of_ble_eq_true rfl⟩ rfl hl.1 rfl (Nat.le_of_ble_eq_true rfl) dX4_judge_65 (fun H locs hw => ?_)
        refine lv_aload_n hx hb dX4_judge_68 rfl (lv_at hl 0 rfl) ?_
        refine x_get X hw 5 (Nat.le_of_ble_eq_true rfl) ce5 rfl i_X4 24 (by decide) q614 ⟨rfl, rfl, rfl⟩ rfl dX4_judge_69 ?_
        refine lv_iload_n hx hb dX4_judge_72 rfl (lv_at hl 2 rfl) ?_
        refine x_iald X hw 20 ⟨Nat.le_of_ble_eq_true rfl, Nat.le_of_ble_eq_true rfl⟩ rfl h9 (x2.toNatClampNeg) rfl dX4_judge_73 ?_
        refine lv_isub hx hb dX4_judge_74 ?_
        obtain ⟨r13, h12, hf⟩ := b1_s hf
        refine kVi X hw (c_X4_says l D cI cO ad x2 (S 11 (x2.toNatClampNeg)) (r11 - (S 20 (x2.toNatClampNeg))) S r13 h12) (Nat.le_of_ble_eq_true rfl) ce5 rfl ⟨rfl, rfl⟩ q775 q777 q44 q64 q778 hd_X4_says ⟨Nat.le_of_ble_eq_true rfl, Nat.le_of_ble_eq_true rfl⟩ rfl hl.1 rfl (Nat.le_of_ble_eq_true rfl) dX4_judge_75 (fun H locs hw => ?_)
        refine lv_icmp_eq (tgt := 83) hx hb dX4_judge_78 (by decide) (fun c14 => ?_) (fun c14 => ?_)
        · replace hf := if_t c14 hf
          refine lv_iinc (v := (x2 + 1)) (lv' := [(2, .int (x2 + 1)), (0, .ref (ad 5)), (1, .int x1)]) hx hb dX4_judge_83 hl (k := 2) rfl rfl (by decide) rfl (fun ls hl => ?_)
          refine lv_goto (tgt := 41) hx hb dX4_judge_86 (by decide) ?_
          exact ih x1 (x2 + 1) _ hf K K2 _ _ _ hw (lv_sub hl [1, 2, 0] rfl)
        · replace hf := if_f c14 hf
          refine lv_iload_n hx hb dX4_judge_81 rfl (lv_at hl 2 rfl) ?_
          replace hf := K2 _ hf
          exact hfin _ _ _ _ _ _ hw (s2a hf) (s2b hf) (narI _) dX4_judge_82
  unfold f_X4_judge at hf
  refine lv_aload_n hx hb dX4_judge_0 rfl (lv_at hl 0 rfl) ?_
  refine x_get X hw 5 (Nat.le_of_ble_eq_true rfl) ce5 rfl i_X4 25 (by decide) q615 ⟨rfl, rfl, rfl⟩ rfl dX4_judge_1 ?_
  refine lv_istore_n (lv' := [(1, .int (S 0 5)), (0, .ref (ad 5))]) hx hb dX4_judge_4 rfl hl (by decide) rfl (fun ls hl => ?_)
  refine lv_aload_n hx hb dX4_judge_5 rfl (lv_at hl 1 rfl) ?_
  refine lv_iconst (v := 0) hx hb dX4_judge_6 (by decide) ?_
  refine x_put X hw 5 (Nat.le_of_ble_eq_true rfl) ce5 rfl i_X4 tyX4_ok nmX4 25 (by decide) q615 ⟨rfl, rfl, rfl⟩ rfl pfI rfl rfl (Nat.le_of_ble_eq_true rfl) 5 (ws_5 _) dX4_judge_7 (fun S1 eS1 H locs hw => ?_)
  replace hf := lt_e eS1 hf
  refine lv_iload_n hx hb dX4_judge_10 rfl (lv_at hl 0 rfl) ?_
  refine lv_istore_n (lv' := [(2, .int (S 0 5)), (1, .int (S 0 5)), (0, .ref (ad 5))]) hx hb dX4_judge_11 rfl hl (by decide) rfl (fun ls hl => ?_)
  obtain ⟨S5, h17, hf⟩ := b1_s hf
  refine L12 FU (S 0 5) (S 0 5) S1 _ h17 (fun S5' eK H locs ls hw hl => ?_) _ _ _ hw (lv_sub hl [2, 1, 0] rfl)
  cases eK
  refine lv_aload_n hx hb dX4_judge_31 rfl (lv_at hl 0 rfl) ?_
  refine lv_aload_n hx hb dX4_judge_32 rfl (lv_at hl 0 rfl) ?_
  refine x_get X hw 5 (Nat.le_of_ble_eq_true rfl) ce5 rfl i_X4 15 (by decide) q605 ⟨rfl, rfl, rfl⟩ rfl dX4_judge_33 ?_
  obtain ⟨S7, h6, hf⟩ := b1_s hf
  refine kVv X hw (c_X4_findMonths l D cI cO ad (S5 0 2) S5 S7 h6) (Nat.le_of_ble_eq_true rfl) ce5 rfl ⟨rfl, rfl⟩ q747 q749 q40 q64 q750 hd_X4_findMonths ⟨Nat.le_of_ble_eq_true rfl, Nat.le_of_ble_eq_true rfl⟩ rfl hl.1 rfl (Nat.le_of_ble_eq_true rfl) dX4_judge_36 (fun H locs hw => ?_)
  refine lv_iconst (v := 0) hx hb dX4_judge_39 (by decide) ?_
  refine lv_istore_n (lv' := [(2, .int (0 : Int32)), (0, .ref (ad 5)), (1, .int (S 0 5))]) hx hb dX4_judge_40 rfl hl (by decide) rfl (fun ls hl => ?_)
  obtain ⟨res, h16, hk1, hk2⟩ := bS_x hf
  refine L41 S7 FU (S 0 5) (0 : Int32) res h16 (fun eK H locs ls hw hl => ?_) (fun q eK => hk2 q (Option.some.inj eK).symm) _ _ _ hw (lv_sub hl [1, 2, 0] rfl)
  replace hf := hk1 _ (Option.some.inj eK).symm
  refine lv_iload_n hx hb dX4_judge_89 rfl (lv_at hl 0 rfl) ?_
  refine lv_bipush (v := 6) hx hb dX4_judge_90 (by decide +kernel) ?_
  refine lv_icmp_ge (tgt := 99) hx hb dX4_judge_92 (by decide) (fun c15 => ?_) (fun c15 => ?_)
  · replace hf := if_t c15 hf
    refine lv_bipush (v := -9) hx hb dX4_judge_99 (by decide +kernel) ?_
    exact hfin _ _ _ _ _ _ hw (s2a hf) (s2b hf) (narI _) dX4_judge_101
  · replace hf := if_f c15 hf
    refine lv_iload_n hx hb dX4_judge_95 rfl (lv_at hl 0 rfl) ?_
    refine lv_goto (tgt := 101) hx hb dX4_judge_96 (by decide) ?_
    exact hfin _ _ _ _ _ _ hw (s2a hf) (s2b hf) (narI _) dX4_judge_101
/-- NineLandsModel.passes([I)V -/
theorem dX4_passes_0 : decode cX4_passes 0 = .ok (.iconst 0, 1) := by decide +kernel
theorem dX4_passes_1 : decode cX4_passes 1 = .ok (.istore_n 2, 1) := by decide +kernel
theorem dX4_passes_2 : decode cX4_passes 2 = .ok (.iload_n 2, 1) := by decide +kernel
theorem dX4_passes_3 : decode cX4_passes 3 = .ok (.aload_n 1, 1) := by decide +kernel
theorem dX4_passes_4 : decode cX4_passes 4 = .ok (.arraylength, 1) := by decide +kernel
theorem dX4_passes_5 : decode cX4_passes 5 = .ok (.if_icmp .ge 53, 3) := by decide +kernel
theorem dX4_passes_8 : decode cX4_passes 8 = .ok (.aload_n 0, 1) := by decide +kernel
theorem dX4_passes_9 : decode cX4_passes 9 = .ok (.getfield 185, 3) := by decide +kernel
theorem dX4_passes_12 : decode cX4_passes 12 = .ok (.ifCond .eq 18, 3) := by decide +kernel
theorem dX4_passes_15 : decode cX4_passes 15 = .ok (.aload_n 0, 1) := by decide +kernel
theorem dX4_passes_16 : decode cX4_passes 16 = .ok (.getfield 74, 3) := by decide +kernel
theorem dX4_passes_19 : decode cX4_passes 19 = .ok (.aload_n 0, 1) := by decide +kernel
theorem dX4_passes_20 : decode cX4_passes 20 = .ok (.getfield 188, 3) := by decide +kernel
theorem dX4_passes_23 : decode cX4_passes 23 = .ok (.aload_n 1, 1) := by decide +kernel
theorem dX4_passes_24 : decode cX4_passes 24 = .ok (.iload_n 2, 1) := by decide +kernel
theorem dX4_passes_25 : decode cX4_passes 25 = .ok (.iaload, 1) := by decide +kernel
theorem dX4_passes_26 : decode cX4_passes 26 = .ok (.iastore, 1) := by decide +kernel
theorem dX4_passes_27 : decode cX4_passes 27 = .ok (.goto 15, 3) := by decide +kernel
theorem dX4_passes_30 : decode cX4_passes 30 = .ok (.aload_n 1, 1) := by decide +kernel
theorem dX4_passes_31 : decode cX4_passes 31 = .ok (.iload_n 2, 1) := by decide +kernel
theorem dX4_passes_32 : decode cX4_passes 32 = .ok (.aload_n 0, 1) := by decide +kernel
theorem dX4_passes_33 : decode cX4_passes 33 = .ok (.getfield 74, 3) := by decide +kernel
theorem dX4_passes_36 : decode cX4_passes 36 = .ok (.aload_n 0, 1) := by decide +kernel
theorem dX4_passes_37 : decode cX4_passes 37 = .ok (.getfield 188, 3) := by decide +kernel
theorem dX4_passes_40 : decode cX4_passes 40 = .ok (.iaload, 1) := by decide +kernel
theorem dX4_passes_41 : decode cX4_passes 41 = .ok (.iastore, 1) := by decide +kernel
theorem dX4_passes_42 : decode cX4_passes 42 = .ok (.aload_n 0, 1) := by decide +kernel
theorem dX4_passes_43 : decode cX4_passes 43 = .ok (.dup, 1) := by decide +kernel
theorem dX4_passes_44 : decode cX4_passes 44 = .ok (.getfield 188, 3) := by decide +kernel
theorem dX4_passes_47 : decode cX4_passes 47 = .ok (.iconst 1, 1) := by decide +kernel
theorem dX4_passes_48 : decode cX4_passes 48 = .ok (.iadd, 1) := by decide +kernel
theorem dX4_passes_49 : decode cX4_passes 49 = .ok (.putfield 188, 3) := by decide +kernel
theorem dX4_passes_52 : decode cX4_passes 52 = .ok (.iinc 2 1, 3) := by decide +kernel
theorem dX4_passes_55 : decode cX4_passes 55 = .ok (.goto (-53), 3) := by decide +kernel
theorem dX4_passes_58 : decode cX4_passes 58 = .ok (.return_, 1) := by decide +kernel
theorem hd_X4_passes : yX4_passes.cls ≠ "java/lang/invoke/MethodHandle" ∧ yX4_passes.cls ≠ "java/lang/invoke/VarHandle" ∧ (parseMethodDescriptor yX4_passes.desc).map (fun d => d.parameters.length) = some 1 := by decide +kernel
def f_X4_passes_L2 : Nat → Nat → Int32 → vS → Option vS
  | 0, _, _, _ => none
  | n + 1, x1, x2, S => if 1 ≤ x1 ∧ x1 ≤ 97 then if (nI (alen x1)) ≤ x2 then some S else if (S 0 7) = 0 then if inb (S 0 8) 300 = true then if inb x2 (alen x1) = true then lt (upk S x1 (upd (S x1) (x2.toNatClampNeg) (S 21 ((S 0 8).toNatClampNeg)))) fun S6 => lt (upk S6 0 (upd (S6 0) 8 ((S6 0 8) + (1 : Int32)))) fun S7 => (f_X4_passes_L2 n) x1 (x2 + 1) S7 else none else none else if inb x2 (alen x1) = true then if inb (S 0 8) 300 = true then lt (upk S 21 (upd (S 21) ((S 0 8).toNatClampNeg) (S x1 (x2.toNatClampNeg)))) fun S10 => lt (upk S10 0 (upd (S10 0) 8 ((S10 0 8) + (1 : Int32)))) fun S11 => (f_X4_passes_L2 n) x1 (x2 + 1) S11 else none else none else none
def f_X4_passes (a1 : Nat) (S : vS) : Option vS := b1 (f_X4_passes_L2 FU a1 (0 : Int32) S) fun S12 => some S12
set_option maxHeartbeats 4000000 in
set_option maxRecDepth 20000 in
theorem c_X4_passes (l : Launch) (D : va_G) (cI cO : ClassId) (ad : Nat → Nat) (a1 : Nat) (S : vS) (S9 : vS) (hf : f_X4_passes a1 S = some S9) : CV l yX4_passes cX4_passes 3 ({ frames := 0, cells := 0, slots := 0, locals := 0 }) [.ref (ad 5), .ref (ar ad a1)] D cI cO ad S S9 := by
  refine CV.of (r := 0) (by decide +kernel) (Nat.le_of_ble_eq_true rfl) (fun p e s m args below meth c Q ls X hl hw hfin => ?_)
  have hl : lv_has ls 3 [(0, .ref (ad 5)), (1, .ref (ar ad a1))] := hl
  have hx := X.1
  have hb := X.2.1
  have L2 : ∀ (n : Nat) (x1 : Nat) (x2 : Int32) (S : vS) (res : vS), f_X4_passes_L2 n x1 x2 S = some res → (K : ∀  (S2 : vS), some S2 = some res → ∀ (H : Heap) (locs : List Loc) (ls : Array Slot), WD D cI cO ad s S2 H locs → lv_has ls 3 [] → W p l e ({ frames := 0, cells := 0, slots := 0, locals := 0 }) s m args below meth c H locs 0 0 Q (F0 m 58 ls [])) → ∀ (H : Heap) (locs : List Loc) (ls : Array Slot), WD D cI cO ad s S H locs → lv_has ls 3 [(0, .ref (ad 5)), (1, .ref (ar ad x1)), (2, .int x2)] → W p l e ({ frames := 0, cells := 0, slots := 0, locals := 0 }) s m args below meth c H locs 0 0 Q (F0 m 2 ls []) := by
    intro n
    induction n with
    | zero => intro x1 x2 S res hf; cases hf
    | succ n ih =>
      intro x1 x2 S res hf K H locs ls hw hl
      unfold f_X4_passes_L2 at hf
      refine lv_iload_n hx hb dX4_passes_2 rfl (lv_at hl 2 rfl) ?_
      refine lv_aload_n hx hb dX4_passes_3 rfl (lv_at hl 1 rfl) ?_
      obtain ⟨h1, hf⟩ := if_s hf
      refine x_alen X hw x1 h1 (v := nI (alen x1)) rfl dX4_passes_4 ?_
      refine lv_icmp_ge (tgt := 58) hx hb dX4_passes_5 (by decide) (fun c2 => ?_) (fun c2 => ?_)
      · replace hf := if_t c2 hf
        exact K S hf _ _ _ hw (lv_sub hl [] rfl)
      · replace hf := if_f c2 hf
        refine lv_aload_n hx hb dX4_passes_8 rfl (lv_at hl 0 rfl) ?_
        refine x_get X hw 5 (Nat.le_of_ble_eq_true rfl) ce5 rfl i_X4 28 (by decide) q618 ⟨rfl, rfl, rfl⟩ rfl dX4_passes_9 ?_
        refine lv_if_eq (tgt := 30) hx hb dX4_passes_12 (by decide) (fun c3 => ?_) (fun c3 => ?_)
        · replace hf := if_t c3 hf
          refine lv_aload_n hx hb dX4_passes_30 rfl (lv_at hl 1 rfl) ?_
          refine lv_iload_n hx hb dX4_passes_31 rfl (lv_at hl 2 rfl) ?_
          refine lv_aload_n hx hb dX4_passes_32 rfl (lv_at hl 0 rfl) ?_
          refine x_get X hw 5 (Nat.le_of_ble_eq_true rfl) ce5 rfl i_X4 26 (by decide) q616 ⟨rfl, rfl, rfl⟩ rfl dX4_passes_33 ?_
          refine lv_aload_n hx hb dX4_passes_36 rfl (lv_at hl 0 rfl) ?_
          refine x_get X hw 5 (Nat.le_of_ble_eq_true rfl) ce5 rfl i_X4 29 (by decide) q619 ⟨rfl, rfl, rfl⟩ rfl dX4_passes_37 ?_
          obtain ⟨h4, hf⟩ := if_s hf
          refine x_iald X hw 21 ⟨Nat.le_of_ble_eq_true rfl, Nat.le_of_ble_eq_true rfl⟩ rfl h4 ((S 0 8).toNatClampNeg) rfl dX4_passes_40 ?_
          obtain ⟨h5, hf⟩ := if_s hf
          refine x_iast X hw x1 h1 rfl h5 (x2.toNatClampNeg) rfl dX4_passes_41 (fun S6 eS6 H locs hw => ?_)
          replace hf := lt_e eS6 hf
          refine lv_aload_n hx hb dX4_passes_42 rfl (lv_at hl 0 rfl) ?_
          refine lv_dup hx hb dX4_passes_43 rfl ?_
          refine x_get X hw 5 (Nat.le_of_ble_eq_true rfl) ce5 rfl i_X4 29 (by decide) q619 ⟨rfl, rfl, rfl⟩ rfl dX4_passes_44 ?_
          refine lv_iconst (v := 1) hx hb dX4_passes_47 (by decide) ?_
          refine lv_iadd hx hb dX4_passes_48 ?_
          refine x_put X hw 5 (Nat.le_of_ble_eq_true rfl) ce5 rfl i_X4 tyX4_ok nmX4 29 (by decide) q619 ⟨rfl, rfl, rfl⟩ rfl pfI rfl rfl (Nat.le_of_ble_eq_true rfl) 8 (ws_8 _) dX4_passes_49 (fun S7 eS7 H locs hw => ?_)
          replace hf := lt_e eS7 hf
          refine lv_iinc (v := (x2 + 1)) (lv' := [(2, .int (x2 + 1)), (0, .ref (ad 5)), (1, .ref (ar ad x1))]) hx hb dX4_passes_52 hl (k := 2) rfl rfl (by decide) rfl (fun ls hl => ?_)
          refine lv_goto (tgt := 2) hx hb dX4_passes_55 (by decide) ?_
          exact ih x1 (x2 + 1) S7 _ hf K _ _ _ hw (lv_sub hl [1, 2, 0] rfl)
        · replace hf := if_f c3 hf
          refine lv_aload_n hx hb dX4_passes_15 rfl (lv_at hl 0 rfl) ?_
          refine x_get X hw 5 (Nat.le_of_ble_eq_true rfl) ce5 rfl i_X4 26 (by decide) q616 ⟨rfl, rfl, rfl⟩ rfl dX4_passes_16 ?_
          refine lv_aload_n hx hb dX4_passes_19 rfl (lv_at hl 0 rfl) ?_
          refine x_get X hw 5 (Nat.le_of_ble_eq_true rfl) ce5 rfl i_X4 29 (by decide) q619 ⟨rfl, rfl, rfl⟩ rfl dX4_passes_20 ?_
          refine lv_aload_n hx hb dX4_passes_23 rfl (lv_at hl 1 rfl) ?_
          refine lv_iload_n hx hb dX4_passes_24 rfl (lv_at hl 2 rfl) ?_
          obtain ⟨h8, hf⟩ := if_s hf
          refine x_iald X hw x1 h1 rfl h8 (x2.toNatClampNeg) rfl dX4_passes_25 ?_
          obtain ⟨h9, hf⟩ := if_s hf
          refine x_iast X hw 21 ⟨Nat.le_of_ble_eq_true rfl, Nat.le_of_ble_eq_true rfl⟩ rfl h9 ((S 0 8).toNatClampNeg) rfl dX4_passes_26 (fun S10 eS10 H locs hw => ?_)
          replace hf := lt_e eS10 hf
          refine lv_goto (tgt := 42) hx hb dX4_passes_27 (by decide) ?_
          refine lv_aload_n hx hb dX4_passes_42 rfl (lv_at hl 0 rfl) ?_
          refine lv_dup hx hb dX4_passes_43 rfl ?_
          refine x_get X hw 5 (Nat.le_of_ble_eq_true rfl) ce5 rfl i_X4 29 (by decide) q619 ⟨rfl, rfl, rfl⟩ rfl dX4_passes_44 ?_
          refine lv_iconst (v := 1) hx hb dX4_passes_47 (by decide) ?_
          refine lv_iadd hx hb dX4_passes_48 ?_
          refine x_put X hw 5 (Nat.le_of_ble_eq_true rfl) ce5 rfl i_X4 tyX4_ok nmX4 29 (by decide) q619 ⟨rfl, rfl, rfl⟩ rfl pfI rfl rfl (Nat.le_of_ble_eq_true rfl) 8 (ws_8 _) dX4_passes_49 (fun S11 eS11 H locs hw => ?_)
          replace hf := lt_e eS11 hf
          refine lv_iinc (v := (x2 + 1)) (lv' := [(2, .int (x2 + 1)), (0, .ref (ad 5)), (1, .ref (ar ad x1))]) hx hb dX4_passes_52 hl (k := 2) rfl rfl (by decide) rfl (fun ls hl => ?_)
          refine lv_goto (tgt := 2) hx hb dX4_passes_55 (by decide) ?_
          exact ih x1 (x2 + 1) S11 _ hf K _ _ _ hw (lv_sub hl [1, 2, 0] rfl)
  unfold f_X4_passes at hf
  refine lv_iconst (v := 0) hx hb dX4_passes_0 (by decide) ?_
  refine lv_istore_n (lv' := [(2, .int (0 : Int32)), (0, .ref (ad 5)), (1, .ref (ar ad a1))]) hx hb dX4_passes_1 rfl hl (by decide) rfl (fun ls hl => ?_)
  obtain ⟨S12, h13, hf⟩ := b1_s hf
  refine L2 FU a1 (0 : Int32) S _ h13 (fun S12' eK H locs ls hw hl => ?_) _ _ _ hw (lv_sub hl [1, 2, 0] rfl)
  cases eK
  exact hfin _ _ 0 _ _ _ hw rfl (Option.some.inj hf) dX4_passes_58
/-- NineLandsModel.passesAll()V -/
theorem dX4_passesAll_0 : decode cX4_passesAll 0 = .ok (.aload_n 0, 1) := by decide +kernel
theorem dX4_passesAll_1 : decode cX4_passesAll 1 = .ok (.iconst 0, 1) := by decide +kernel
theorem dX4_passesAll_2 : decode cX4_passesAll 2 = .ok (.putfield 188, 3) := by decide +kernel
theorem dX4_passesAll_5 : decode cX4_passesAll 5 = .ok (.aload_n 0, 1) := by decide +kernel
theorem dX4_passesAll_6 : decode cX4_passesAll 6 = .ok (.aload_n 0, 1) := by decide +kernel
theorem dX4_passesAll_7 : decode cX4_passesAll 7 = .ok (.getfield 16, 3) := by decide +kernel
theorem dX4_passesAll_10 : decode cX4_passesAll 10 = .ok (.invokevirtual 191, 3) := by decide +kernel
theorem dX4_passesAll_13 : decode cX4_passesAll 13 = .ok (.aload_n 0, 1) := by decide +kernel
theorem dX4_passesAll_14 : decode cX4_passesAll 14 = .ok (.aload_n 0, 1) := by decide +kernel
theorem dX4_passesAll_15 : decode cX4_passesAll 15 = .ok (.getfield 19, 3) := by decide +kernel
theorem dX4_passesAll_18 : decode cX4_passesAll 18 = .ok (.invokevirtual 191, 3) := by decide +kernel
theorem dX4_passesAll_21 : decode cX4_passesAll 21 = .ok (.aload_n 0, 1) := by decide +kernel
theorem dX4_passesAll_22 : decode cX4_passesAll 22 = .ok (.aload_n 0, 1) := by decide +kernel
theorem dX4_passesAll_23 : decode cX4_passesAll 23 = .ok (.getfield 22, 3) := by decide +kernel
theorem dX4_passesAll_26 : decode cX4_passesAll 26 = .ok (.invokevirtual 191, 3) := by decide +kernel
theorem dX4_passesAll_29 : decode cX4_passesAll 29 = .ok (.aload_n 0, 1) := by decide +kernel
theorem dX4_passesAll_30 : decode cX4_passesAll 30 = .ok (.aload_n 0, 1) := by decide +kernel
theorem dX4_passesAll_31 : decode cX4_passesAll 31 = .ok (.getfield 25, 3) := by decide +kernel
theorem dX4_passesAll_34 : decode cX4_passesAll 34 = .ok (.invokevirtual 191, 3) := by decide +kernel
theorem dX4_passesAll_37 : decode cX4_passesAll 37 = .ok (.aload_n 0, 1) := by decide +kernel
theorem dX4_passesAll_38 : decode cX4_passesAll 38 = .ok (.aload_n 0, 1) := by decide +kernel
theorem dX4_passesAll_39 : decode cX4_passesAll 39 = .ok (.getfield 28, 3) := by decide +kernel
theorem dX4_passesAll_42 : decode cX4_passesAll 42 = .ok (.invokevirtual 191, 3) := by decide +kernel
theorem dX4_passesAll_45 : decode cX4_passesAll 45 = .ok (.aload_n 0, 1) := by decide +kernel
theorem dX4_passesAll_46 : decode cX4_passesAll 46 = .ok (.aload_n 0, 1) := by decide +kernel
theorem dX4_passesAll_47 : decode cX4_passesAll 47 = .ok (.getfield 31, 3) := by decide +kernel
theorem dX4_passesAll_50 : decode cX4_passesAll 50 = .ok (.invokevirtual 191, 3) := by decide +kernel
theorem dX4_passesAll_53 : decode cX4_passesAll 53 = .ok (.aload_n 0, 1) := by decide +kernel
theorem dX4_passesAll_54 : decode cX4_passesAll 54 = .ok (.aload_n 0, 1) := by decide +kernel
theorem dX4_passesAll_55 : decode cX4_passesAll 55 = .ok (.getfield 34, 3) := by decide +kernel
theorem dX4_passesAll_58 : decode cX4_passesAll 58 = .ok (.invokevirtual 191, 3) := by decide +kernel
theorem dX4_passesAll_61 : decode cX4_passesAll 61 = .ok (.aload_n 0, 1) := by decide +kernel
theorem dX4_passesAll_62 : decode cX4_passesAll 62 = .ok (.aload_n 0, 1) := by decide +kernel
theorem dX4_passesAll_63 : decode cX4_passesAll 63 = .ok (.getfield 37, 3) := by decide +kernel
theorem dX4_passesAll_66 : decode cX4_passesAll 66 = .ok (.invokevirtual 191, 3) := by decide +kernel
theorem dX4_passesAll_69 : decode cX4_passesAll 69 = .ok (.aload_n 0, 1) := by decide +kernel
theorem dX4_passesAll_70 : decode cX4_passesAll 70 = .ok (.aload_n 0, 1) := by decide +kernel
theorem dX4_passesAll_71 : decode cX4_passesAll 71 = .ok (.getfield 40, 3) := by decide +kernel
theorem dX4_passesAll_74 : decode cX4_passesAll 74 = .ok (.invokevirtual 191, 3) := by decide +kernel
theorem dX4_passesAll_77 : decode cX4_passesAll 77 = .ok (.aload_n 0, 1) := by decide +kernel
theorem dX4_passesAll_78 : decode cX4_passesAll 78 = .ok (.aload_n 0, 1) := by decide +kernel
theorem dX4_passesAll_79 : decode cX4_passesAll 79 = .ok (.getfield 43, 3) := by decide +kernel
theorem dX4_passesAll_82 : decode cX4_passesAll 82 = .ok (.invokevirtual 191, 3) := by decide +kernel
theorem dX4_passesAll_85 : decode cX4_passesAll 85 = .ok (.aload_n 0, 1) := by decide +kernel
theorem dX4_passesAll_86 : decode cX4_passesAll 86 = .ok (.getfield 185, 3) := by decide +kernel
theorem dX4_passesAll_89 : decode cX4_passesAll 89 = .ok (.ifCond .eq 19, 3) := by decide +kernel
theorem dX4_passesAll_92 : decode cX4_passesAll 92 = .ok (.aload_n 0, 1) := by decide +kernel
theorem dX4_passesAll_93 : decode cX4_passesAll 93 = .ok (.getfield 74, 3) := by decide +kernel
theorem dX4_passesAll_96 : decode cX4_passesAll 96 = .ok (.aload_n 0, 1) := by decide +kernel
theorem dX4_passesAll_97 : decode cX4_passesAll 97 = .ok (.getfield 188, 3) := by decide +kernel
theorem dX4_passesAll_100 : decode cX4_passesAll 100 = .ok (.aload_n 0, 1) := by decide +kernel
theorem dX4_passesAll_101 : decode cX4_passesAll 101 = .ok (.getfield 102, 3) := by decide +kernel
theorem dX4_passesAll_104 : decode cX4_passesAll 104 = .ok (.iastore, 1) := by decide +kernel
theorem dX4_passesAll_105 : decode cX4_passesAll 105 = .ok (.goto 16, 3) := by decide +kernel
theorem dX4_passesAll_108 : decode cX4_passesAll 108 = .ok (.aload_n 0, 1) := by decide +kernel
theorem dX4_passesAll_109 : decode cX4_passesAll 109 = .ok (.aload_n 0, 1) := by decide +kernel
theorem dX4_passesAll_110 : decode cX4_passesAll 110 = .ok (.getfield 74, 3) := by decide +kernel
theorem dX4_passesAll_113 : decode cX4_passesAll 113 = .ok (.aload_n 0, 1) := by decide +kernel
theorem dX4_passesAll_114 : decode cX4_passesAll 114 = .ok (.getfield 188, 3) := by decide +kernel
theorem dX4_passesAll_117 : decode cX4_passesAll 117 = .ok (.iaload, 1) := by decide +kernel
theorem dX4_passesAll_118 : decode cX4_passesAll 118 = .ok (.putfield 102, 3) := by decide +kernel
theorem dX4_passesAll_121 : decode cX4_passesAll 121 = .ok (.return_, 1) := by decide +kernel
theorem hd_X4_passesAll : yX4_passesAll.cls ≠ "java/lang/invoke/MethodHandle" ∧ yX4_passesAll.cls ≠ "java/lang/invoke/VarHandle" ∧ (parseMethodDescriptor yX4_passesAll.desc).map (fun d => d.parameters.length) = some 0 := by decide +kernel
def f_X4_passesAll  (S : vS) : Option vS := lt (upk S 0 (upd (S 0) 8 (0 : Int32))) fun S1 => b1 (f_X4_passes 3 S1) fun S3 => b1 (f_X4_passes 4 S3) fun S5 => b1 (f_X4_passes 5 S5) fun S7 => b1 (f_X4_passes 6 S7) fun S9 => b1 (f_X4_passes 7 S9) fun S11 => b1 (f_X4_passes 8 S11) fun S13 => b1 (f_X4_passes 9 S13) fun S15 => b1 (f_X4_passes 10 S15) fun S17 => b1 (f_X4_passes 11 S17) fun S19 => b1 (f_X4_passes 12 S19) fun S21 => if (S21 0 7) = 0 then if inb (S21 0 8) 300 = true then lt (upk S21 0 (upd (S21 0) 2 (S21 21 ((S21 0 8).toNatClampNeg)))) fun S24 => some S24 else none else if inb (S21 0 8) 300 = true then lt (upk S21 21 (upd (S21 21) ((S21 0 8).toNatClampNeg) (S21 0 2))) fun S26 => some S26 else none
set_option maxHeartbeats 4000000 in
set_option maxRecDepth 20000 in
theorem c_X4_passesAll (l : Launch) (D : va_G) (cI cO : ClassId) (ad : Nat → Nat)  (S : vS) (S9 : vS) (hf : f_X4_passesAll  S = some S9) : CV l yX4_passesAll cX4_passesAll 1 ({ frames := 1, cells := 0, slots := 0, locals := 22 }) [.ref (ad 5)] D cI cO ad S S9 := by
  refine CV.of (r := 0) (by decide +kernel) (Nat.le_of_ble_eq_true rfl) (fun p e s m args below meth c Q ls X hl hw hfin => ?_)
  have hl : lv_has ls 1 [(0, .ref (ad 5))] := hl
  have hx := X.1
  have hb := X.2.1
  unfold f_X4_passesAll at hf
  refine lv_aload_n hx hb dX4_passesAll_0 rfl (lv_at hl 0 rfl) ?_
  refine lv_iconst (v := 0) hx hb dX4_passesAll_1 (by decide) ?_
  refine x_put X hw 5 (Nat.le_of_ble_eq_true rfl) ce5 rfl i_X4 tyX4_ok nmX4 29 (by decide) q619 ⟨rfl, rfl, rfl⟩ rfl pfI rfl rfl (Nat.le_of_ble_eq_true rfl) 8 (ws_8 _) dX4_passesAll_2 (fun S1 eS1 H locs hw => ?_)
  replace hf := lt_e eS1 hf
  refine lv_aload_n hx hb dX4_passesAll_5 rfl (lv_at hl 0 rfl) ?_
  refine lv_aload_n hx hb dX4_passesAll_6 rfl (lv_at hl 0 rfl) ?_
  refine x_get X hw 5 (Nat.le_of_ble_eq_true rfl) ce5 rfl i_X4 2 (by decide) q592 ⟨rfl, rfl, rfl⟩ rfl dX4_passesAll_7 ?_
  obtain ⟨S3, h2, hf⟩ := b1_s hf
  refine kVv X hw (c_X4_passes l D cI cO ad 3 S1 S3 h2) (Nat.le_of_ble_eq_true rfl) ce5 rfl ⟨rfl, rfl⟩ q891 q893 q57 q64 q894 hd_X4_passes ⟨Nat.le_of_ble_eq_true rfl, Nat.le_of_ble_eq_true rfl⟩ rfl hl.1 rfl (Nat.le_of_ble_eq_true rfl) dX4_passesAll_10 (fun H locs hw => ?_)
  refine lv_aload_n hx hb dX4_passesAll_13 rfl (lv_at hl 0 rfl) ?_
  refine lv_aload_n hx hb dX4_passesAll_14 rfl (lv_at hl 0 rfl) ?_
  refine x_get X hw 5 (Nat.le_of_ble_eq_true rfl) ce5 rfl i_X4 3 (by decide) q593 ⟨rfl, rfl, rfl⟩ rfl dX4_passesAll_15 ?_
  obtain ⟨S5, h4, hf⟩ := b1_s hf
  refine kVv X hw (c_X4_passes l D cI cO ad 4 S3 S5 h4) (Nat.le_of_ble_eq_true rfl) ce5 rfl ⟨rfl, rfl⟩ q891 q893 q57 q64 q894 hd_X4_passes ⟨Nat.le_of_ble_eq_true rfl, Nat.le_of_ble_eq_true rfl⟩ rfl hl.1 rfl (Nat.le_of_ble_eq_true rfl) dX4_passesAll_18 (fun H locs hw => ?_)
  refine lv_aload_n hx hb dX4_passesAll_21 rfl (lv_at hl 0 rfl) ?_
  refine lv_aload_n hx hb dX4_passesAll_22 rfl (lv_at hl 0 rfl) ?_
  refine x_get X hw 5 (Nat.le_of_ble_eq_true rfl) ce5 rfl i_X4 4 (by decide) q594 ⟨rfl, rfl, rfl⟩ rfl dX4_passesAll_23 ?_
  obtain ⟨S7, h6, hf⟩ := b1_s hf
  refine kVv X hw (c_X4_passes l D cI cO ad 5 S5 S7 h6) (Nat.le_of_ble_eq_true rfl) ce5 rfl ⟨rfl, rfl⟩ q891 q893 q57 q64 q894 hd_X4_passes ⟨Nat.le_of_ble_eq_true rfl, Nat.le_of_ble_eq_true rfl⟩ rfl hl.1 rfl (Nat.le_of_ble_eq_true rfl) dX4_passesAll_26 (fun H locs hw => ?_)
  refine lv_aload_n hx hb dX4_passesAll_29 rfl (lv_at hl 0 rfl) ?_
  refine lv_aload_n hx hb dX4_passesAll_30 rfl (lv_at hl 0 rfl) ?_
  refine x_get X hw 5 (Nat.le_of_ble_eq_true rfl) ce5 rfl i_X4 5 (by decide) q595 ⟨rfl, rfl, rfl⟩ rfl dX4_passesAll_31 ?_
  obtain ⟨S9, h8, hf⟩ := b1_s hf
  refine kVv X hw (c_X4_passes l D cI cO ad 6 S7 S9 h8) (Nat.le_of_ble_eq_true rfl) ce5 rfl ⟨rfl, rfl⟩ q891 q893 q57 q64 q894 hd_X4_passes ⟨Nat.le_of_ble_eq_true rfl, Nat.le_of_ble_eq_true rfl⟩ rfl hl.1 rfl (Nat.le_of_ble_eq_true rfl) dX4_passesAll_34 (fun H locs hw => ?_)
  refine lv_aload_n hx hb dX4_passesAll_37 rfl (lv_at hl 0 rfl) ?_
  refine lv_aload_n hx hb dX4_passesAll_38 rfl (lv_at hl 0 rfl) ?_
  refine x_get X hw 5 (Nat.le_of_ble_eq_true rfl) ce5 rfl i_X4 6 (by decide) q596 ⟨rfl, rfl, rfl⟩ rfl dX4_passesAll_39 ?_
  obtain ⟨S11, h10, hf⟩ := b1_s hf
  refine kVv X hw (c_X4_passes l D cI cO ad 7 S9 S11 h10) (Nat.le_of_ble_eq_true rfl) ce5 rfl ⟨rfl, rfl⟩ q891 q893 q57 q64 q894 hd_X4_passes ⟨Nat.le_of_ble_eq_true rfl, Nat.le_of_ble_eq_true rfl⟩ rfl hl.1 rfl (Nat.le_of_ble_eq_true rfl) dX4_passesAll_42 (fun H locs hw => ?_)
  refine lv_aload_n hx hb dX4_passesAll_45 rfl (lv_at hl 0 rfl) ?_
  refine lv_aload_n hx hb dX4_passesAll_46 rfl (lv_at hl 0 rfl) ?_
  refine x_get X hw 5 (Nat.le_of_ble_eq_true rfl) ce5 rfl i_X4 7 (by decide) q597 ⟨rfl, rfl, rfl⟩ rfl dX4_passesAll_47 ?_
  obtain ⟨S13, h12, hf⟩ := b1_s hf
  refine kVv X hw (c_X4_passes l D cI cO ad 8 S11 S13 h12) (Nat.le_of_ble_eq_true rfl) ce5 rfl ⟨rfl, rfl⟩ q891 q893 q57 q64 q894 hd_X4_passes ⟨Nat.le_of_ble_eq_true rfl, Nat.le_of_ble_eq_true rfl⟩ rfl hl.1 rfl (Nat.le_of_ble_eq_true rfl) dX4_passesAll_50 (fun H locs hw => ?_)
  refine lv_aload_n hx hb dX4_passesAll_53 rfl (lv_at hl 0 rfl) ?_
  refine lv_aload_n hx hb dX4_passesAll_54 rfl (lv_at hl 0 rfl) ?_
  refine x_get X hw 5 (Nat.le_of_ble_eq_true rfl) ce5 rfl i_X4 8 (by decide) q598 ⟨rfl, rfl, rfl⟩ rfl dX4_passesAll_55 ?_
  obtain ⟨S15, h14, hf⟩ := b1_s hf
  refine kVv X hw (c_X4_passes l D cI cO ad 9 S13 S15 h14) (Nat.le_of_ble_eq_true rfl) ce5 rfl ⟨rfl, rfl⟩ q891 q893 q57 q64 q894 hd_X4_passes ⟨Nat.le_of_ble_eq_true rfl, Nat.le_of_ble_eq_true rfl⟩ rfl hl.1 rfl (Nat.le_of_ble_eq_true rfl) dX4_passesAll_58 (fun H locs hw => ?_)
  refine lv_aload_n hx hb dX4_passesAll_61 rfl (lv_at hl 0 rfl) ?_
  refine lv_aload_n hx hb dX4_passesAll_62 rfl (lv_at hl 0 rfl) ?_
  refine x_get X hw 5 (Nat.le_of_ble_eq_true rfl) ce5 rfl i_X4 9 (by decide) q599 ⟨rfl, rfl, rfl⟩ rfl dX4_passesAll_63 ?_
  obtain ⟨S17, h16, hf⟩ := b1_s hf
  refine kVv X hw (c_X4_passes l D cI cO ad 10 S15 S17 h16) (Nat.le_of_ble_eq_true rfl) ce5 rfl ⟨rfl, rfl⟩ q891 q893 q57 q64 q894 hd_X4_passes ⟨Nat.le_of_ble_eq_true rfl, Nat.le_of_ble_eq_true rfl⟩ rfl hl.1 rfl (Nat.le_of_ble_eq_true rfl) dX4_passesAll_66 (fun H locs hw => ?_)
  refine lv_aload_n hx hb dX4_passesAll_69 rfl (lv_at hl 0 rfl) ?_
  refine lv_aload_n hx hb dX4_passesAll_70 rfl (lv_at hl 0 rfl) ?_
  refine x_get X hw 5 (Nat.le_of_ble_eq_true rfl) ce5 rfl i_X4 10 (by decide) q600 ⟨rfl, rfl, rfl⟩ rfl dX4_passesAll_71 ?_
  obtain ⟨S19, h18, hf⟩ := b1_s hf
  refine kVv X hw (c_X4_passes l D cI cO ad 11 S17 S19 h18) (Nat.le_of_ble_eq_true rfl) ce5 rfl ⟨rfl, rfl⟩ q891 q893 q57 q64 q894 hd_X4_passes ⟨Nat.le_of_ble_eq_true rfl, Nat.le_of_ble_eq_true rfl⟩ rfl hl.1 rfl (Nat.le_of_ble_eq_true rfl) dX4_passesAll_74 (fun H locs hw => ?_)
  refine lv_aload_n hx hb dX4_passesAll_77 rfl (lv_at hl 0 rfl) ?_
  refine lv_aload_n hx hb dX4_passesAll_78 rfl (lv_at hl 0 rfl) ?_
  refine x_get X hw 5 (Nat.le_of_ble_eq_true rfl) ce5 rfl i_X4 11 (by decide) q601 ⟨rfl, rfl, rfl⟩ rfl dX4_passesAll_79 ?_
  obtain ⟨S21, h20, hf⟩ := b1_s hf
  refine kVv X hw (c_X4_passes l D cI cO ad 12 S19 S21 h20) (Nat.le_of_ble_eq_true rfl) ce5 rfl ⟨rfl, rfl⟩ q891 q893 q57 q64 q894 hd_X4_passes ⟨Nat.le_of_ble_eq_true rfl, Nat.le_of_ble_eq_true rfl⟩ rfl hl.1 rfl (Nat.le_of_ble_eq_true rfl) dX4_passesAll_82 (fun H locs hw => ?_)
  refine lv_aload_n hx hb dX4_passesAll_85 rfl (lv_at hl 0 rfl) ?_
  refine x_get X hw 5 (Nat.le_of_ble_eq_true rfl) ce5 rfl i_X4 28 (by decide) q618 ⟨rfl, rfl, rfl⟩ rfl dX4_passesAll_86 ?_
  refine lv_if_eq (tgt := 108) hx hb dX4_passesAll_89 (by decide) (fun c22 => ?_) (fun c22 => ?_)
  · replace hf := if_t c22 hf
    refine lv_aload_n hx hb dX4_passesAll_108 rfl (lv_at hl 0 rfl) ?_
    refine lv_aload_n hx hb dX4_passesAll_109 rfl (lv_at hl 0 rfl) ?_
    refine x_get X hw 5 (Nat.le_of_ble_eq_true rfl) ce5 rfl i_X4 26 (by decide) q616 ⟨rfl, rfl, rfl⟩ rfl dX4_passesAll_110 ?_
    refine lv_aload_n hx hb dX4_passesAll_113 rfl (lv_at hl 0 rfl) ?_
    refine x_get X hw 5 (Nat.le_of_ble_eq_true rfl) ce5 rfl i_X4 29 (by decide) q619 ⟨rfl, rfl, rfl⟩ rfl dX4_passesAll_114 ?_
    obtain ⟨h23, hf⟩ := if_s hf
    refine x_iald X hw 21 ⟨Nat.le_of_ble_eq_true rfl, Nat.le_of_ble_eq_true rfl⟩ rfl h23 ((S21 0 8).toNatClampNeg) rfl dX4_passesAll_117 ?_
    refine x_put X hw 5 (Nat.le_of_ble_eq_true rfl) ce5 rfl i_X4 tyX4_ok nmX4 15 (by decide) q605 ⟨rfl, rfl, rfl⟩ rfl pfI rfl rfl (Nat.le_of_ble_eq_true rfl) 2 (ws_2 _) dX4_passesAll_118 (fun S24 eS24 H locs hw => ?_)
    replace hf := lt_e eS24 hf
    exact hfin _ _ 0 _ _ _ hw rfl (Option.some.inj hf) dX4_passesAll_121
  · replace hf := if_f c22 hf
    refine lv_aload_n hx hb dX4_passesAll_92 rfl (lv_at hl 0 rfl) ?_
    refine x_get X hw 5 (Nat.le_of_ble_eq_true rfl) ce5 rfl i_X4 26 (by decide) q616 ⟨rfl, rfl, rfl⟩ rfl dX4_passesAll_93 ?_
    refine lv_aload_n hx hb dX4_passesAll_96 rfl (lv_at hl 0 rfl) ?_
    refine x_get X hw 5 (Nat.le_of_ble_eq_true rfl) ce5 rfl i_X4 29 (by decide) q619 ⟨rfl, rfl, rfl⟩ rfl dX4_passesAll_97 ?_
    refine lv_aload_n hx hb dX4_passesAll_100 rfl (lv_at hl 0 rfl) ?_
    refine x_get X hw 5 (Nat.le_of_ble_eq_true rfl) ce5 rfl i_X4 15 (by decide) q605 ⟨rfl, rfl, rfl⟩ rfl dX4_passesAll_101 ?_
    obtain ⟨h25, hf⟩ := if_s hf
    refine x_iast X hw 21 ⟨Nat.le_of_ble_eq_true rfl, Nat.le_of_ble_eq_true rfl⟩ rfl h25 ((S21 0 8).toNatClampNeg) rfl dX4_passesAll_104 (fun S26 eS26 H locs hw => ?_)
    replace hf := lt_e eS26 hf
    refine lv_goto (tgt := 121) hx hb dX4_passesAll_105 (by decide) ?_
    exact hfin _ _ 0 _ _ _ hw rfl (Option.some.inj hf) dX4_passesAll_121
/-- NineLandsModel.image()I -/
theorem dX4_image_0 : decode cX4_image 0 = .ok (.aload_n 0, 1) := by decide +kernel
theorem dX4_image_1 : decode cX4_image 1 = .ok (.iconst 1, 1) := by decide +kernel
theorem dX4_image_2 : decode cX4_image 2 = .ok (.putfield 185, 3) := by decide +kernel
theorem dX4_image_5 : decode cX4_image 5 = .ok (.aload_n 0, 1) := by decide +kernel
theorem dX4_image_6 : decode cX4_image 6 = .ok (.iconst 1, 1) := by decide +kernel
theorem dX4_image_7 : decode cX4_image 7 = .ok (.putfield 195, 3) := by decide +kernel
theorem dX4_image_10 : decode cX4_image 10 = .ok (.aload_n 0, 1) := by decide +kernel
theorem dX4_image_11 : decode cX4_image 11 = .ok (.invokevirtual 198, 3) := by decide +kernel
theorem dX4_image_14 : decode cX4_image 14 = .ok (.aload_n 0, 1) := by decide +kernel
theorem dX4_image_15 : decode cX4_image 15 = .ok (.getfield 102, 3) := by decide +kernel
theorem dX4_image_18 : decode cX4_image 18 = .ok (.ireturn, 1) := by decide +kernel
theorem hd_X4_image : yX4_image.cls ≠ "java/lang/invoke/MethodHandle" ∧ yX4_image.cls ≠ "java/lang/invoke/VarHandle" ∧ (parseMethodDescriptor yX4_image.desc).map (fun d => d.parameters.length) = some 0 := by decide +kernel
def f_X4_image  (S : vS) : Option (Int32 × vS) := lt (upk S 0 (upd (S 0) 7 (1 : Int32))) fun S1 => lt (upk S1 0 (upd (S1 0) 6 (1 : Int32))) fun S2 => b1 (f_X4_passesAll  S2) fun S4 => some ((S4 0 2), S4)
set_option maxHeartbeats 4000000 in
set_option maxRecDepth 20000 in
theorem c_X4_image (l : Launch) (D : va_G) (cI cO : ClassId) (ad : Nat → Nat)  (S : vS) (R9 : Int32) (S9 : vS) (hf : f_X4_image  S = some (R9, S9)) : CI l yX4_image cX4_image 1 .int ({ frames := 2, cells := 0, slots := 0, locals := 42 }) [.ref (ad 5)] D cI cO ad S R9 S9 := by
  refine CI.of (by decide +kernel) (Nat.le_of_ble_eq_true rfl) (fun p e s m args below meth c Q ls X hl hw hfin => ?_)
  have hl : lv_has ls 1 [(0, .ref (ad 5))] := hl
  have hx := X.1
  have hb := X.2.1
  unfold f_X4_image at hf
  refine lv_aload_n hx hb dX4_image_0 rfl (lv_at hl 0 rfl) ?_
  refine lv_iconst (v := 1) hx hb dX4_image_1 (by decide) ?_
  refine x_put X hw 5 (Nat.le_of_ble_eq_true rfl) ce5 rfl i_X4 tyX4_ok nmX4 28 (by decide) q618 ⟨rfl, rfl, rfl⟩ rfl pfZ rfl rfl (Nat.le_of_ble_eq_true rfl) 7 (ws_7 _) dX4_image_2 (fun S1 eS1 H locs hw => ?_)
  replace hf := lt_e eS1 hf
  refine lv_aload_n hx hb dX4_image_5 rfl (lv_at hl 0 rfl) ?_
  refine lv_iconst (v := 1) hx hb dX4_image_6 (by decide) ?_
  refine x_put X hw 5 (Nat.le_of_ble_eq_true rfl) ce5 rfl i_X4 tyX4_ok nmX4 27 (by decide) q617 ⟨rfl, rfl, rfl⟩ rfl pfZ rfl rfl (Nat.le_of_ble_eq_true rfl) 6 (ws_6 _) dX4_image_7 (fun S2 eS2 H locs hw => ?_)
  replace hf := lt_e eS2 hf
  refine lv_aload_n hx hb dX4_image_10 rfl (lv_at hl 0 rfl) ?_
  obtain ⟨S4, h3, hf⟩ := b1_s hf
  refine kVv X hw (c_X4_passesAll l D cI cO ad  S2 S4 h3) (Nat.le_of_ble_eq_true rfl) ce5 rfl ⟨rfl, rfl⟩ q887 q889 q56 q64 q890 hd_X4_passesAll ⟨Nat.le_of_ble_eq_true rfl, Nat.le_of_ble_eq_true rfl⟩ rfl hl.1 rfl (Nat.le_of_ble_eq_true rfl) dX4_image_11 (fun H locs hw => ?_)
  refine lv_aload_n hx hb dX4_image_14 rfl (lv_at hl 0 rfl) ?_
  refine x_get X hw 5 (Nat.le_of_ble_eq_true rfl) ce5 rfl i_X4 15 (by decide) q605 ⟨rfl, rfl, rfl⟩ rfl dX4_image_15 ?_
  exact hfin _ _ _ _ _ _ hw (s2a hf) (s2b hf) (narI _) dX4_image_18
/-- NineLandsModel.on()I -/
theorem dX4_on_0 : decode cX4_on 0 = .ok (.aload_n 0, 1) := by decide +kernel
theorem dX4_on_1 : decode cX4_on 1 = .ok (.getfield 195, 3) := by decide +kernel
theorem dX4_on_4 : decode cX4_on 4 = .ok (.ifCond .ne 10, 3) := by decide +kernel
theorem dX4_on_7 : decode cX4_on 7 = .ok (.aload_n 0, 1) := by decide +kernel
theorem dX4_on_8 : decode cX4_on 8 = .ok (.bipush (-3), 2) := by decide +kernel
theorem dX4_on_10 : decode cX4_on 10 = .ok (.invokevirtual 85, 3) := by decide +kernel
theorem dX4_on_13 : decode cX4_on 13 = .ok (.ireturn, 1) := by decide +kernel
theorem dX4_on_14 : decode cX4_on 14 = .ok (.aload_n 0, 1) := by decide +kernel
theorem dX4_on_15 : decode cX4_on 15 = .ok (.iconst 0, 1) := by decide +kernel
theorem dX4_on_16 : decode cX4_on 16 = .ok (.putfield 185, 3) := by decide +kernel
theorem dX4_on_19 : decode cX4_on 19 = .ok (.aload_n 0, 1) := by decide +kernel
theorem dX4_on_20 : decode cX4_on 20 = .ok (.invokevirtual 198, 3) := by decide +kernel
theorem dX4_on_23 : decode cX4_on 23 = .ok (.aload_n 0, 1) := by decide +kernel
theorem dX4_on_24 : decode cX4_on 24 = .ok (.getfield 102, 3) := by decide +kernel
theorem dX4_on_27 : decode cX4_on 27 = .ok (.ireturn, 1) := by decide +kernel
theorem hd_X4_on : yX4_on.cls ≠ "java/lang/invoke/MethodHandle" ∧ yX4_on.cls ≠ "java/lang/invoke/VarHandle" ∧ (parseMethodDescriptor yX4_on.desc).map (fun d => d.parameters.length) = some 0 := by decide +kernel
def f_X4_on  (S : vS) : Option (Int32 × vS) := if (S 0 6) = 0 then b2 (f_X4_no (-3 : Int32) S) fun r7 S6 => some (r7, S6) else lt (upk S 0 (upd (S 0) 7 (0 : Int32))) fun S2 => b1 (f_X4_passesAll  S2) fun S4 => some ((S4 0 2), S4)
set_option maxHeartbeats 4000000 in
set_option maxRecDepth 20000 in
theorem c_X4_on (l : Launch) (D : va_G) (cI cO : ClassId) (ad : Nat → Nat)  (S : vS) (R9 : Int32) (S9 : vS) (hf : f_X4_on  S = some (R9, S9)) : CI l yX4_on cX4_on 1 .int ({ frames := 2, cells := 0, slots := 0, locals := 42 }) [.ref (ad 5)] D cI cO ad S R9 S9 := by
  refine CI.of (by decide +kernel) (Nat.le_of_ble_eq_true rfl) (fun p e s m args below meth c Q ls X hl hw hfin => ?_)
  have hl : lv_has ls 1 [(0, .ref (ad 5))] := hl
  have hx := X.1
  have hb := X.2.1
  unfold f_X4_on at hf
  refine lv_aload_n hx hb dX4_on_0 rfl (lv_at hl 0 rfl) ?_
  refine x_get X hw 5 (Nat.le_of_ble_eq_true rfl) ce5 rfl i_X4 27 (by decide) q617 ⟨rfl, rfl, rfl⟩ rfl dX4_on_1 ?_
  refine lv_if_ne (tgt := 14) hx hb dX4_on_4 (by decide) (fun c1 => ?_) (fun c1 => ?_)
  · replace hf := if_f c1 hf
    refine lv_aload_n hx hb dX4_on_14 rfl (lv_at hl 0 rfl) ?_
    refine lv_iconst (v := 0) hx hb dX4_on_15 (by decide) ?_
    refine x_put X hw 5 (Nat.le_of_ble_eq_true rfl) ce5 rfl i_X4 tyX4_ok nmX4 28 (by decide) q618 ⟨rfl, rfl, rfl⟩ rfl pfZ rfl rfl (Nat.le_of_ble_eq_true rfl) 7 (ws_7 _) dX4_on_16 (fun S2 eS2 H locs hw => ?_)
    replace hf := lt_e eS2 hf
    refine lv_aload_n hx hb dX4_on_19 rfl (lv_at hl 0 rfl) ?_
    obtain ⟨S4, h3, hf⟩ := b1_s hf
    refine kVv X hw (c_X4_passesAll l D cI cO ad  S2 S4 h3) (Nat.le_of_ble_eq_true rfl) ce5 rfl ⟨rfl, rfl⟩ q887 q889 q56 q64 q890 hd_X4_passesAll ⟨Nat.le_of_ble_eq_true rfl, Nat.le_of_ble_eq_true rfl⟩ rfl hl.1 rfl (Nat.le_of_ble_eq_true rfl) dX4_on_20 (fun H locs hw => ?_)
    refine lv_aload_n hx hb dX4_on_23 rfl (lv_at hl 0 rfl) ?_
    refine x_get X hw 5 (Nat.le_of_ble_eq_true rfl) ce5 rfl i_X4 15 (by decide) q605 ⟨rfl, rfl, rfl⟩ rfl dX4_on_24 ?_
    exact hfin _ _ _ _ _ _ hw (s2a hf) (s2b hf) (narI _) dX4_on_27
  · replace hf := if_t c1 hf
    refine lv_aload_n hx hb dX4_on_7 rfl (lv_at hl 0 rfl) ?_
    refine lv_bipush (v := -3) hx hb dX4_on_8 (by decide +kernel) ?_
    obtain ⟨r7, S6, h5, hf⟩ := b2_s hf
    refine kVi X hw (c_X4_no l D cI cO ad (-3 : Int32) S r7 S6 h5) (Nat.le_of_ble_eq_true rfl) ce5 rfl ⟨rfl, rfl⟩ q688 q690 q34 q64 q691 hd_X4_no ⟨Nat.le_of_ble_eq_true rfl, Nat.le_of_ble_eq_true rfl⟩ rfl hl.1 rfl (Nat.le_of_ble_eq_true rfl) dX4_on_10 (fun H locs hw => ?_)
    exact hfin _ _ _ _ _ _ hw (s2a hf) (s2b hf) (narI _) dX4_on_13
/-- NineLandsModel.count(I)I -/
theorem dX4_count_0 : decode cX4_count 0 = .ok (.iload_n 1, 1) := by decide +kernel
theorem dX4_count_1 : decode cX4_count 1 = .ok (.bipush 11, 2) := by decide +kernel
theorem dX4_count_3 : decode cX4_count 3 = .ok (.bipush 16, 2) := by decide +kernel
theorem dX4_count_5 : decode cX4_count 5 = .ok (.invokestatic 98, 3) := by decide +kernel
theorem dX4_count_8 : decode cX4_count 8 = .ok (.ifCond .eq 13, 3) := by decide +kernel
theorem dX4_count_11 : decode cX4_count 11 = .ok (.aload_n 0, 1) := by decide +kernel
theorem dX4_count_12 : decode cX4_count 12 = .ok (.getfield 7, 3) := by decide +kernel
theorem dX4_count_15 : decode cX4_count 15 = .ok (.iload_n 1, 1) := by decide +kernel
theorem dX4_count_16 : decode cX4_count 16 = .ok (.bipush 10, 2) := by decide +kernel
theorem dX4_count_18 : decode cX4_count 18 = .ok (.isub, 1) := by decide +kernel
theorem dX4_count_19 : decode cX4_count 19 = .ok (.iaload, 1) := by decide +kernel
theorem dX4_count_20 : decode cX4_count 20 = .ok (.ireturn, 1) := by decide +kernel
theorem dX4_count_21 : decode cX4_count 21 = .ok (.iconst 0, 1) := by decide +kernel
theorem dX4_count_22 : decode cX4_count 22 = .ok (.istore_n 2, 1) := by decide +kernel
theorem dX4_count_23 : decode cX4_count 23 = .ok (.iload_n 1, 1) := by decide +kernel
theorem dX4_count_24 : decode cX4_count 24 = .ok (.tableswitch 114 0 5 #[40, 45, 72, 99, 104, 109], 40) := by decide +kernel
theorem dX4_count_64 : decode cX4_count 64 = .ok (.aload_n 0, 1) := by decide +kernel
theorem dX4_count_65 : decode cX4_count 65 = .ok (.getfield 102, 3) := by decide +kernel
theorem dX4_count_68 : decode cX4_count 68 = .ok (.ireturn, 1) := by decide +kernel
theorem dX4_count_69 : decode cX4_count 69 = .ok (.iconst 0, 1) := by decide +kernel
theorem dX4_count_70 : decode cX4_count 70 = .ok (.istore_n 3, 1) := by decide +kernel
theorem dX4_count_71 : decode cX4_count 71 = .ok (.iload_n 3, 1) := by decide +kernel
theorem dX4_count_72 : decode cX4_count 72 = .ok (.aload_n 0, 1) := by decide +kernel
theorem dX4_count_73 : decode cX4_count 73 = .ok (.getfield 102, 3) := by decide +kernel
theorem dX4_count_76 : decode cX4_count 76 = .ok (.if_icmp .ge 18, 3) := by decide +kernel
theorem dX4_count_79 : decode cX4_count 79 = .ok (.iload_n 2, 1) := by decide +kernel
theorem dX4_count_80 : decode cX4_count 80 = .ok (.aload_n 0, 1) := by decide +kernel
theorem dX4_count_81 : decode cX4_count 81 = .ok (.getfield 34, 3) := by decide +kernel
theorem dX4_count_84 : decode cX4_count 84 = .ok (.iload_n 3, 1) := by decide +kernel
theorem dX4_count_85 : decode cX4_count 85 = .ok (.iaload, 1) := by decide +kernel
theorem dX4_count_86 : decode cX4_count 86 = .ok (.iadd, 1) := by decide +kernel
theorem dX4_count_87 : decode cX4_count 87 = .ok (.istore_n 2, 1) := by decide +kernel
theorem dX4_count_88 : decode cX4_count 88 = .ok (.iinc 3 1, 3) := by decide +kernel
theorem dX4_count_91 : decode cX4_count 91 = .ok (.goto (-20), 3) := by decide +kernel
theorem dX4_count_94 : decode cX4_count 94 = .ok (.iload_n 2, 1) := by decide +kernel
theorem dX4_count_95 : decode cX4_count 95 = .ok (.ireturn, 1) := by decide +kernel
theorem dX4_count_96 : decode cX4_count 96 = .ok (.iconst 0, 1) := by decide +kernel
theorem dX4_count_97 : decode cX4_count 97 = .ok (.istore_n 3, 1) := by decide +kernel
theorem dX4_count_98 : decode cX4_count 98 = .ok (.iload_n 3, 1) := by decide +kernel
theorem dX4_count_99 : decode cX4_count 99 = .ok (.bipush 36, 2) := by decide +kernel
theorem dX4_count_101 : decode cX4_count 101 = .ok (.if_icmp .ge 18, 3) := by decide +kernel
theorem dX4_count_104 : decode cX4_count 104 = .ok (.iload_n 2, 1) := by decide +kernel
theorem dX4_count_105 : decode cX4_count 105 = .ok (.aload_n 0, 1) := by decide +kernel
theorem dX4_count_106 : decode cX4_count 106 = .ok (.getfield 43, 3) := by decide +kernel
theorem dX4_count_109 : decode cX4_count 109 = .ok (.iload_n 3, 1) := by decide +kernel
theorem dX4_count_110 : decode cX4_count 110 = .ok (.iaload, 1) := by decide +kernel
theorem dX4_count_111 : decode cX4_count 111 = .ok (.iadd, 1) := by decide +kernel
theorem dX4_count_112 : decode cX4_count 112 = .ok (.istore_n 2, 1) := by decide +kernel
theorem dX4_count_113 : decode cX4_count 113 = .ok (.iinc 3 1, 3) := by decide +kernel
theorem dX4_count_116 : decode cX4_count 116 = .ok (.goto (-18), 3) := by decide +kernel
theorem dX4_count_119 : decode cX4_count 119 = .ok (.iload_n 2, 1) := by decide +kernel
theorem dX4_count_120 : decode cX4_count 120 = .ok (.iconst 2, 1) := by decide +kernel
theorem dX4_count_121 : decode cX4_count 121 = .ok (.idiv, 1) := by decide +kernel
theorem dX4_count_122 : decode cX4_count 122 = .ok (.ireturn, 1) := by decide +kernel
theorem dX4_count_123 : decode cX4_count 123 = .ok (.aload_n 0, 1) := by decide +kernel
theorem dX4_count_124 : decode cX4_count 124 = .ok (.getfield 82, 3) := by decide +kernel
theorem dX4_count_127 : decode cX4_count 127 = .ok (.ireturn, 1) := by decide +kernel
theorem dX4_count_128 : decode cX4_count 128 = .ok (.aload_n 0, 1) := by decide +kernel
theorem dX4_count_129 : decode cX4_count 129 = .ok (.getfield 182, 3) := by decide +kernel
theorem dX4_count_132 : decode cX4_count 132 = .ok (.ireturn, 1) := by decide +kernel
theorem dX4_count_133 : decode cX4_count 133 = .ok (.aload_n 0, 1) := by decide +kernel
theorem dX4_count_134 : decode cX4_count 134 = .ok (.invokevirtual 172, 3) := by decide +kernel
theorem dX4_count_137 : decode cX4_count 137 = .ok (.ireturn, 1) := by decide +kernel
theorem dX4_count_138 : decode cX4_count 138 = .ok (.bipush (-9), 2) := by decide +kernel
theorem dX4_count_140 : decode cX4_count 140 = .ok (.ireturn, 1) := by decide +kernel
theorem hd_X4_count : yX4_count.cls ≠ "java/lang/invoke/MethodHandle" ∧ yX4_count.cls ≠ "java/lang/invoke/VarHandle" ∧ (parseMethodDescriptor yX4_count.desc).map (fun d => d.parameters.length) = some 1 := by decide +kernel
def f_X4_count_L71 (S : vS) : Nat → Int32 → Int32 →  Option Int32
  | 0, _, _ => none
  | n + 1, x2, x3 => if (S 0 2) ≤ x3 then some x2 else if inb x3 21 = true then lt ((x2 + (S 9 (x3.toNatClampNeg)))) fun v8 => (f_X4_count_L71 S n) v8 (x3 + 1) else none
def f_X4_count_L98 (S : vS) : Nat → Int32 → Int32 →  Option Int32
  | 0, _, _ => none
  | n + 1, x2, x3 => if (36 : Int32) ≤ x3 then some x2 else if inb x3 36 = true then lt ((x2 + (S 12 (x3.toNatClampNeg)))) fun v14 => (f_X4_count_L98 S n) v14 (x3 + 1) else none
def f_X4_count (a1 : Int32) (S : vS) : Option Int32 := b1 (f_X4_isIn a1 (11 : Int32) (16 : Int32) S) fun r2 => if r2 = 0 then if a1 = (0 : Int32) then some (S 0 2) else if a1 = (1 : Int32) then b1 (f_X4_count_L71 S FU (0 : Int32) (0 : Int32)) fun y9 => some y9 else if a1 = (2 : Int32) then b1 (f_X4_count_L98 S FU (0 : Int32) (0 : Int32)) fun y15 => some (y15 / (2 : Int32)) else if a1 = (3 : Int32) then some (S 0 0) else if a1 = (4 : Int32) then some (S 0 5) else if a1 = (5 : Int32) then b1 (f_X4_behind  S) fun r21 => some r21 else some (-9 : Int32) else if inb (a1 - (10 : Int32)) 7 = true then some (S 1 ((a1 - (10 : Int32)).toNatClampNeg)) else none
set_option maxHeartbeats 4000000 in
set_option maxRecDepth 20000 in
theorem c_X4_count (l : Launch) (D : va_G) (cI cO : ClassId) (ad : Nat → Nat) (a1 : Int32) (S : vS) (R9 : Int32) (hf : f_X4_count a1 S = some R9) : CI l yX4_count cX4_count 4 .int ({ frames := 2, cells := 0, slots := 0, locals := 43 }) [.ref (ad 5), .int a1] D cI cO ad S R9 S := by
  refine CI.of (by decide +kernel) (Nat.le_of_ble_eq_true rfl) (fun p e s m args below meth c Q ls X hl hw hfin => ?_)
  have hl : lv_has ls 4 [(0, .ref (ad 5)), (1, .int a1)] := hl
  have hx := X.1
  have hb := X.2.1
  have L71 : ∀ (n : Nat) (x2 : Int32) (x3 : Int32) (res : Int32), f_X4_count_L71 S n x2 x3 = some res → (K : ∀ (y2 : Int32), some y2 = some res → ∀ (H : Heap) (locs : List Loc) (ls : Array Slot), WD D cI cO ad s S H locs → lv_has ls 4 [(2, .int y2)] → W p l e ({ frames := 2, cells := 0, slots := 0, locals := 43 }) s m args below meth c H locs 0 0 Q (F0 m 94 ls [])) → ∀ (H : Heap) (locs : List Loc) (ls : Array Slot), WD D cI cO ad s S H locs → lv_has ls 4 [(0, .ref (ad 5)), (2, .int x2), (3, .int x3)] → W p l e ({ frames := 2, cells := 0, slots := 0, locals := 43 }) s m args below meth c H locs 0 0 Q (F0 m 71 ls []) := by
    intro n
    induction n with
    | zero => intro x2 x3 res hf; cases hf
    | succ n ih =>
      intro x2 x3 res hf K H locs ls hw hl
      unfold f_X4_count_L71 at hf
      refine lv_iload_n hx hb dX4_count_71 rfl (lv_at hl 2 rfl) ?_
      refine lv_aload_n hx hb dX4_count_72 rfl (lv_at hl 0 rfl) ?_
      refine x_get X hw 5 (Nat.le_of_ble_eq_true rfl) ce5 rfl i_X4 15 (by decide) q605 ⟨rfl, rfl, rfl⟩ rfl dX4_count_73 ?_
      refine lv_icmp_ge (tgt := 94) hx hb dX4_count_76 (by decide) (fun c6 => ?_) (fun c6 => ?_)
      · replace hf := if_t c6 hf
        exact K x2 hf _ _ _ hw (lv_sub hl [1] rfl)
      · replace hf := if_f c6 hf
        refine lv_iload_n hx hb dX4_count_79 rfl (lv_at hl 1 rfl) ?_
        refine lv_aload_n hx hb dX4_count_80 rfl (lv_at hl 0 rfl) ?_
        refine x_get X hw 5 (Nat.le_of_ble_eq_true rfl) ce5 rfl i_X4 8 (by decide) q598 ⟨rfl, rfl, rfl⟩ rfl dX4_count_81 ?_
        refine lv_iload_n hx hb dX4_count_84 rfl (lv_at hl 2 rfl) ?_
        obtain ⟨h7, hf⟩ := if_s hf
        refine x_iald X hw 9 ⟨Nat.le_of_ble_eq_true rfl, Nat.le_of_ble_eq_true rfl⟩ rfl h7 (x3.toNatClampNeg) rfl dX4_count_85 ?_
        refine lv_iadd hx hb dX4_count_86 ?_
        refine lv_topi (fun v8 ev8 => ?_)
        replace hf := lt_e ev8 hf
        refine lv_istore_n (lv' := [(2, .int v8), (0, .ref (ad 5)), (3, .int x3)]) hx hb dX4_count_87 rfl hl (by decide) rfl (fun ls hl => ?_)
        refine lv_iinc (v := (x3 + 1)) (lv' := [(3, .int (x3 + 1)), (2, .int v8), (0, .ref (ad 5))]) hx hb dX4_count_88 hl (k := 2) rfl rfl (by decide) rfl (fun ls hl => ?_)
        refine lv_goto (tgt := 71) hx hb dX4_count_91 (by decide) ?_
        exact ih v8 (x3 + 1) _ hf K _ _ _ hw (lv_sub hl [2, 1, 0] rfl)
  have L98 : ∀ (n : Nat) (x2 : Int32) (x3 : Int32) (res : Int32), f_X4_count_L98 S n x2 x3 = some res → (K : ∀ (y2 : Int32), some y2 = some res → ∀ (H : Heap) (locs : List Loc) (ls : Array Slot), WD D cI cO ad s S H locs → lv_has ls 4 [(2, .int y2)] → W p l e ({ frames := 2, cells := 0, slots := 0, locals := 43 }) s m args below meth c H locs 0 0 Q (F0 m 119 ls [])) → ∀ (H : Heap) (locs : List Loc) (ls : Array Slot), WD D cI cO ad s S H locs → lv_has ls 4 [(0, .ref (ad 5)), (2, .int x2), (3, .int x3)] → W p l e ({ frames := 2, cells := 0, slots := 0, locals := 43 }) s m args below meth c H locs 0 0 Q (F0 m 98 ls []) := by
    intro n
    induction n with
    | zero => intro x2 x3 res hf; cases hf
    | succ n ih =>
      intro x2 x3 res hf K H locs ls hw hl
      unfold f_X4_count_L98 at hf
      refine lv_iload_n hx hb dX4_count_98 rfl (lv_at hl 2 rfl) ?_
      refine lv_bipush (v := 36) hx hb dX4_count_99 (by decide +kernel) ?_
      refine lv_icmp_ge (tgt := 119) hx hb dX4_count_101 (by decide) (fun c12 => ?_) (fun c12 => ?_)
      · replace hf := if_t c12 hf
        exact K x2 hf _ _ _ hw (lv_sub hl [1] rfl)
      · replace hf := if_f c12 hf
        refine lv_iload_n hx hb dX4_count_104 rfl (lv_at hl 1 rfl) ?_
        refine lv_aload_n hx hb dX4_count_105 rfl (lv_at hl 0 rfl) ?_
        refine x_get X hw 5 (Nat.le_of_ble_eq_true rfl) ce5 rfl i_X4 11 (by decide) q601 ⟨rfl, rfl, rfl⟩ rfl dX4_count_106 ?_
        refine lv_iload_n hx hb dX4_count_109 rfl (lv_at hl 2 rfl) ?_
        obtain ⟨h13, hf⟩ := if_s hf
        refine x_iald X hw 12 ⟨Nat.le_of_ble_eq_true rfl, Nat.le_of_ble_eq_true rfl⟩ rfl h13 (x3.toNatClampNeg) rfl dX4_count_110 ?_
        refine lv_iadd hx hb dX4_count_111 ?_
        refine lv_topi (fun v14 ev14 => ?_)
        replace hf := lt_e ev14 hf
        refine lv_istore_n (lv' := [(2, .int v14), (0, .ref (ad 5)), (3, .int x3)]) hx hb dX4_count_112 rfl hl (by decide) rfl (fun ls hl => ?_)
        refine lv_iinc (v := (x3 + 1)) (lv' := [(3, .int (x3 + 1)), (2, .int v14), (0, .ref (ad 5))]) hx hb dX4_count_113 hl (k := 2) rfl rfl (by decide) rfl (fun ls hl => ?_)
        refine lv_goto (tgt := 98) hx hb dX4_count_116 (by decide) ?_
        exact ih v14 (x3 + 1) _ hf K _ _ _ hw (lv_sub hl [2, 1, 0] rfl)
  unfold f_X4_count at hf
  refine lv_iload_n hx hb dX4_count_0 rfl (lv_at hl 1 rfl) ?_
  refine lv_bipush (v := 11) hx hb dX4_count_1 (by decide +kernel) ?_
  refine lv_bipush (v := 16) hx hb dX4_count_3 (by decide +kernel) ?_
  obtain ⟨r2, h1, hf⟩ := b1_s hf
  refine kSi X hw (c_X4_isIn l D cI cO ad a1 (11 : Int32) (16 : Int32) S r2 h1) ⟨rfl, rfl⟩ q712 q713 q64 q714 hd_X4_isIn ⟨Nat.le_of_ble_eq_true rfl, Nat.le_of_ble_eq_true rfl⟩ rfl hl.1 rfl (Nat.le_of_ble_eq_true rfl) dX4_count_5 (fun H locs hw => ?_)
  refine lv_if_eq (tgt := 21) hx hb dX4_count_8 (by decide) (fun c3 => ?_) (fun c3 => ?_)
  · replace hf := if_t c3 hf
    refine lv_iconst (v := 0) hx hb dX4_count_21 (by decide) ?_
    refine lv_istore_n (lv' := [(2, .int (0 : Int32)), (0, .ref (ad 5)), (1, .int a1)]) hx hb dX4_count_22 rfl hl (by decide) rfl (fun ls hl => ?_)
    refine lv_iload_n hx hb dX4_count_23 rfl (lv_at hl 2 rfl) ?_
    by_cases c4 : a1 = (0 : Int32)
    · replace hf := if_t c4 hf
      refine lv_tableIn (off := 40) (tgt := 64) hx hb dX4_count_24 (by rw [c4]; decide) (by rw [c4]; decide) (by rw [c4]; rfl) (by decide) ?_
      refine lv_aload_n hx hb dX4_count_64 rfl (lv_at hl 1 rfl) ?_
      refine x_get X hw 5 (Nat.le_of_ble_eq_true rfl) ce5 rfl i_X4 15 (by decide) q605 ⟨rfl, rfl, rfl⟩ rfl dX4_count_65 ?_
      exact hfin _ _ _ _ _ _ hw (Option.some.inj hf) rfl (narI _) dX4_count_68
    · replace hf := if_f c4 hf
      by_cases c5 : a1 = (1 : Int32)
      · replace hf := if_t c5 hf
        refine lv_tableIn (off := 45) (tgt := 69) hx hb dX4_count_24 (by rw [c5]; decide) (by rw [c5]; decide) (by rw [c5]; rfl) (by decide) ?_
        refine lv_iconst (v := 0) hx hb dX4_count_69 (by decide) ?_
        refine lv_istore_n (lv' := [(3, .int (0 : Int32)), (2, .int (0 : Int32)), (0, .ref (ad 5)), (1, .int a1)]) hx hb dX4_count_70 rfl hl (by decide) rfl (fun ls hl => ?_)
        obtain ⟨y9, h10, hf⟩ := b1_s hf
        refine L71 FU (0 : Int32) (0 : Int32) _ h10 (fun y9' eK H locs ls hw hl => ?_) _ _ _ hw (lv_sub hl [2, 1, 0] rfl)
        cases eK
        refine lv_iload_n hx hb dX4_count_94 rfl (lv_at hl 0 rfl) ?_
        exact hfin _ _ _ _ _ _ hw (Option.some.inj hf) rfl (narI _) dX4_count_95
      · replace hf := if_f c5 hf
        by_cases c11 : a1 = (2 : Int32)
        · replace hf := if_t c11 hf
          refine lv_tableIn (off := 72) (tgt := 96) hx hb dX4_count_24 (by rw [c11]; decide) (by rw [c11]; decide) (by rw [c11]; rfl) (by decide) ?_
          refine lv_iconst (v := 0) hx hb dX4_count_96 (by decide) ?_
          refine lv_istore_n (lv' := [(3, .int (0 : Int32)), (2, .int (0 : Int32)), (0, .ref (ad 5)), (1, .int a1)]) hx hb dX4_count_97 rfl hl (by decide) rfl (fun ls hl => ?_)
          obtain ⟨y15, h16, hf⟩ := b1_s hf
          refine L98 FU (0 : Int32) (0 : Int32) _ h16 (fun y15' eK H locs ls hw hl => ?_) _ _ _ hw (lv_sub hl [2, 1, 0] rfl)
          cases eK
          refine lv_iload_n hx hb dX4_count_119 rfl (lv_at hl 0 rfl) ?_
          refine lv_iconst (v := 2) hx hb dX4_count_120 (by decide) ?_
          refine lv_idiv hx hb dX4_count_121 (by decide) ?_
          exact hfin _ _ _ _ _ _ hw (Option.some.inj hf) rfl (narI _) dX4_count_122
        · replace hf := if_f c11 hf
          by_cases c17 : a1 = (3 : Int32)
          · replace hf := if_t c17 hf
            refine lv_tableIn (off := 99) (tgt := 123) hx hb dX4_count_24 (by rw [c17]; decide) (by rw [c17]; decide) (by rw [c17]; rfl) (by decide) ?_
            refine lv_aload_n hx hb dX4_count_123 rfl (lv_at hl 1 rfl) ?_
            refine x_get X hw 5 (Nat.le_of_ble_eq_true rfl) ce5 rfl i_X4 13 (by decide) q603 ⟨rfl, rfl, rfl⟩ rfl dX4_count_124 ?_
            exact hfin _ _ _ _ _ _ hw (Option.some.inj hf) rfl (narI _) dX4_count_127
          · replace hf := if_f c17 hf
            by_cases c18 : a1 = (4 : Int32)
            · replace hf := if_t c18 hf
              refine lv_tableIn (off := 104) (tgt := 128) hx hb dX4_count_24 (by rw [c18]; decide) (by rw [c18]; decide) (by rw [c18]; rfl) (by decide) ?_
              refine lv_aload_n hx hb dX4_count_128 rfl (lv_at hl 1 rfl) ?_
              refine x_get X hw 5 (Nat.le_of_ble_eq_true rfl) ce5 rfl i_X4 25 (by decide) q615 ⟨rfl, rfl, rfl⟩ rfl dX4_count_129 ?_
              exact hfin _ _ _ _ _ _ hw (Option.some.inj hf) rfl (narI _) dX4_count_132
            · replace hf := if_f c18 hf
              by_cases c19 : a1 = (5 : Int32)
              · replace hf := if_t c19 hf
                refine lv_tableIn (off := 109) (tgt := 133) hx hb dX4_count_24 (by rw [c19]; decide) (by rw [c19]; decide) (by rw [c19]; rfl) (by decide) ?_
                refine lv_aload_n hx hb dX4_count_133 rfl (lv_at hl 1 rfl) ?_
                obtain ⟨r21, h20, hf⟩ := b1_s hf
                refine kVi X hw (c_X4_behind l D cI cO ad  S r21 h20) (Nat.le_of_ble_eq_true rfl) ce5 rfl ⟨rfl, rfl⟩ q850 q852 q53 q64 q853 hd_X4_behind ⟨Nat.le_of_ble_eq_true rfl, Nat.le_of_ble_eq_true rfl⟩ rfl hl.1 rfl (Nat.le_of_ble_eq_true rfl) dX4_count_134 (fun H locs hw => ?_)
                exact hfin _ _ _ _ _ _ hw (Option.some.inj hf) rfl (narI _) dX4_count_137
              · replace hf := if_f c19 hf
                have nc4 : ¬ (a1).toInt = 0 := lv_neT c4 (by decide)
                have nc5 : ¬ (a1).toInt = 1 := lv_neT c5 (by decide)
                have nc11 : ¬ (a1).toInt = 2 := lv_neT c11 (by decide)
                have nc17 : ¬ (a1).toInt = 3 := lv_neT c17 (by decide)
                have nc18 : ¬ (a1).toInt = 4 := lv_neT c18 (by decide)
                have nc19 : ¬ (a1).toInt = 5 := lv_neT c19 (by decide)
                refine lv_tableOut (tgt := 138) hx hb dX4_count_24 (by omega) (by decide) ?_
                refine lv_bipush (v := -9) hx hb dX4_count_138 (by decide +kernel) ?_
                exact hfin _ _ _ _ _ _ hw (Option.some.inj hf) rfl (narI _) dX4_count_140
  · replace hf := if_f c3 hf
    refine lv_aload_n hx hb dX4_count_11 rfl (lv_at hl 0 rfl) ?_
    refine x_get X hw 5 (Nat.le_of_ble_eq_true rfl) ce5 rfl i_X4 0 (by decide) q590 ⟨rfl, rfl, rfl⟩ rfl dX4_count_12 ?_
    refine lv_iload_n hx hb dX4_count_15 rfl (lv_at hl 1 rfl) ?_
    refine lv_bipush (v := 10) hx hb dX4_count_16 (by decide +kernel) ?_
    refine lv_isub hx hb dX4_count_18 ?_
    obtain ⟨h22, hf⟩ := if_s hf
    refine x_iald X hw 1 ⟨Nat.le_of_ble_eq_true rfl, Nat.le_of_ble_eq_true rfl⟩ rfl h22 ((a1 - (10 : Int32)).toNatClampNeg) rfl dX4_count_19 ?_
    exact hfin _ _ _ _ _ _ hw (Option.some.inj hf) rfl (narI _) dX4_count_20
