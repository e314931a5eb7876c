/-- NineLands.sumOf([I)I -/
theorem dX3_sumOf_0 : decode cX3_sumOf 0 = .ok (.iconst 0, 1) := by decide +kernel
theorem dX3_sumOf_1 : decode cX3_sumOf 1 = .ok (.istore_n 1, 1) := by decide +kernel
theorem dX3_sumOf_2 : decode cX3_sumOf 2 = .ok (.aload_n 0, 1) := by decide +kernel
theorem dX3_sumOf_3 : decode cX3_sumOf 3 = .ok (.astore_n 2, 1) := by decide +kernel
theorem dX3_sumOf_4 : decode cX3_sumOf 4 = .ok (.aload_n 2, 1) := by decide +kernel
theorem dX3_sumOf_5 : decode cX3_sumOf 5 = .ok (.arraylength, 1) := by decide +kernel
theorem dX3_sumOf_6 : decode cX3_sumOf 6 = .ok (.istore_n 3, 1) := by decide +kernel
theorem dX3_sumOf_7 : decode cX3_sumOf 7 = .ok (.iconst 0, 1) := by decide +kernel
theorem dX3_sumOf_8 : decode cX3_sumOf 8 = .ok (.istore 4, 2) := by decide +kernel
theorem dX3_sumOf_10 : decode cX3_sumOf 10 = .ok (.iload 4, 2) := by decide +kernel
theorem dX3_sumOf_12 : decode cX3_sumOf 12 = .ok (.iload_n 3, 1) := by decide +kernel
theorem dX3_sumOf_13 : decode cX3_sumOf 13 = .ok (.if_icmp .ge 20, 3) := by decide +kernel
theorem dX3_sumOf_16 : decode cX3_sumOf 16 = .ok (.aload_n 2, 1) := by decide +kernel
theorem dX3_sumOf_17 : decode cX3_sumOf 17 = .ok (.iload 4, 2) := by decide +kernel
theorem dX3_sumOf_19 : decode cX3_sumOf 19 = .ok (.iaload, 1) := by decide +kernel
theorem dX3_sumOf_20 : decode cX3_sumOf 20 = .ok (.istore 5, 2) := by decide +kernel
theorem dX3_sumOf_22 : decode cX3_sumOf 22 = .ok (.iload_n 1, 1) := by decide +kernel
theorem dX3_sumOf_23 : decode cX3_sumOf 23 = .ok (.iload 5, 2) := by decide +kernel
theorem dX3_sumOf_25 : decode cX3_sumOf 25 = .ok (.iadd, 1) := by decide +kernel
theorem dX3_sumOf_26 : decode cX3_sumOf 26 = .ok (.istore_n 1, 1) := by decide +kernel
theorem dX3_sumOf_27 : decode cX3_sumOf 27 = .ok (.iinc 4 1, 3) := by decide +kernel
theorem dX3_sumOf_30 : decode cX3_sumOf 30 = .ok (.goto (-20), 3) := by decide +kernel
theorem dX3_sumOf_33 : decode cX3_sumOf 33 = .ok (.iload_n 1, 1) := by decide +kernel
theorem dX3_sumOf_34 : decode cX3_sumOf 34 = .ok (.ireturn, 1) := by decide +kernel
theorem hd_X3_sumOf : yX3_sumOf.cls ≠ "java/lang/invoke/MethodHandle" ∧ yX3_sumOf.cls ≠ "java/lang/invoke/VarHandle" ∧ (parseMethodDescriptor yX3_sumOf.desc).map (fun d => d.parameters.length) = some 1 := by decide +kernel
def f_X3_sumOf_L10 (S : vS) : Nat → Int32 → Nat → Int32 → Int32 →  Option Int32
  | 0, _, _, _, _ => none
  | n + 1, x1, x2, x3, x4 => if x3 ≤ x4 then some x1 else if 1 ≤ x2 ∧ x2 ≤ 97 then if inb x4 (alen x2) = true then lt ((S x2 (x4.toNatClampNeg))) fun v5 => (f_X3_sumOf_L10 S n) (x1 + v5) x2 x3 (x4 + 1) else none else none
def f_X3_sumOf (a0 : Nat) (S : vS) : Option Int32 := if 1 ≤ a0 ∧ a0 ≤ 97 then b1 (f_X3_sumOf_L10 S FU (0 : Int32) a0 (nI (alen a0)) (0 : Int32)) fun y6 => some y6 else none
set_option maxHeartbeats 4000000 in
set_option maxRecDepth 20000 in
theorem c_X3_sumOf (l : Launch) (D : va_G) (cI cO : ClassId) (ad : Nat → Nat) (a0 : Nat) (S : vS) (R9 : Int32) (hf : f_X3_sumOf a0 S = some R9) : CI l yX3_sumOf cX3_sumOf 6 .int ({ frames := 0, cells := 0, slots := 0, locals := 0 }) [.ref (ar ad a0)] D cI cO ad S R9 S := by
  refine CI.of (by decide +kernel) (Nat.le_of_ble_eq_true rfl) (fun p e s m args below meth c Q ls X hl hw hfin => ?_)
  have hl : lv_has ls 6 [(0, .ref (ar ad a0))] := hl
  have hx := X.1
  have hb := X.2.1
  have L10 : ∀ (n : Nat) (x1 : Int32) (x2 : Nat) (x3 : Int32) (x4 : Int32) (res : Int32), f_X3_sumOf_L10 S n x1 x2 x3 x4 = some res → (K : ∀ (y1 : Int32), some y1 = some res → ∀ (H : Heap) (locs : List Loc) (ls : Array Slot), WD D cI cO ad s S H locs → lv_has ls 6 [(1, .int y1)] → W p l e ({ frames := 0, cells := 0, slots := 0, locals := 0 }) s m args below meth c H locs 0 0 Q (F0 m 33 ls [])) → ∀ (H : Heap) (locs : List Loc) (ls : Array Slot), WD D cI cO ad s S H locs → lv_has ls 6 [(1, .int x1), (2, .ref (ar ad x2)), (3, .int x3), (4, .int x4)] → W p l e ({ frames := 0, cells := 0, slots := 0, locals := 0 }) s m args below meth c H locs 0 0 Q (F0 m 10 ls []) := by
    intro n
    induction n with
    | zero => intro x1 x2 x3 x4 res hf; cases hf
    | succ n ih =>
      intro x1 x2 x3 x4 res hf K H locs ls hw hl
      unfold f_X3_sumOf_L10 at hf
      refine lv_iload hx hb dX3_sumOf_10 (lv_at hl 3 rfl) ?_
      refine lv_iload_n hx hb dX3_sumOf_12 rfl (lv_at hl 2 rfl) ?_
      refine lv_icmp_ge (tgt := 33) hx hb dX3_sumOf_13 (by decide) (fun c2 => ?_) (fun c2 => ?_)
      · replace hf := if_t c2 hf
        exact K x1 hf _ _ _ hw (lv_sub hl [0] rfl)
      · replace hf := if_f c2 hf
        refine lv_aload_n hx hb dX3_sumOf_16 rfl (lv_at hl 1 rfl) ?_
        refine lv_iload hx hb dX3_sumOf_17 (lv_at hl 3 rfl) ?_
        obtain ⟨h3, hf⟩ := if_s hf
        obtain ⟨h4, hf⟩ := if_s hf
        refine x_iald X hw x2 h3 rfl h4 (x4.toNatClampNeg) rfl dX3_sumOf_19 ?_
        refine lv_topi (fun v5 ev5 => ?_)
        replace hf := lt_e ev5 hf
        refine lv_istore (lv' := [(5, .int v5), (1, .int x1), (2, .ref (ar ad x2)), (3, .int x3), (4, .int x4)]) hx hb dX3_sumOf_20 hl (by decide) rfl (fun ls hl => ?_)
        refine lv_iload_n hx hb dX3_sumOf_22 rfl (lv_at hl 1 rfl) ?_
        refine lv_iload hx hb dX3_sumOf_23 (lv_at hl 0 rfl) ?_
        refine lv_iadd hx hb dX3_sumOf_25 ?_
        refine lv_istore_n (lv' := [(1, .int (x1 + v5)), (5, .int v5), (2, .ref (ar ad x2)), (3, .int x3), (4, .int x4)]) hx hb dX3_sumOf_26 rfl hl (by decide) rfl (fun ls hl => ?_)
        refine lv_iinc (v := (x4 + 1)) (lv' := [(4, .int (x4 + 1)), (1, .int (x1 + v5)), (5, .int v5), (2, .ref (ar ad x2)), (3, .int x3)]) hx hb dX3_sumOf_27 hl (k := 4) rfl rfl (by decide) rfl (fun ls hl => ?_)
        refine lv_goto (tgt := 10) hx hb dX3_sumOf_30 (by decide) ?_
        exact ih (x1 + v5) x2 x3 (x4 + 1) _ hf K _ _ _ hw (lv_sub hl [1, 3, 4, 0] rfl)
  unfold f_X3_sumOf at hf
  refine lv_iconst (v := 0) hx hb dX3_sumOf_0 (by decide) ?_
  refine lv_istore_n (lv' := [(1, .int (0 : Int32)), (0, .ref (ar ad a0))]) hx hb dX3_sumOf_1 rfl hl (by decide) rfl (fun ls hl => ?_)
  refine lv_aload_n hx hb dX3_sumOf_2 rfl (lv_at hl 1 rfl) ?_
  refine lv_astore_n (lv' := [(2, .ref (ar ad a0)), (1, .int (0 : Int32)), (0, .ref (ar ad a0))]) hx hb dX3_sumOf_3 rfl hl (by decide) rfl (fun ls hl => ?_)
  refine lv_aload_n hx hb dX3_sumOf_4 rfl (lv_at hl 0 rfl) ?_
  obtain ⟨h1, hf⟩ := if_s hf
  refine x_alen X hw a0 h1 (v := nI (alen a0)) rfl dX3_sumOf_5 ?_
  refine lv_istore_n (lv' := [(3, .int (nI (alen a0))), (2, .ref (ar ad a0)), (1, .int (0 : Int32)), (0, .ref (ar ad a0))]) hx hb dX3_sumOf_6 rfl hl (by decide) rfl (fun ls hl => ?_)
  refine lv_iconst (v := 0) hx hb dX3_sumOf_7 (by decide) ?_
  refine lv_istore (lv' := [(4, .int (0 : Int32)), (3, .int (nI (alen a0))), (2, .ref (ar ad a0)), (1, .int (0 : Int32)), (0, .ref (ar ad a0))]) hx hb dX3_sumOf_8 hl (by decide) rfl (fun ls hl => ?_)
  obtain ⟨y6, h7, hf⟩ := b1_s hf
  refine L10 FU (0 : Int32) a0 (nI (alen a0)) (0 : Int32) _ h7 (fun y6' eK H locs ls hw hl => ?_) _ _ _ hw (lv_sub hl [3, 2, 1, 0] rfl)
  cases eK
  refine lv_iload_n hx hb dX3_sumOf_33 rfl (lv_at hl 0 rfl) ?_
  exact hfin _ _ _ _ _ _ hw (Option.some.inj hf) rfl (narI _) dX3_sumOf_34
/-- NineLands$Sums.clear()V -/
theorem dX1_clear_0 : decode cX1_clear 0 = .ok (.aload_n 0, 1) := by decide +kernel
theorem dX1_clear_1 : decode cX1_clear 1 = .ok (.getfield 15, 3) := by decide +kernel
theorem dX1_clear_4 : decode cX1_clear 4 = .ok (.iconst 0, 1) := by decide +kernel
theorem dX1_clear_5 : decode cX1_clear 5 = .ok (.invokestatic 57, 3) := by decide +kernel
theorem dX1_clear_8 : decode cX1_clear 8 = .ok (.aload_n 0, 1) := by decide +kernel
theorem dX1_clear_9 : decode cX1_clear 9 = .ok (.getfield 18, 3) := by decide +kernel
theorem dX1_clear_12 : decode cX1_clear 12 = .ok (.iconst 0, 1) := by decide +kernel
theorem dX1_clear_13 : decode cX1_clear 13 = .ok (.invokestatic 57, 3) := by decide +kernel
theorem dX1_clear_16 : decode cX1_clear 16 = .ok (.aload_n 0, 1) := by decide +kernel
theorem dX1_clear_17 : decode cX1_clear 17 = .ok (.getfield 21, 3) := by decide +kernel
theorem dX1_clear_20 : decode cX1_clear 20 = .ok (.iconst 0, 1) := by decide +kernel
theorem dX1_clear_21 : decode cX1_clear 21 = .ok (.invokestatic 57, 3) := by decide +kernel
theorem dX1_clear_24 : decode cX1_clear 24 = .ok (.aload_n 0, 1) := by decide +kernel
theorem dX1_clear_25 : decode cX1_clear 25 = .ok (.getfield 24, 3) := by decide +kernel
theorem dX1_clear_28 : decode cX1_clear 28 = .ok (.iconst 0, 1) := by decide +kernel
theorem dX1_clear_29 : decode cX1_clear 29 = .ok (.invokestatic 57, 3) := by decide +kernel
theorem dX1_clear_32 : decode cX1_clear 32 = .ok (.aload_n 0, 1) := by decide +kernel
theorem dX1_clear_33 : decode cX1_clear 33 = .ok (.iconst 0, 1) := by decide +kernel
theorem dX1_clear_34 : decode cX1_clear 34 = .ok (.putfield 33, 3) := by decide +kernel
theorem dX1_clear_37 : decode cX1_clear 37 = .ok (.aload_n 0, 1) := by decide +kernel
theorem dX1_clear_38 : decode cX1_clear 38 = .ok (.bipush (-9), 2) := by decide +kernel
theorem dX1_clear_40 : decode cX1_clear 40 = .ok (.putfield 37, 3) := by decide +kernel
theorem dX1_clear_43 : decode cX1_clear 43 = .ok (.return_, 1) := by decide +kernel
theorem hd_X1_clear : yX1_clear.cls ≠ "java/lang/invoke/MethodHandle" ∧ yX1_clear.cls ≠ "java/lang/invoke/VarHandle" ∧ (parseMethodDescriptor yX1_clear.desc).map (fun d => d.parameters.length) = some 0 := by decide +kernel
def f_X1_clear  (S : vS) : Option vS := b1 (f_J7_fill_53178 26 (0 : Int32) S) fun S2 => b1 (f_J7_fill_53178 27 (0 : Int32) S2) fun S4 => b1 (f_J7_fill_53178 28 (0 : Int32) S4) fun S6 => b1 (f_J7_fill_53178 29 (0 : Int32) S6) fun S8 => lt (upk S8 0 (upd (S8 0) 14 (0 : Int32))) fun S9 => lt (upk S9 0 (upd (S9 0) 15 (-9 : Int32))) fun S10 => some S10
set_option maxHeartbeats 4000000 in
set_option maxRecDepth 20000 in
theorem c_X1_clear (l : Launch) (D : va_G) (cI cO : ClassId) (ad : Nat → Nat)  (S : vS) (S9 : vS) (hf : f_X1_clear  S = some S9) : CV l yX1_clear cX1_clear 1 ({ frames := 1, cells := 0, slots := 0, locals := 23 }) [.ref (ad 4)] D cI cO ad S S9 := by
  refine CV.of (r := 0) (by decide +kernel) (Nat.le_of_ble_eq_true rfl) (fun p e s m args below meth c Q ls X hl hw hfin => ?_)
  have hl : lv_has ls 1 [(0, .ref (ad 4))] := hl
  have hx := X.1
  have hb := X.2.1
  unfold f_X1_clear at hf
  refine lv_aload_n hx hb dX1_clear_0 rfl (lv_at hl 0 rfl) ?_
  refine x_get X hw 4 (Nat.le_of_ble_eq_true rfl) ce4 rfl i_X1 1 (by decide) q144 ⟨rfl, rfl, rfl⟩ rfl dX1_clear_1 ?_
  refine lv_iconst (v := 0) hx hb dX1_clear_4 (by decide) ?_
  obtain ⟨S2, h1, hf⟩ := b1_s hf
  refine kSv X hw (c_J7_fill_53178 l D cI cO ad 26 (0 : Int32) S S2 h1) ⟨rfl, rfl⟩ q373 q374 q71 q375 hd_J7_fill_53178 ⟨Nat.le_of_ble_eq_true rfl, Nat.le_of_ble_eq_true rfl⟩ rfl hl.1 rfl (Nat.le_of_ble_eq_true rfl) dX1_clear_5 (fun H locs hw => ?_)
  refine lv_aload_n hx hb dX1_clear_8 rfl (lv_at hl 0 rfl) ?_
  refine x_get X hw 4 (Nat.le_of_ble_eq_true rfl) ce4 rfl i_X1 2 (by decide) q146 ⟨rfl, rfl, rfl⟩ rfl dX1_clear_9 ?_
  refine lv_iconst (v := 0) hx hb dX1_clear_12 (by decide) ?_
  obtain ⟨S4, h3, hf⟩ := b1_s hf
  refine kSv X hw (c_J7_fill_53178 l D cI cO ad 27 (0 : Int32) S2 S4 h3) ⟨rfl, rfl⟩ q373 q374 q71 q375 hd_J7_fill_53178 ⟨Nat.le_of_ble_eq_true rfl, Nat.le_of_ble_eq_true rfl⟩ rfl hl.1 rfl (Nat.le_of_ble_eq_true rfl) dX1_clear_13 (fun H locs hw => ?_)
  refine lv_aload_n hx hb dX1_clear_16 rfl (lv_at hl 0 rfl) ?_
  refine x_get X hw 4 (Nat.le_of_ble_eq_true rfl) ce4 rfl i_X1 3 (by decide) q148 ⟨rfl, rfl, rfl⟩ rfl dX1_clear_17 ?_
  refine lv_iconst (v := 0) hx hb dX1_clear_20 (by decide) ?_
  obtain ⟨S6, h5, hf⟩ := b1_s hf
  refine kSv X hw (c_J7_fill_53178 l D cI cO ad 28 (0 : Int32) S4 S6 h5) ⟨rfl, rfl⟩ q373 q374 q71 q375 hd_J7_fill_53178 ⟨Nat.le_of_ble_eq_true rfl, Nat.le_of_ble_eq_true rfl⟩ rfl hl.1 rfl (Nat.le_of_ble_eq_true rfl) dX1_clear_21 (fun H locs hw => ?_)
  refine lv_aload_n hx hb dX1_clear_24 rfl (lv_at hl 0 rfl) ?_
  refine x_get X hw 4 (Nat.le_of_ble_eq_true rfl) ce4 rfl i_X1 4 (by decide) q150 ⟨rfl, rfl, rfl⟩ rfl dX1_clear_25 ?_
  refine lv_iconst (v := 0) hx hb dX1_clear_28 (by decide) ?_
  obtain ⟨S8, h7, hf⟩ := b1_s hf
  refine kSv X hw (c_J7_fill_53178 l D cI cO ad 29 (0 : Int32) S6 S8 h7) ⟨rfl, rfl⟩ q373 q374 q71 q375 hd_J7_fill_53178 ⟨Nat.le_of_ble_eq_true rfl, Nat.le_of_ble_eq_true rfl⟩ rfl hl.1 rfl (Nat.le_of_ble_eq_true rfl) dX1_clear_29 (fun H locs hw => ?_)
  refine lv_aload_n hx hb dX1_clear_32 rfl (lv_at hl 0 rfl) ?_
  refine lv_iconst (v := 0) hx hb dX1_clear_33 (by decide) ?_
  refine x_put X hw 4 (Nat.le_of_ble_eq_true rfl) ce4 rfl i_X1 tyX1_ok nmX1 7 (by decide) q155 ⟨rfl, rfl, rfl⟩ rfl pfI rfl rfl (Nat.le_of_ble_eq_true rfl) 14 (ws_14 _) dX1_clear_34 (fun S9 eS9 H locs hw => ?_)
  replace hf := lt_e eS9 hf
  refine lv_aload_n hx hb dX1_clear_37 rfl (lv_at hl 0 rfl) ?_
  refine lv_bipush (v := -9) hx hb dX1_clear_38 (by decide +kernel) ?_
  refine x_put X hw 4 (Nat.le_of_ble_eq_true rfl) ce4 rfl i_X1 tyX1_ok nmX1 8 (by decide) q157 ⟨rfl, rfl, rfl⟩ rfl pfI rfl rfl (Nat.le_of_ble_eq_true rfl) 15 (ws_15 _) dX1_clear_40 (fun S10 eS10 H locs hw => ?_)
  replace hf := lt_e eS10 hf
  exact hfin _ _ 0 _ _ _ hw rfl (Option.some.inj hf) dX1_clear_43
/-- NineLands$Sums.addOwn(II)V -/
theorem dX1_addOwn_0 : decode cX1_addOwn 0 = .ok (.aload_n 0, 1) := by decide +kernel
theorem dX1_addOwn_1 : decode cX1_addOwn 1 = .ok (.getfield 9, 3) := by decide +kernel
theorem dX1_addOwn_4 : decode cX1_addOwn 4 = .ok (.iload_n 1, 1) := by decide +kernel
theorem dX1_addOwn_5 : decode cX1_addOwn 5 = .ok (.iaload, 1) := by decide +kernel
theorem dX1_addOwn_6 : decode cX1_addOwn 6 = .ok (.bipush (-9), 2) := by decide +kernel
theorem dX1_addOwn_8 : decode cX1_addOwn 8 = .ok (.if_icmp .eq 30, 3) := by decide +kernel
theorem dX1_addOwn_11 : decode cX1_addOwn 11 = .ok (.aload_n 0, 1) := by decide +kernel
theorem dX1_addOwn_12 : decode cX1_addOwn 12 = .ok (.getfield 15, 3) := by decide +kernel
theorem dX1_addOwn_15 : decode cX1_addOwn 15 = .ok (.iload_n 1, 1) := by decide +kernel
theorem dX1_addOwn_16 : decode cX1_addOwn 16 = .ok (.dup2, 1) := by decide +kernel
theorem dX1_addOwn_17 : decode cX1_addOwn 17 = .ok (.iaload, 1) := by decide +kernel
theorem dX1_addOwn_18 : decode cX1_addOwn 18 = .ok (.iload_n 2, 1) := by decide +kernel
theorem dX1_addOwn_19 : decode cX1_addOwn 19 = .ok (.iadd, 1) := by decide +kernel
theorem dX1_addOwn_20 : decode cX1_addOwn 20 = .ok (.iastore, 1) := by decide +kernel
theorem dX1_addOwn_21 : decode cX1_addOwn 21 = .ok (.aload_n 0, 1) := by decide +kernel
theorem dX1_addOwn_22 : decode cX1_addOwn 22 = .ok (.getfield 18, 3) := by decide +kernel
theorem dX1_addOwn_25 : decode cX1_addOwn 25 = .ok (.iload_n 1, 1) := by decide +kernel
theorem dX1_addOwn_26 : decode cX1_addOwn 26 = .ok (.dup2, 1) := by decide +kernel
theorem dX1_addOwn_27 : decode cX1_addOwn 27 = .ok (.iaload, 1) := by decide +kernel
theorem dX1_addOwn_28 : decode cX1_addOwn 28 = .ok (.iload_n 2, 1) := by decide +kernel
theorem dX1_addOwn_29 : decode cX1_addOwn 29 = .ok (.aload_n 0, 1) := by decide +kernel
theorem dX1_addOwn_30 : decode cX1_addOwn 30 = .ok (.getfield 9, 3) := by decide +kernel
theorem dX1_addOwn_33 : decode cX1_addOwn 33 = .ok (.iload_n 1, 1) := by decide +kernel
theorem dX1_addOwn_34 : decode cX1_addOwn 34 = .ok (.iaload, 1) := by decide +kernel
theorem dX1_addOwn_35 : decode cX1_addOwn 35 = .ok (.imul, 1) := by decide +kernel
theorem dX1_addOwn_36 : decode cX1_addOwn 36 = .ok (.iadd, 1) := by decide +kernel
theorem dX1_addOwn_37 : decode cX1_addOwn 37 = .ok (.iastore, 1) := by decide +kernel
theorem dX1_addOwn_38 : decode cX1_addOwn 38 = .ok (.return_, 1) := by decide +kernel
theorem hd_X1_addOwn : yX1_addOwn.cls ≠ "java/lang/invoke/MethodHandle" ∧ yX1_addOwn.cls ≠ "java/lang/invoke/VarHandle" ∧ (parseMethodDescriptor yX1_addOwn.desc).map (fun d => d.parameters.length) = some 2 := by decide +kernel
def f_X1_addOwn (a1 : Int32) (a2 : Int32) (S : vS) : Option vS := if inb a1 6 = true then if (S 25 (a1.toNatClampNeg)) = (-9 : Int32) then some S else lt (upk S 26 (upd (S 26) (a1.toNatClampNeg) ((S 26 (a1.toNatClampNeg)) + a2))) fun S3 => lt (upk S3 27 (upd (S3 27) (a1.toNatClampNeg) ((S3 27 (a1.toNatClampNeg)) + (a2 * (S3 25 (a1.toNatClampNeg)))))) fun S4 => some S4 else none
set_option maxHeartbeats 4000000 in
set_option maxRecDepth 20000 in
theorem c_X1_addOwn (l : Launch) (D : va_G) (cI cO : ClassId) (ad : Nat → Nat) (a1 : Int32) (a2 : Int32) (S : vS) (S9 : vS) (hf : f_X1_addOwn a1 a2 S = some S9) : CV l yX1_addOwn cX1_addOwn 3 ({ frames := 0, cells := 0, slots := 0, locals := 0 }) [.ref (ad 4), .int a1, .int a2] D cI cO ad S S9 := by
  refine CV.of (r := 0) (by decide +kernel) (Nat.le_of_ble_eq_true rfl) (fun p e s m args below meth c Q ls X hl hw hfin => ?_)
  have hl : lv_has ls 3 [(0, .ref (ad 4)), (1, .int a1), (2, .int a2)] := hl
  have hx := X.1
  have hb := X.2.1
  unfold f_X1_addOwn at hf
  refine lv_aload_n hx hb dX1_addOwn_0 rfl (lv_at hl 0 rfl) ?_
  refine x_get X hw 4 (Nat.le_of_ble_eq_true rfl) ce4 rfl i_X1 0 (by decide) q143 ⟨rfl, rfl, rfl⟩ rfl dX1_addOwn_1 ?_
  refine lv_iload_n hx hb dX1_addOwn_4 rfl (lv_at hl 1 rfl) ?_
  obtain ⟨h1, hf⟩ := if_s hf
  refine x_iald X hw 25 ⟨Nat.le_of_ble_eq_true rfl, Nat.le_of_ble_eq_true rfl⟩ rfl h1 (a1.toNatClampNeg) rfl dX1_addOwn_5 ?_
  refine lv_bipush (v := -9) hx hb dX1_addOwn_6 (by decide +kernel) ?_
  refine lv_icmp_eq (tgt := 38) hx hb dX1_addOwn_8 (by decide) (fun c2 => ?_) (fun c2 => ?_)
  · replace hf := if_t c2 hf
    exact hfin _ _ 0 _ _ _ hw rfl (Option.some.inj hf) dX1_addOwn_38
  · replace hf := if_f c2 hf
    refine lv_aload_n hx hb dX1_addOwn_11 rfl (lv_at hl 0 rfl) ?_
    refine x_get X hw 4 (Nat.le_of_ble_eq_true rfl) ce4 rfl i_X1 1 (by decide) q144 ⟨rfl, rfl, rfl⟩ rfl dX1_addOwn_12 ?_
    refine lv_iload_n hx hb dX1_addOwn_15 rfl (lv_at hl 1 rfl) ?_
    refine lv_dup2_11 hx hb dX1_addOwn_16 rfl rfl ?_
    refine x_iald X hw 26 ⟨Nat.le_of_ble_eq_true rfl, Nat.le_of_ble_eq_true rfl⟩ rfl h1 (a1.toNatClampNeg) rfl dX1_addOwn_17 ?_
    refine lv_iload_n hx hb dX1_addOwn_18 rfl (lv_at hl 2 rfl) ?_
    refine lv_iadd hx hb dX1_addOwn_19 ?_
    refine x_iast X hw 26 ⟨Nat.le_of_ble_eq_true rfl, Nat.le_of_ble_eq_true rfl⟩ rfl h1 (a1.toNatClampNeg) rfl dX1_addOwn_20 (fun S3 eS3 H locs hw => ?_)
    replace hf := lt_e eS3 hf
    refine lv_aload_n hx hb dX1_addOwn_21 rfl (lv_at hl 0 rfl) ?_
    refine x_get X hw 4 (Nat.le_of_ble_eq_true rfl) ce4 rfl i_X1 2 (by decide) q146 ⟨rfl, rfl, rfl⟩ rfl dX1_addOwn_22 ?_
    refine lv_iload_n hx hb dX1_addOwn_25 rfl (lv_at hl 1 rfl) ?_
    refine lv_dup2_11 hx hb dX1_addOwn_26 rfl rfl ?_
    refine x_iald X hw 27 ⟨Nat.le_of_ble_eq_true rfl, Nat.le_of_ble_eq_true rfl⟩ rfl h1 (a1.toNatClampNeg) rfl dX1_addOwn_27 ?_
    refine lv_iload_n hx hb dX1_addOwn_28 rfl (lv_at hl 2 rfl) ?_
    refine lv_aload_n hx hb dX1_addOwn_29 rfl (lv_at hl 0 rfl) ?_
    refine x_get X hw 4 (Nat.le_of_ble_eq_true rfl) ce4 rfl i_X1 0 (by decide) q143 ⟨rfl, rfl, rfl⟩ rfl dX1_addOwn_30 ?_
    refine lv_iload_n hx hb dX1_addOwn_33 rfl (lv_at hl 1 rfl) ?_
    refine x_iald X hw 25 ⟨Nat.le_of_ble_eq_true rfl, Nat.le_of_ble_eq_true rfl⟩ rfl h1 (a1.toNatClampNeg) rfl dX1_addOwn_34 ?_
    refine lv_imul hx hb dX1_addOwn_35 ?_
    refine lv_iadd hx hb dX1_addOwn_36 ?_
    refine x_iast X hw 27 ⟨Nat.le_of_ble_eq_true rfl, Nat.le_of_ble_eq_true rfl⟩ rfl h1 (a1.toNatClampNeg) rfl dX1_addOwn_37 (fun S4 eS4 H locs hw => ?_)
    replace hf := lt_e eS4 hf
    exact hfin _ _ 0 _ _ _ hw rfl (Option.some.inj hf) dX1_addOwn_38
/-- NineLands$Sums.payPut(LNineLands$Book;I)I -/
theorem dX1_payPut_0 : decode cX1_payPut 0 = .ok (.aload_n 0, 1) := by decide +kernel
theorem dX1_payPut_1 : decode cX1_payPut 1 = .ok (.getfield 9, 3) := by decide +kernel
theorem dX1_payPut_4 : decode cX1_payPut 4 = .ok (.iload_n 2, 1) := by decide +kernel
theorem dX1_payPut_5 : decode cX1_payPut 5 = .ok (.iaload, 1) := by decide +kernel
theorem dX1_payPut_6 : decode cX1_payPut 6 = .ok (.bipush (-9), 2) := by decide +kernel
theorem dX1_payPut_8 : decode cX1_payPut 8 = .ok (.if_icmp .eq 10, 3) := by decide +kernel
theorem dX1_payPut_11 : decode cX1_payPut 11 = .ok (.aload_n 0, 1) := by decide +kernel
theorem dX1_payPut_12 : decode cX1_payPut 12 = .ok (.getfield 9, 3) := by decide +kernel
theorem dX1_payPut_15 : decode cX1_payPut 15 = .ok (.iload_n 2, 1) := by decide +kernel
theorem dX1_payPut_16 : decode cX1_payPut 16 = .ok (.iaload, 1) := by decide +kernel
theorem dX1_payPut_17 : decode cX1_payPut 17 = .ok (.ireturn, 1) := by decide +kernel
theorem dX1_payPut_18 : decode cX1_payPut 18 = .ok (.iconst 0, 1) := by decide +kernel
theorem dX1_payPut_19 : decode cX1_payPut 19 = .ok (.istore_n 3, 1) := by decide +kernel
theorem dX1_payPut_20 : decode cX1_payPut 20 = .ok (.iload_n 3, 1) := by decide +kernel
theorem dX1_payPut_21 : decode cX1_payPut 21 = .ok (.bipush 6, 2) := by decide +kernel
theorem dX1_payPut_23 : decode cX1_payPut 23 = .ok (.if_icmp .ge 39, 3) := by decide +kernel
theorem dX1_payPut_26 : decode cX1_payPut 26 = .ok (.aload_n 1, 1) := by decide +kernel
theorem dX1_payPut_27 : decode cX1_payPut 27 = .ok (.getfield 81, 3) := by decide +kernel
theorem dX1_payPut_30 : decode cX1_payPut 30 = .ok (.iload_n 2, 1) := by decide +kernel
theorem dX1_payPut_31 : decode cX1_payPut 31 = .ok (.aaload, 1) := by decide +kernel
theorem dX1_payPut_32 : decode cX1_payPut 32 = .ok (.iload_n 3, 1) := by decide +kernel
theorem dX1_payPut_33 : decode cX1_payPut 33 = .ok (.iaload, 1) := by decide +kernel
theorem dX1_payPut_34 : decode cX1_payPut 34 = .ok (.iconst 1, 1) := by decide +kernel
theorem dX1_payPut_35 : decode cX1_payPut 35 = .ok (.if_icmp .ne 21, 3) := by decide +kernel
theorem dX1_payPut_38 : decode cX1_payPut 38 = .ok (.aload_n 0, 1) := by decide +kernel
theorem dX1_payPut_39 : decode cX1_payPut 39 = .ok (.getfield 9, 3) := by decide +kernel
theorem dX1_payPut_42 : decode cX1_payPut 42 = .ok (.iload_n 3, 1) := by decide +kernel
theorem dX1_payPut_43 : decode cX1_payPut 43 = .ok (.iaload, 1) := by decide +kernel
theorem dX1_payPut_44 : decode cX1_payPut 44 = .ok (.bipush (-9), 2) := by decide +kernel
theorem dX1_payPut_46 : decode cX1_payPut 46 = .ok (.if_icmp .eq 10, 3) := by decide +kernel
theorem dX1_payPut_49 : decode cX1_payPut 49 = .ok (.aload_n 0, 1) := by decide +kernel
theorem dX1_payPut_50 : decode cX1_payPut 50 = .ok (.getfield 9, 3) := by decide +kernel
theorem dX1_payPut_53 : decode cX1_payPut 53 = .ok (.iload_n 3, 1) := by decide +kernel
theorem dX1_payPut_54 : decode cX1_payPut 54 = .ok (.iaload, 1) := by decide +kernel
theorem dX1_payPut_55 : decode cX1_payPut 55 = .ok (.ireturn, 1) := by decide +kernel
theorem dX1_payPut_56 : decode cX1_payPut 56 = .ok (.iinc 3 1, 3) := by decide +kernel
theorem dX1_payPut_59 : decode cX1_payPut 59 = .ok (.goto (-39), 3) := by decide +kernel
theorem dX1_payPut_62 : decode cX1_payPut 62 = .ok (.bipush (-9), 2) := by decide +kernel
theorem dX1_payPut_64 : decode cX1_payPut 64 = .ok (.ireturn, 1) := by decide +kernel
theorem hd_X1_payPut : yX1_payPut.cls ≠ "java/lang/invoke/MethodHandle" ∧ yX1_payPut.cls ≠ "java/lang/invoke/VarHandle" ∧ (parseMethodDescriptor yX1_payPut.desc).map (fun d => d.parameters.length) = some 2 := by decide +kernel
def f_X1_payPut_L20 (S : vS) : Nat → Int32 → Int32 →  Option (Unit ⊕ Int32)
  | 0, _, _ => none
  | n + 1, x2, x3 => if (6 : Int32) ≤ x3 then some (.inl (())) else if inb x2 6 = true then if inb x3 6 = true then if (S (60 + x2.toNatClampNeg) (x3.toNatClampNeg)) = (1 : Int32) then if (S 25 (x3.toNatClampNeg)) = (-9 : Int32) then (f_X1_payPut_L20 S n) x2 (x3 + 1) else some (.inr (S 25 (x3.toNatClampNeg))) else (f_X1_payPut_L20 S n) x2 (x3 + 1) else none else none
def f_X1_payPut (a2 : Int32) (S : vS) : Option Int32 := if inb a2 6 = true then if (S 25 (a2.toNatClampNeg)) = (-9 : Int32) then bS (f_X1_payPut_L20 S FU a2 (0 : Int32)) some fun _ => some (-9 : Int32) else some (S 25 (a2.toNatClampNeg)) else none
set_option maxHeartbeats 4000000 in
set_option maxRecDepth 20000 in
theorem c_X1_payPut (l : Launch) (D : va_G) (cI cO : ClassId) (ad : Nat → Nat) (a2 : Int32) (S : vS) (R9 : Int32) (hf : f_X1_payPut a2 S = some R9) : CI l yX1_payPut cX1_payPut 4 .int ({ frames := 0, cells := 0, slots := 0, locals := 0 }) [.ref (ad 4), .ref (ad 2), .int a2] D cI cO ad S R9 S := by
  refine CI.of (by decide +kernel) (Nat.le_of_ble_eq_true rfl) (fun p e s m args below meth c Q ls X hl hw hfin => ?_)
  have hl : lv_has ls 4 [(0, .ref (ad 4)), (1, .ref (ad 2)), (2, .int a2)] := hl
  have hx := X.1
  have hb := X.2.1
  have L20 : ∀ (n : Nat) (x2 : Int32) (x3 : Int32) (res : (Unit ⊕ Int32)), f_X1_payPut_L20 S n x2 x3 = some res → (K : some (Sum.inl (())) = some res → ∀ (H : Heap) (locs : List Loc) (ls : Array Slot), WD D cI cO ad s S H locs → lv_has ls 4 [] → W p l e ({ frames := 0, cells := 0, slots := 0, locals := 0 }) s m args below meth c H locs 0 0 Q (F0 m 62 ls [])) → (K2 : ∀ q : Int32, some (Sum.inr q) = some res → some q = some R9) → ∀ (H : Heap) (locs : List Loc) (ls : Array Slot), WD D cI cO ad s S H locs → lv_has ls 4 [(0, .ref (ad 4)), (1, .ref (ad 2)), (2, .int x2), (3, .int x3)] → W p l e ({ frames := 0, cells := 0, slots := 0, locals := 0 }) s m args below meth c H locs 0 0 Q (F0 m 20 ls []) := by
    intro n
    induction n with
    | zero => intro x2 x3 res hf; cases hf
    | succ n ih =>
      intro x2 x3 res hf K K2 H locs ls hw hl
      unfold f_X1_payPut_L20 at hf
      refine lv_iload_n hx hb dX1_payPut_20 rfl (lv_at hl 3 rfl) ?_
      refine lv_bipush (v := 6) hx hb dX1_payPut_21 (by decide +kernel) ?_
      refine lv_icmp_ge (tgt := 62) hx hb dX1_payPut_23 (by decide) (fun c3 => ?_) (fun c3 => ?_)
      · replace hf := if_t c3 hf
        exact K  hf _ _ _ hw (lv_sub hl [] rfl)
      · replace hf := if_f c3 hf
        refine lv_aload_n hx hb dX1_payPut_26 rfl (lv_at hl 1 rfl) ?_
        refine x_getN X hw 2 (Nat.le_of_ble_eq_true rfl) ce2 rfl i_X0 3 (by decide) q122 ⟨rfl, rfl, rfl⟩ rfl dX1_payPut_27 ?_
        refine lv_iload_n hx hb dX1_payPut_30 rfl (lv_at hl 2 rfl) ?_
        obtain ⟨h4, hf⟩ := if_s hf
        refine x_aald X hw 8 (Nat.le_of_ble_eq_true rfl) ce8 h4 rfl dX1_payPut_31 ?_
        refine lv_iload_n hx hb dX1_payPut_32 rfl (lv_at hl 3 rfl) ?_
        obtain ⟨h5, hf⟩ := if_s hf
        refine x_iald X hw (60 + x2.toNatClampNeg) (have q9 := inb_lt h4; ⟨by omega, by omega⟩) (alen_60 (inb_lt h4)) h5 (x3.toNatClampNeg) rfl dX1_payPut_33 ?_
        refine lv_iconst (v := 1) hx hb dX1_payPut_34 (by decide) ?_
        refine lv_icmp_ne (tgt := 56) hx hb dX1_payPut_35 (by decide) (fun c6 => ?_) (fun c6 => ?_)
        · replace hf := if_f c6 hf
          refine lv_iinc (v := (x3 + 1)) (lv' := [(3, .int (x3 + 1)), (0, .ref (ad 4)), (1, .ref (ad 2)), (2, .int x2)]) hx hb dX1_payPut_56 hl (k := 3) rfl rfl (by decide) rfl (fun ls hl => ?_)
          refine lv_goto (tgt := 20) hx hb dX1_payPut_59 (by decide) ?_
          exact ih x2 (x3 + 1) _ hf K K2 _ _ _ hw (lv_sub hl [1, 2, 3, 0] rfl)
        · replace hf := if_t c6 hf
          refine lv_aload_n hx hb dX1_payPut_38 rfl (lv_at hl 0 rfl) ?_
          refine x_get X hw 4 (Nat.le_of_ble_eq_true rfl) ce4 rfl i_X1 0 (by decide) q143 ⟨rfl, rfl, rfl⟩ rfl dX1_payPut_39 ?_
          refine lv_iload_n hx hb dX1_payPut_42 rfl (lv_at hl 3 rfl) ?_
          refine x_iald X hw 25 ⟨Nat.le_of_ble_eq_true rfl, Nat.le_of_ble_eq_true rfl⟩ rfl h5 (x3.toNatClampNeg) rfl dX1_payPut_43 ?_
          refine lv_bipush (v := -9) hx hb dX1_payPut_44 (by decide +kernel) ?_
          refine lv_icmp_eq (tgt := 56) hx hb dX1_payPut_46 (by decide) (fun c7 => ?_) (fun c7 => ?_)
          · replace hf := if_t c7 hf
            refine lv_iinc (v := (x3 + 1)) (lv' := [(3, .int (x3 + 1)), (0, .ref (ad 4)), (1, .ref (ad 2)), (2, .int x2)]) hx hb dX1_payPut_56 hl (k := 3) rfl rfl (by decide) rfl (fun ls hl => ?_)
            refine lv_goto (tgt := 20) hx hb dX1_payPut_59 (by decide) ?_
            exact ih x2 (x3 + 1) _ hf K K2 _ _ _ hw (lv_sub hl [1, 2, 3, 0] rfl)
          · replace hf := if_f c7 hf
            refine lv_aload_n hx hb dX1_payPut_49 rfl (lv_at hl 0 rfl) ?_
            refine x_get X hw 4 (Nat.le_of_ble_eq_true rfl) ce4 rfl i_X1 0 (by decide) q143 ⟨rfl, rfl, rfl⟩ rfl dX1_payPut_50 ?_
            refine lv_iload_n hx hb dX1_payPut_53 rfl (lv_at hl 3 rfl) ?_
            refine x_iald X hw 25 ⟨Nat.le_of_ble_eq_true rfl, Nat.le_of_ble_eq_true rfl⟩ rfl h5 (x3.toNatClampNeg) rfl dX1_payPut_54 ?_
            replace hf := K2 _ hf
            exact hfin _ _ _ _ _ _ hw (Option.some.inj hf) rfl (narI _) dX1_payPut_55
  unfold f_X1_payPut at hf
  refine lv_aload_n hx hb dX1_payPut_0 rfl (lv_at hl 0 rfl) ?_
  refine x_get X hw 4 (Nat.le_of_ble_eq_true rfl) ce4 rfl i_X1 0 (by decide) q143 ⟨rfl, rfl, rfl⟩ rfl dX1_payPut_1 ?_
  refine lv_iload_n hx hb dX1_payPut_4 rfl (lv_at hl 2 rfl) ?_
  obtain ⟨h1, hf⟩ := if_s hf
  refine x_iald X hw 25 ⟨Nat.le_of_ble_eq_true rfl, Nat.le_of_ble_eq_true rfl⟩ rfl h1 (a2.toNatClampNeg) rfl dX1_payPut_5 ?_
  refine lv_bipush (v := -9) hx hb dX1_payPut_6 (by decide +kernel) ?_
  refine lv_icmp_eq (tgt := 18) hx hb dX1_payPut_8 (by decide) (fun c2 => ?_) (fun c2 => ?_)
  · replace hf := if_t c2 hf
    refine lv_iconst (v := 0) hx hb dX1_payPut_18 (by decide) ?_
    refine lv_istore_n (lv' := [(3, .int (0 : Int32)), (0, .ref (ad 4)), (1, .ref (ad 2)), (2, .int a2)]) hx hb dX1_payPut_19 rfl hl (by decide) rfl (fun ls hl => ?_)
    obtain ⟨res, h8, hk1, hk2⟩ := bS_x hf
    refine L20 FU a2 (0 : Int32) res h8 (fun eK H locs ls hw hl => ?_) (fun q eK => hk2 q (Option.some.inj eK).symm) _ _ _ hw (lv_sub hl [1, 2, 3, 0] rfl)
    replace hf := hk1 _ (Option.some.inj eK).symm
    refine lv_bipush (v := -9) hx hb dX1_payPut_62 (by decide +kernel) ?_
    exact hfin _ _ _ _ _ _ hw (Option.some.inj hf) rfl (narI _) dX1_payPut_64
  · replace hf := if_f c2 hf
    refine lv_aload_n hx hb dX1_payPut_11 rfl (lv_at hl 0 rfl) ?_
    refine x_get X hw 4 (Nat.le_of_ble_eq_true rfl) ce4 rfl i_X1 0 (by decide) q143 ⟨rfl, rfl, rfl⟩ rfl dX1_payPut_12 ?_
    refine lv_iload_n hx hb dX1_payPut_15 rfl (lv_at hl 2 rfl) ?_
    refine x_iald X hw 25 ⟨Nat.le_of_ble_eq_true rfl, Nat.le_of_ble_eq_true rfl⟩ rfl h1 (a2.toNatClampNeg) rfl dX1_payPut_16 ?_
    exact hfin _ _ _ _ _ _ hw (Option.some.inj hf) rfl (narI _) dX1_payPut_17
/-- NineLands$Sums.addPut(LNineLands$Book;II)V -/
theorem dX1_addPut_0 : decode cX1_addPut 0 = .ok (.aload_n 0, 1) := by decide +kernel
theorem dX1_addPut_1 : decode cX1_addPut 1 = .ok (.aload_n 1, 1) := by decide +kernel
theorem dX1_addPut_2 : decode cX1_addPut 2 = .ok (.iload_n 2, 1) := by decide +kernel
theorem dX1_addPut_3 : decode cX1_addPut 3 = .ok (.invokevirtual 77, 3) := by decide +kernel
theorem dX1_addPut_6 : decode cX1_addPut 6 = .ok (.istore 4, 2) := by decide +kernel
theorem dX1_addPut_8 : decode cX1_addPut 8 = .ok (.iload 4, 2) := by decide +kernel
theorem dX1_addPut_10 : decode cX1_addPut 10 = .ok (.bipush (-9), 2) := by decide +kernel
theorem dX1_addPut_12 : decode cX1_addPut 12 = .ok (.if_icmp .eq 26, 3) := by decide +kernel
theorem dX1_addPut_15 : decode cX1_addPut 15 = .ok (.aload_n 0, 1) := by decide +kernel
theorem dX1_addPut_16 : decode cX1_addPut 16 = .ok (.getfield 21, 3) := by decide +kernel
theorem dX1_addPut_19 : decode cX1_addPut 19 = .ok (.iload_n 2, 1) := by decide +kernel
theorem dX1_addPut_20 : decode cX1_addPut 20 = .ok (.dup2, 1) := by decide +kernel
theorem dX1_addPut_21 : decode cX1_addPut 21 = .ok (.iaload, 1) := by decide +kernel
theorem dX1_addPut_22 : decode cX1_addPut 22 = .ok (.iload_n 3, 1) := by decide +kernel
theorem dX1_addPut_23 : decode cX1_addPut 23 = .ok (.iadd, 1) := by decide +kernel
theorem dX1_addPut_24 : decode cX1_addPut 24 = .ok (.iastore, 1) := by decide +kernel
theorem dX1_addPut_25 : decode cX1_addPut 25 = .ok (.aload_n 0, 1) := by decide +kernel
theorem dX1_addPut_26 : decode cX1_addPut 26 = .ok (.getfield 24, 3) := by decide +kernel
theorem dX1_addPut_29 : decode cX1_addPut 29 = .ok (.iload_n 2, 1) := by decide +kernel
theorem dX1_addPut_30 : decode cX1_addPut 30 = .ok (.dup2, 1) := by decide +kernel
theorem dX1_addPut_31 : decode cX1_addPut 31 = .ok (.iaload, 1) := by decide +kernel
theorem dX1_addPut_32 : decode cX1_addPut 32 = .ok (.iload_n 3, 1) := by decide +kernel
theorem dX1_addPut_33 : decode cX1_addPut 33 = .ok (.iload 4, 2) := by decide +kernel
theorem dX1_addPut_35 : decode cX1_addPut 35 = .ok (.imul, 1) := by decide +kernel
theorem dX1_addPut_36 : decode cX1_addPut 36 = .ok (.iadd, 1) := by decide +kernel
theorem dX1_addPut_37 : decode cX1_addPut 37 = .ok (.iastore, 1) := by decide +kernel
theorem dX1_addPut_38 : decode cX1_addPut 38 = .ok (.return_, 1) := by decide +kernel
theorem hd_X1_addPut : yX1_addPut.cls ≠ "java/lang/invoke/MethodHandle" ∧ yX1_addPut.cls ≠ "java/lang/invoke/VarHandle" ∧ (parseMethodDescriptor yX1_addPut.desc).map (fun d => d.parameters.length) = some 3 := by decide +kernel
def f_X1_addPut (a2 : Int32) (a3 : Int32) (S : vS) : Option vS := b1 (f_X1_payPut a2 S) fun r2 => if r2 = (-9 : Int32) then some S else if inb a2 6 = true then lt (upk S 28 (upd (S 28) (a2.toNatClampNeg) ((S 28 (a2.toNatClampNeg)) + a3))) fun S5 => lt (upk S5 29 (upd (S5 29) (a2.toNatClampNeg) ((S5 29 (a2.toNatClampNeg)) + (a3 * r2)))) fun S6 => some S6 else none
set_option maxHeartbeats 4000000 in
set_option maxRecDepth 20000 in
theorem c_X1_addPut (l : Launch) (D : va_G) (cI cO : ClassId) (ad : Nat → Nat) (a2 : Int32) (a3 : Int32) (S : vS) (S9 : vS) (hf : f_X1_addPut a2 a3 S = some S9) : CV l yX1_addPut cX1_addPut 5 ({ frames := 1, cells := 0, slots := 0, locals := 23 }) [.ref (ad 4), .ref (ad 2), .int a2, .int a3] D cI cO ad S S9 := by
  refine CV.of (r := 0) (by decide +kernel) (Nat.le_of_ble_eq_true rfl) (fun p e s m args below meth c Q ls X hl hw hfin => ?_)
  have hl : lv_has ls 5 [(0, .ref (ad 4)), (1, .ref (ad 2)), (2, .int a2), (3, .int a3)] := hl
  have hx := X.1
  have hb := X.2.1
  unfold f_X1_addPut at hf
  refine lv_aload_n hx hb dX1_addPut_0 rfl (lv_at hl 0 rfl) ?_
  refine lv_aload_n hx hb dX1_addPut_1 rfl (lv_at hl 1 rfl) ?_
  refine lv_iload_n hx hb dX1_addPut_2 rfl (lv_at hl 2 rfl) ?_
  obtain ⟨r2, h1, hf⟩ := b1_s hf
  refine kVi X hw (c_X1_payPut l D cI cO ad a2 S r2 h1) (Nat.le_of_ble_eq_true rfl) ce4 rfl ⟨rfl, rfl⟩ q406 q408 q16 q63 q409 hd_X1_payPut ⟨Nat.le_of_ble_eq_true rfl, Nat.le_of_ble_eq_true rfl⟩ rfl hl.1 rfl (Nat.le_of_ble_eq_true rfl) dX1_addPut_3 (fun H locs hw => ?_)
  refine lv_istore (lv' := [(4, .int r2), (0, .ref (ad 4)), (1, .ref (ad 2)), (2, .int a2), (3, .int a3)]) hx hb dX1_addPut_6 hl (by decide) rfl (fun ls hl => ?_)
  refine lv_iload hx hb dX1_addPut_8 (lv_at hl 0 rfl) ?_
  refine lv_bipush (v := -9) hx hb dX1_addPut_10 (by decide +kernel) ?_
  refine lv_icmp_eq (tgt := 38) hx hb dX1_addPut_12 (by decide) (fun c3 => ?_) (fun c3 => ?_)
  · replace hf := if_t c3 hf
    exact hfin _ _ 0 _ _ _ hw rfl (Option.some.inj hf) dX1_addPut_38
  · replace hf := if_f c3 hf
    refine lv_aload_n hx hb dX1_addPut_15 rfl (lv_at hl 1 rfl) ?_
    refine x_get X hw 4 (Nat.le_of_ble_eq_true rfl) ce4 rfl i_X1 3 (by decide) q148 ⟨rfl, rfl, rfl⟩ rfl dX1_addPut_16 ?_
    refine lv_iload_n hx hb dX1_addPut_19 rfl (lv_at hl 3 rfl) ?_
    refine lv_dup2_11 hx hb dX1_addPut_20 rfl rfl ?_
    obtain ⟨h4, hf⟩ := if_s hf
    refine x_iald X hw 28 ⟨Nat.le_of_ble_eq_true rfl, Nat.le_of_ble_eq_true rfl⟩ rfl h4 (a2.toNatClampNeg) rfl dX1_addPut_21 ?_
    refine lv_iload_n hx hb dX1_addPut_22 rfl (lv_at hl 4 rfl) ?_
    refine lv_iadd hx hb dX1_addPut_23 ?_
    refine x_iast X hw 28 ⟨Nat.le_of_ble_eq_true rfl, Nat.le_of_ble_eq_true rfl⟩ rfl h4 (a2.toNatClampNeg) rfl dX1_addPut_24 (fun S5 eS5 H locs hw => ?_)
    replace hf := lt_e eS5 hf
    refine lv_aload_n hx hb dX1_addPut_25 rfl (lv_at hl 1 rfl) ?_
    refine x_get X hw 4 (Nat.le_of_ble_eq_true rfl) ce4 rfl i_X1 4 (by decide) q150 ⟨rfl, rfl, rfl⟩ rfl dX1_addPut_26 ?_
    refine lv_iload_n hx hb dX1_addPut_29 rfl (lv_at hl 3 rfl) ?_
    refine lv_dup2_11 hx hb dX1_addPut_30 rfl rfl ?_
    refine x_iald X hw 29 ⟨Nat.le_of_ble_eq_true rfl, Nat.le_of_ble_eq_true rfl⟩ rfl h4 (a2.toNatClampNeg) rfl dX1_addPut_31 ?_
    refine lv_iload_n hx hb dX1_addPut_32 rfl (lv_at hl 4 rfl) ?_
    refine lv_iload hx hb dX1_addPut_33 (lv_at hl 0 rfl) ?_
    refine lv_imul hx hb dX1_addPut_35 ?_
    refine lv_iadd hx hb dX1_addPut_36 ?_
    refine x_iast X hw 29 ⟨Nat.le_of_ble_eq_true rfl, Nat.le_of_ble_eq_true rfl⟩ rfl h4 (a2.toNatClampNeg) rfl dX1_addPut_37 (fun S6 eS6 H locs hw => ?_)
    replace hf := lt_e eS6 hf
    exact hfin _ _ 0 _ _ _ hw rfl (Option.some.inj hf) dX1_addPut_38
/-- NineLands$Sums.addStretch(LNineLands$Book;II)V -/
theorem dX1_addStretch_0 : decode cX1_addStretch 0 = .ok (.iconst 0, 1) := by decide +kernel
theorem dX1_addStretch_1 : decode cX1_addStretch 1 = .ok (.istore 4, 2) := by decide +kernel
theorem dX1_addStretch_3 : decode cX1_addStretch 3 = .ok (.iload 4, 2) := by decide +kernel
theorem dX1_addStretch_5 : decode cX1_addStretch 5 = .ok (.bipush 6, 2) := by decide +kernel
theorem dX1_addStretch_7 : decode cX1_addStretch 7 = .ok (.if_icmp .ge 23, 3) := by decide +kernel
theorem dX1_addStretch_10 : decode cX1_addStretch 10 = .ok (.aload_n 0, 1) := by decide +kernel
theorem dX1_addStretch_11 : decode cX1_addStretch 11 = .ok (.getfield 9, 3) := by decide +kernel
theorem dX1_addStretch_14 : decode cX1_addStretch 14 = .ok (.iload 4, 2) := by decide +kernel
theorem dX1_addStretch_16 : decode cX1_addStretch 16 = .ok (.aload_n 1, 1) := by decide +kernel
theorem dX1_addStretch_17 : decode cX1_addStretch 17 = .ok (.iload 4, 2) := by decide +kernel
theorem dX1_addStretch_19 : decode cX1_addStretch 19 = .ok (.iload_n 2, 1) := by decide +kernel
theorem dX1_addStretch_20 : decode cX1_addStretch 20 = .ok (.invokevirtual 63, 3) := by decide +kernel
theorem dX1_addStretch_23 : decode cX1_addStretch 23 = .ok (.iastore, 1) := by decide +kernel
theorem dX1_addStretch_24 : decode cX1_addStretch 24 = .ok (.iinc 4 1, 3) := by decide +kernel
theorem dX1_addStretch_27 : decode cX1_addStretch 27 = .ok (.goto (-24), 3) := by decide +kernel
theorem dX1_addStretch_30 : decode cX1_addStretch 30 = .ok (.iconst 0, 1) := by decide +kernel
theorem dX1_addStretch_31 : decode cX1_addStretch 31 = .ok (.istore 4, 2) := by decide +kernel
theorem dX1_addStretch_33 : decode cX1_addStretch 33 = .ok (.iload 4, 2) := by decide +kernel
theorem dX1_addStretch_35 : decode cX1_addStretch 35 = .ok (.bipush 6, 2) := by decide +kernel
theorem dX1_addStretch_37 : decode cX1_addStretch 37 = .ok (.if_icmp .ge 24, 3) := by decide +kernel
theorem dX1_addStretch_40 : decode cX1_addStretch 40 = .ok (.aload_n 0, 1) := by decide +kernel
theorem dX1_addStretch_41 : decode cX1_addStretch 41 = .ok (.iload 4, 2) := by decide +kernel
theorem dX1_addStretch_43 : decode cX1_addStretch 43 = .ok (.iload_n 3, 1) := by decide +kernel
theorem dX1_addStretch_44 : decode cX1_addStretch 44 = .ok (.invokevirtual 67, 3) := by decide +kernel
theorem dX1_addStretch_47 : decode cX1_addStretch 47 = .ok (.aload_n 0, 1) := by decide +kernel
theorem dX1_addStretch_48 : decode cX1_addStretch 48 = .ok (.aload_n 1, 1) := by decide +kernel
theorem dX1_addStretch_49 : decode cX1_addStretch 49 = .ok (.iload 4, 2) := by decide +kernel
theorem dX1_addStretch_51 : decode cX1_addStretch 51 = .ok (.iload_n 3, 1) := by decide +kernel
theorem dX1_addStretch_52 : decode cX1_addStretch 52 = .ok (.invokevirtual 71, 3) := by decide +kernel
theorem dX1_addStretch_55 : decode cX1_addStretch 55 = .ok (.iinc 4 1, 3) := by decide +kernel
theorem dX1_addStretch_58 : decode cX1_addStretch 58 = .ok (.goto (-25), 3) := by decide +kernel
theorem dX1_addStretch_61 : decode cX1_addStretch 61 = .ok (.aload_n 1, 1) := by decide +kernel
theorem dX1_addStretch_62 : decode cX1_addStretch 62 = .ok (.iload_n 2, 1) := by decide +kernel
theorem dX1_addStretch_63 : decode cX1_addStretch 63 = .ok (.invokevirtual 74, 3) := by decide +kernel
theorem dX1_addStretch_66 : decode cX1_addStretch 66 = .ok (.iconst 2, 1) := by decide +kernel
theorem dX1_addStretch_67 : decode cX1_addStretch 67 = .ok (.if_icmp .lt 34, 3) := by decide +kernel
theorem dX1_addStretch_70 : decode cX1_addStretch 70 = .ok (.aload_n 0, 1) := by decide +kernel
theorem dX1_addStretch_71 : decode cX1_addStretch 71 = .ok (.dup, 1) := by decide +kernel
theorem dX1_addStretch_72 : decode cX1_addStretch 72 = .ok (.getfield 33, 3) := by decide +kernel
theorem dX1_addStretch_75 : decode cX1_addStretch 75 = .ok (.iload_n 3, 1) := by decide +kernel
theorem dX1_addStretch_76 : decode cX1_addStretch 76 = .ok (.iadd, 1) := by decide +kernel
theorem dX1_addStretch_77 : decode cX1_addStretch 77 = .ok (.putfield 33, 3) := by decide +kernel
theorem dX1_addStretch_80 : decode cX1_addStretch 80 = .ok (.aload_n 0, 1) := by decide +kernel
theorem dX1_addStretch_81 : decode cX1_addStretch 81 = .ok (.aload_n 0, 1) := by decide +kernel
theorem dX1_addStretch_82 : decode cX1_addStretch 82 = .ok (.getfield 37, 3) := by decide +kernel
theorem dX1_addStretch_85 : decode cX1_addStretch 85 = .ok (.bipush (-9), 2) := by decide +kernel
theorem dX1_addStretch_87 : decode cX1_addStretch 87 = .ok (.if_icmp .ne 7, 3) := by decide +kernel
theorem dX1_addStretch_90 : decode cX1_addStretch 90 = .ok (.iload_n 2, 1) := by decide +kernel
theorem dX1_addStretch_91 : decode cX1_addStretch 91 = .ok (.goto 7, 3) := by decide +kernel
theorem dX1_addStretch_94 : decode cX1_addStretch 94 = .ok (.aload_n 0, 1) := by decide +kernel
theorem dX1_addStretch_95 : decode cX1_addStretch 95 = .ok (.getfield 37, 3) := by decide +kernel
theorem dX1_addStretch_98 : decode cX1_addStretch 98 = .ok (.putfield 37, 3) := by decide +kernel
theorem dX1_addStretch_101 : decode cX1_addStretch 101 = .ok (.return_, 1) := by decide +kernel
theorem hd_X1_addStretch : yX1_addStretch.cls ≠ "java/lang/invoke/MethodHandle" ∧ yX1_addStretch.cls ≠ "java/lang/invoke/VarHandle" ∧ (parseMethodDescriptor yX1_addStretch.desc).map (fun d => d.parameters.length) = some 3 := by decide +kernel
def f_X1_addStretch_L3 : Nat → Int32 → Int32 → Int32 → vS → Option vS
  | 0, _, _, _, _ => none
  | n + 1, x2, x3, x4, S => if (6 : Int32) ≤ x4 then some S else b1 (f_X0_payAt x4 x2 S) fun r3 => if inb x4 6 = true then lt (upk S 25 (upd (S 25) (x4.toNatClampNeg) r3)) fun S5 => (f_X1_addStretch_L3 n) x2 x3 (x4 + 1) S5 else none
def f_X1_addStretch_L33 : Nat → Int32 → Int32 → Int32 → vS → Option vS
  | 0, _, _, _, _ => none
  | n + 1, x2, x3, x4, S => if (6 : Int32) ≤ x4 then some S else b1 (f_X1_addOwn x4 x3 S) fun S9 => b1 (f_X1_addPut x4 x3 S9) fun S11 => (f_X1_addStretch_L33 n) x2 x3 (x4 + 1) S11
def f_X1_addStretch (a2 : Int32) (a3 : Int32) (S : vS) : Option vS := b1 (f_X1_addStretch_L3 FU a2 a3 (0 : Int32) S) fun S6 => b1 (f_X1_addStretch_L33 FU a2 a3 (0 : Int32) S6) fun S12 => b1 (f_X0_holders a2 S12) fun r14 => if r14 < (2 : Int32) then some S12 else lt (upk S12 0 (upd (S12 0) 14 ((S12 0 14) + a3))) fun S16 => if (S16 0 15) = (-9 : Int32) then lt (upk S16 0 (upd (S16 0) 15 a2)) fun S19 => some S19 else lt (upk S16 0 (upd (S16 0) 15 (S16 0 15))) fun S18 => some S18
set_option maxHeartbeats 4000000 in
set_option maxRecDepth 20000 in
theorem c_X1_addStretch (l : Launch) (D : va_G) (cI cO : ClassId) (ad : Nat → Nat) (a2 : Int32) (a3 : Int32) (S : vS) (S9 : vS) (hf : f_X1_addStretch a2 a3 S = some S9) : CV l yX1_addStretch cX1_addStretch 5 ({ frames := 2, cells := 0, slots := 0, locals := 49 }) [.ref (ad 4), .ref (ad 2), .int a2, .int a3] D cI cO ad S S9 := by
  refine CV.of (r := 0) (by decide +kernel) (Nat.le_of_ble_eq_true rfl) (fun p e s m args below meth c Q ls X hl hw hfin => ?_)
  have hl : lv_has ls 5 [(0, .ref (ad 4)), (1, .ref (ad 2)), (2, .int a2), (3, .int a3)] := hl
  have hx := X.1
  have hb := X.2.1
  have L3 : ∀ (n : Nat) (x2 : Int32) (x3 : Int32) (x4 : Int32) (S : vS) (res : vS), f_X1_addStretch_L3 n x2 x3 x4 S = some res → (K : ∀  (S2 : vS), some S2 = some res → ∀ (H : Heap) (locs : List Loc) (ls : Array Slot), WD D cI cO ad s S2 H locs → lv_has ls 5 [(0, .ref (ad 4)), (1, .ref (ad 2)), (2, .int x2), (3, .int x3)] → W p l e ({ frames := 2, cells := 0, slots := 0, locals := 49 }) s m args below meth c H locs 0 0 Q (F0 m 30 ls [])) → ∀ (H : Heap) (locs : List Loc) (ls : Array Slot), WD D cI cO ad s S H locs → lv_has ls 5 [(0, .ref (ad 4)), (1, .ref (ad 2)), (2, .int x2), (3, .int x3), (4, .int x4)] → W p l e ({ frames := 2, cells := 0, slots := 0, locals := 49 }) s m args below meth c H locs 0 0 Q (F0 m 3 ls []) := by
    intro n
    induction n with
    | zero => intro x2 x3 x4 S res hf; cases hf
    | succ n ih =>
      intro x2 x3 x4 S res hf K H locs ls hw hl
      unfold f_X1_addStretch_L3 at hf
      refine lv_iload hx hb dX1_addStretch_3 (lv_at hl 4 rfl) ?_
      refine lv_bipush (v := 6) hx hb dX1_addStretch_5 (by decide +kernel) ?_
      refine lv_icmp_ge (tgt := 30) hx hb dX1_addStretch_7 (by decide) (fun c1 => ?_) (fun c1 => ?_)
      · replace hf := if_t c1 hf
        exact K S hf _ _ _ hw (lv_sub hl [0, 1, 2, 3] rfl)
      · replace hf := if_f c1 hf
        refine lv_aload_n hx hb dX1_addStretch_10 rfl (lv_at hl 0 rfl) ?_
        refine x_get X hw 4 (Nat.le_of_ble_eq_true rfl) ce4 rfl i_X1 0 (by decide) q143 ⟨rfl, rfl, rfl⟩ rfl dX1_addStretch_11 ?_
        refine lv_iload hx hb dX1_addStretch_14 (lv_at hl 4 rfl) ?_
        refine lv_aload_n hx hb dX1_addStretch_16 rfl (lv_at hl 1 rfl) ?_
        refine lv_iload hx hb dX1_addStretch_17 (lv_at hl 4 rfl) ?_
        refine lv_iload_n hx hb dX1_addStretch_19 rfl (lv_at hl 2 rfl) ?_
        obtain ⟨r3, h2, hf⟩ := b1_s hf
        refine kNi X hw (c_X0_payAt l D cI cO ad x4 x2 S r3 h2) (Nat.le_of_ble_eq_true rfl) ce2 rfl ⟨rfl, rfl⟩ q385 q387 q11 q61 q388 hd_X0_payAt ⟨Nat.le_of_ble_eq_true rfl, Nat.le_of_ble_eq_true rfl⟩ rfl hl.1 rfl (Nat.le_of_ble_eq_true rfl) dX1_addStretch_20 (fun H locs hw => ?_)
        obtain ⟨h4, hf⟩ := if_s hf
        refine x_iast X hw 25 ⟨Nat.le_of_ble_eq_true rfl, Nat.le_of_ble_eq_true rfl⟩ rfl h4 (x4.toNatClampNeg) rfl dX1_addStretch_23 (fun S5 eS5 H locs hw => ?_)
        replace hf := lt_e eS5 hf
        refine lv_iinc (v := (x4 + 1)) (lv' := [(4, .int (x4 + 1)), (0, .ref (ad 4)), (1, .ref (ad 2)), (2, .int x2), (3, .int x3)]) hx hb dX1_addStretch_24 hl (k := 4) rfl rfl (by decide) rfl (fun ls hl => ?_)
        refine lv_goto (tgt := 3) hx hb dX1_addStretch_27 (by decide) ?_
        exact ih x2 x3 (x4 + 1) S5 _ hf K _ _ _ hw (lv_sub hl [1, 2, 3, 4, 0] rfl)
  have L33 : ∀ (n : Nat) (x2 : Int32) (x3 : Int32) (x4 : Int32) (S : vS) (res : vS), f_X1_addStretch_L33 n x2 x3 x4 S = some res → (K : ∀  (S2 : vS), some S2 = some res → ∀ (H : Heap) (locs : List Loc) (ls : Array Slot), WD D cI cO ad s S2 H locs → lv_has ls 5 [(0, .ref (ad 4)), (1, .ref (ad 2)), (2, .int x2), (3, .int x3)] → W p l e ({ frames := 2, cells := 0, slots := 0, locals := 49 }) s m args below meth c H locs 0 0 Q (F0 m 61 ls [])) → ∀ (H : Heap) (locs : List Loc) (ls : Array Slot), WD D cI cO ad s S H locs → lv_has ls 5 [(0, .ref (ad 4)), (1, .ref (ad 2)), (2, .int x2), (3, .int x3), (4, .int x4)] → W p l e ({ frames := 2, cells := 0, slots := 0, locals := 49 }) s m args below meth c H locs 0 0 Q (F0 m 33 ls []) := by
    intro n
    induction n with
    | zero => intro x2 x3 x4 S res hf; cases hf
    | succ n ih =>
      intro x2 x3 x4 S res hf K H locs ls hw hl
      unfold f_X1_addStretch_L33 at hf
      refine lv_iload hx hb dX1_addStretch_33 (lv_at hl 4 rfl) ?_
      refine lv_bipush (v := 6) hx hb dX1_addStretch_35 (by decide +kernel) ?_
      refine lv_icmp_ge (tgt := 61) hx hb dX1_addStretch_37 (by decide) (fun c7 => ?_) (fun c7 => ?_)
      · replace hf := if_t c7 hf
        exact K S hf _ _ _ hw (lv_sub hl [0, 1, 2, 3] rfl)
      · replace hf := if_f c7 hf
        refine lv_aload_n hx hb dX1_addStretch_40 rfl (lv_at hl 0 rfl) ?_
        refine lv_iload hx hb dX1_addStretch_41 (lv_at hl 4 rfl) ?_
        refine lv_iload_n hx hb dX1_addStretch_43 rfl (lv_at hl 3 rfl) ?_
        obtain ⟨S9, h8, hf⟩ := b1_s hf
        refine kVv X hw (c_X1_addOwn l D cI cO ad x4 x3 S S9 h8) (Nat.le_of_ble_eq_true rfl) ce4 rfl ⟨rfl, rfl⟩ q398 q400 q14 q63 q401 hd_X1_addOwn ⟨Nat.le_of_ble_eq_true rfl, Nat.le_of_ble_eq_true rfl⟩ rfl hl.1 rfl (Nat.le_of_ble_eq_true rfl) dX1_addStretch_44 (fun H locs hw => ?_)
        refine lv_aload_n hx hb dX1_addStretch_47 rfl (lv_at hl 0 rfl) ?_
        refine lv_aload_n hx hb dX1_addStretch_48 rfl (lv_at hl 1 rfl) ?_
        refine lv_iload hx hb dX1_addStretch_49 (lv_at hl 4 rfl) ?_
        refine lv_iload_n hx hb dX1_addStretch_51 rfl (lv_at hl 3 rfl) ?_
        obtain ⟨S11, h10, hf⟩ := b1_s hf
        refine kVv X hw (c_X1_addPut l D cI cO ad x4 x3 S9 S11 h10) (Nat.le_of_ble_eq_true rfl) ce4 rfl ⟨rfl, rfl⟩ q402 q404 q15 q63 q405 hd_X1_addPut ⟨Nat.le_of_ble_eq_true rfl, Nat.le_of_ble_eq_true rfl⟩ rfl hl.1 rfl (Nat.le_of_ble_eq_true rfl) dX1_addStretch_52 (fun H locs hw => ?_)
        refine lv_iinc (v := (x4 + 1)) (lv' := [(4, .int (x4 + 1)), (0, .ref (ad 4)), (1, .ref (ad 2)), (2, .int x2), (3, .int x3)]) hx hb dX1_addStretch_55 hl (k := 4) rfl rfl (by decide) rfl (fun ls hl => ?_)
        refine lv_goto (tgt := 33) hx hb dX1_addStretch_58 (by decide) ?_
        exact ih x2 x3 (x4 + 1) S11 _ hf K _ _ _ hw (lv_sub hl [1, 2, 3, 4, 0] rfl)
  unfold f_X1_addStretch at hf
  refine lv_iconst (v := 0) hx hb dX1_addStretch_0 (by decide) ?_
  refine lv_istore (lv' := [(4, .int (0 : Int32)), (0, .ref (ad 4)), (1, .ref (ad 2)), (2, .int a2), (3, .int a3)]) hx hb dX1_addStretch_1 hl (by decide) rfl (fun ls hl => ?_)
  obtain ⟨S6, h21, hf⟩ := b1_s hf
  refine L3 FU a2 a3 (0 : Int32) S _ h21 (fun S6' eK H locs ls hw hl => ?_) _ _ _ hw (lv_sub hl [1, 2, 3, 4, 0] rfl)
  cases eK
  refine lv_iconst (v := 0) hx hb dX1_addStretch_30 (by decide) ?_
  refine lv_istore (lv' := [(4, .int (0 : Int32)), (0, .ref (ad 4)), (1, .ref (ad 2)), (2, .int a2), (3, .int a3)]) hx hb dX1_addStretch_31 hl (by decide) rfl (fun ls hl => ?_)
  obtain ⟨S12, h20, hf⟩ := b1_s hf
  refine L33 FU a2 a3 (0 : Int32) S6 _ h20 (fun S12' eK H locs ls hw hl => ?_) _ _ _ hw (lv_sub hl [1, 2, 3, 4, 0] rfl)
  cases eK
  refine lv_aload_n hx hb dX1_addStretch_61 rfl (lv_at hl 1 rfl) ?_
  refine lv_iload_n hx hb dX1_addStretch_62 rfl (lv_at hl 2 rfl) ?_
  obtain ⟨r14, h13, hf⟩ := b1_s hf
  refine kNi X hw (c_X0_holders l D cI cO ad a2 S12 r14 h13) (Nat.le_of_ble_eq_true rfl) ce2 rfl ⟨rfl, rfl⟩ q410 q412 q17 q61 q413 hd_X0_holders ⟨Nat.le_of_ble_eq_true rfl, Nat.le_of_ble_eq_true rfl⟩ rfl hl.1 rfl (Nat.le_of_ble_eq_true rfl) dX1_addStretch_63 (fun H locs hw => ?_)
  refine lv_iconst (v := 2) hx hb dX1_addStretch_66 (by decide) ?_
  refine lv_icmp_lt (tgt := 101) hx hb dX1_addStretch_67 (by decide) (fun c15 => ?_) (fun c15 => ?_)
  · replace hf := if_t c15 hf
    exact hfin _ _ 0 _ _ _ hw rfl (Option.some.inj hf) dX1_addStretch_101
  · replace hf := if_f c15 hf
    refine lv_aload_n hx hb dX1_addStretch_70 rfl (lv_at hl 0 rfl) ?_
    refine lv_dup hx hb dX1_addStretch_71 rfl ?_
    refine x_get X hw 4 (Nat.le_of_ble_eq_true rfl) ce4 rfl i_X1 7 (by decide) q155 ⟨rfl, rfl, rfl⟩ rfl dX1_addStretch_72 ?_
    refine lv_iload_n hx hb dX1_addStretch_75 rfl (lv_at hl 3 rfl) ?_
    refine lv_iadd hx hb dX1_addStretch_76 ?_
    refine x_put X hw 4 (Nat.le_of_ble_eq_true rfl) ce4 rfl i_X1 tyX1_ok nmX1 7 (by decide) q155 ⟨rfl, rfl, rfl⟩ rfl pfI rfl rfl (Nat.le_of_ble_eq_true rfl) 14 (ws_14 _) dX1_addStretch_77 (fun S16 eS16 H locs hw => ?_)
    replace hf := lt_e eS16 hf
    refine lv_aload_n hx hb dX1_addStretch_80 rfl (lv_at hl 0 rfl) ?_
    refine lv_aload_n hx hb dX1_addStretch_81 rfl (lv_at hl 0 rfl) ?_
    refine x_get X hw 4 (Nat.le_of_ble_eq_true rfl) ce4 rfl i_X1 8 (by decide) q157 ⟨rfl, rfl, rfl⟩ rfl dX1_addStretch_82 ?_
    refine lv_bipush (v := -9) hx hb dX1_addStretch_85 (by decide +kernel) ?_
    refine lv_icmp_ne (tgt := 94) hx hb dX1_addStretch_87 (by decide) (fun c17 => ?_) (fun c17 => ?_)
    · replace hf := if_f c17 hf
      refine lv_aload_n hx hb dX1_addStretch_94 rfl (lv_at hl 0 rfl) ?_
      refine x_get X hw 4 (Nat.le_of_ble_eq_true rfl) ce4 rfl i_X1 8 (by decide) q157 ⟨rfl, rfl, rfl⟩ rfl dX1_addStretch_95 ?_
      refine x_put X hw 4 (Nat.le_of_ble_eq_true rfl) ce4 rfl i_X1 tyX1_ok nmX1 8 (by decide) q157 ⟨rfl, rfl, rfl⟩ rfl pfI rfl rfl (Nat.le_of_ble_eq_true rfl) 15 (ws_15 _) dX1_addStretch_98 (fun S18 eS18 H locs hw => ?_)
      replace hf := lt_e eS18 hf
      exact hfin _ _ 0 _ _ _ hw rfl (Option.some.inj hf) dX1_addStretch_101
    · replace hf := if_t c17 hf
      refine lv_iload_n hx hb dX1_addStretch_90 rfl (lv_at hl 2 rfl) ?_
      refine lv_goto (tgt := 98) hx hb dX1_addStretch_91 (by decide) ?_
      refine x_put X hw 4 (Nat.le_of_ble_eq_true rfl) ce4 rfl i_X1 tyX1_ok nmX1 8 (by decide) q157 ⟨rfl, rfl, rfl⟩ rfl pfI rfl rfl (Nat.le_of_ble_eq_true rfl) 15 (ws_15 _) dX1_addStretch_98 (fun S19 eS19 H locs hw => ?_)
      replace hf := lt_e eS19 hf
      exact hfin _ _ 0 _ _ _ hw rfl (Option.some.inj hf) dX1_addStretch_101
/-- NineLands$Sums.reckon(LNineLands$Book;)V -/
theorem dX1_reckon_0 : decode cX1_reckon 0 = .ok (.aload_n 0, 1) := by decide +kernel
theorem dX1_reckon_1 : decode cX1_reckon 1 = .ok (.invokevirtual 44, 3) := by decide +kernel
theorem dX1_reckon_4 : decode cX1_reckon 4 = .ok (.iconst 0, 1) := by decide +kernel
theorem dX1_reckon_5 : decode cX1_reckon 5 = .ok (.istore_n 2, 1) := by decide +kernel
theorem dX1_reckon_6 : decode cX1_reckon 6 = .ok (.iconst 0, 1) := by decide +kernel
theorem dX1_reckon_7 : decode cX1_reckon 7 = .ok (.istore_n 3, 1) := by decide +kernel
theorem dX1_reckon_8 : decode cX1_reckon 8 = .ok (.iload_n 3, 1) := by decide +kernel
theorem dX1_reckon_9 : decode cX1_reckon 9 = .ok (.bipush 40, 2) := by decide +kernel
theorem dX1_reckon_11 : decode cX1_reckon 11 = .ok (.if_icmp .gt 36, 3) := by decide +kernel
theorem dX1_reckon_14 : decode cX1_reckon 14 = .ok (.iload_n 2, 1) := by decide +kernel
theorem dX1_reckon_15 : decode cX1_reckon 15 = .ok (.sipush 900, 3) := by decide +kernel
theorem dX1_reckon_18 : decode cX1_reckon 18 = .ok (.if_icmp .ge 29, 3) := by decide +kernel
theorem dX1_reckon_21 : decode cX1_reckon 21 = .ok (.aload_n 1, 1) := by decide +kernel
theorem dX1_reckon_22 : decode cX1_reckon 22 = .ok (.iload_n 2, 1) := by decide +kernel
theorem dX1_reckon_23 : decode cX1_reckon 23 = .ok (.invokevirtual 47, 3) := by decide +kernel
theorem dX1_reckon_26 : decode cX1_reckon 26 = .ok (.istore 4, 2) := by decide +kernel
theorem dX1_reckon_28 : decode cX1_reckon 28 = .ok (.aload_n 0, 1) := by decide +kernel
theorem dX1_reckon_29 : decode cX1_reckon 29 = .ok (.aload_n 1, 1) := by decide +kernel
theorem dX1_reckon_30 : decode cX1_reckon 30 = .ok (.iload_n 2, 1) := by decide +kernel
theorem dX1_reckon_31 : decode cX1_reckon 31 = .ok (.iload 4, 2) := by decide +kernel
theorem dX1_reckon_33 : decode cX1_reckon 33 = .ok (.iload_n 2, 1) := by decide +kernel
theorem dX1_reckon_34 : decode cX1_reckon 34 = .ok (.isub, 1) := by decide +kernel
theorem dX1_reckon_35 : decode cX1_reckon 35 = .ok (.invokevirtual 53, 3) := by decide +kernel
theorem dX1_reckon_38 : decode cX1_reckon 38 = .ok (.iload 4, 2) := by decide +kernel
theorem dX1_reckon_40 : decode cX1_reckon 40 = .ok (.istore_n 2, 1) := by decide +kernel
theorem dX1_reckon_41 : decode cX1_reckon 41 = .ok (.iinc 3 1, 3) := by decide +kernel
theorem dX1_reckon_44 : decode cX1_reckon 44 = .ok (.goto (-36), 3) := by decide +kernel
theorem dX1_reckon_47 : decode cX1_reckon 47 = .ok (.return_, 1) := by decide +kernel
theorem hd_X1_reckon : yX1_reckon.cls ≠ "java/lang/invoke/MethodHandle" ∧ yX1_reckon.cls ≠ "java/lang/invoke/VarHandle" ∧ (parseMethodDescriptor yX1_reckon.desc).map (fun d => d.parameters.length) = some 1 := by decide +kernel
def f_X1_reckon_L8 : Nat → Int32 → Int32 → vS → Option vS
  | 0, _, _, _ => none
  | n + 1, x2, x3, S => if (40 : Int32) < x3 then some S else if (900 : Int32) ≤ x2 then some S else b1 (f_X0_nextChange x2 S) fun r6 => b1 (f_X1_addStretch x2 (r6 - x2) S) fun S8 => (f_X1_reckon_L8 n) r6 (x3 + 1) S8
def f_X1_reckon  (S : vS) : Option vS := b1 (f_X1_clear  S) fun S2 => b1 (f_X1_reckon_L8 FU (0 : Int32) (0 : Int32) S2) fun S9 => some S9
set_option maxHeartbeats 4000000 in
set_option maxRecDepth 20000 in
theorem c_X1_reckon (l : Launch) (D : va_G) (cI cO : ClassId) (ad : Nat → Nat)  (S : vS) (S9 : vS) (hf : f_X1_reckon  S = some S9) : CV l yX1_reckon cX1_reckon 5 ({ frames := 3, cells := 0, slots := 0, locals := 73 }) [.ref (ad 4), .ref (ad 2)] D cI cO ad S S9 := by
  refine CV.of (r := 0) (by decide +kernel) (Nat.le_of_ble_eq_true rfl) (fun p e s m args below meth c Q ls X hl hw hfin => ?_)
  have hl : lv_has ls 5 [(0, .ref (ad 4)), (1, .ref (ad 2))] := hl
  have hx := X.1
  have hb := X.2.1
  have L8 : ∀ (n : Nat) (x2 : Int32) (x3 : Int32) (S : vS) (res : vS), f_X1_reckon_L8 n x2 x3 S = some res → (K : ∀  (S2 : vS), some S2 = some res → ∀ (H : Heap) (locs : List Loc) (ls : Array Slot), WD D cI cO ad s S2 H locs → lv_has ls 5 [] → W p l e ({ frames := 3, cells := 0, slots := 0, locals := 73 }) s m args below meth c H locs 0 0 Q (F0 m 47 ls [])) → ∀ (H : Heap) (locs : List Loc) (ls : Array Slot), WD D cI cO ad s S H locs → lv_has ls 5 [(0, .ref (ad 4)), (1, .ref (ad 2)), (2, .int x2), (3, .int x3)] → W p l e ({ frames := 3, cells := 0, slots := 0, locals := 73 }) s m args below meth c H locs 0 0 Q (F0 m 8 ls []) := by
    intro n
    induction n with
    | zero => intro x2 x3 S res hf; cases hf
    | succ n ih =>
      intro x2 x3 S res hf K H locs ls hw hl
      unfold f_X1_reckon_L8 at hf
      refine lv_iload_n hx hb dX1_reckon_8 rfl (lv_at hl 3 rfl) ?_
      refine lv_bipush (v := 40) hx hb dX1_reckon_9 (by decide +kernel) ?_
      refine lv_icmp_gt (tgt := 47) hx hb dX1_reckon_11 (by decide) (fun c3 => ?_) (fun c3 => ?_)
      · replace hf := if_t c3 hf
        exact K S hf _ _ _ hw (lv_sub hl [] rfl)
      · replace hf := if_f c3 hf
        refine lv_iload_n hx hb dX1_reckon_14 rfl (lv_at hl 2 rfl) ?_
        refine lv_sipush (v := 900) hx hb dX1_reckon_15 (by decide +kernel) ?_
        refine lv_icmp_ge (tgt := 47) hx hb dX1_reckon_18 (by decide) (fun c4 => ?_) (fun c4 => ?_)
        · replace hf := if_t c4 hf
          exact K S hf _ _ _ hw (lv_sub hl [] rfl)
        · replace hf := if_f c4 hf
          refine lv_aload_n hx hb dX1_reckon_21 rfl (lv_at hl 1 rfl) ?_
          refine lv_iload_n hx hb dX1_reckon_22 rfl (lv_at hl 2 rfl) ?_
          obtain ⟨r6, h5, hf⟩ := b1_s hf
          refine kNi X hw (c_X0_nextChange l D cI cO ad x2 S r6 h5) (Nat.le_of_ble_eq_true rfl) ce2 rfl ⟨rfl, rfl⟩ q376 q378 q9 q61 q379 hd_X0_nextChange ⟨Nat.le_of_ble_eq_true rfl, Nat.le_of_ble_eq_true rfl⟩ rfl hl.1 rfl (Nat.le_of_ble_eq_true rfl) dX1_reckon_23 (fun H locs hw => ?_)
          refine lv_istore (lv' := [(4, .int r6), (0, .ref (ad 4)), (1, .ref (ad 2)), (2, .int x2), (3, .int x3)]) hx hb dX1_reckon_26 hl (by decide) rfl (fun ls hl => ?_)
          refine lv_aload_n hx hb dX1_reckon_28 rfl (lv_at hl 1 rfl) ?_
          refine lv_aload_n hx hb dX1_reckon_29 rfl (lv_at hl 2 rfl) ?_
          refine lv_iload_n hx hb dX1_reckon_30 rfl (lv_at hl 3 rfl) ?_
          refine lv_iload hx hb dX1_reckon_31 (lv_at hl 0 rfl) ?_
          refine lv_iload_n hx hb dX1_reckon_33 rfl (lv_at hl 3 rfl) ?_
          refine lv_isub hx hb dX1_reckon_34 ?_
          obtain ⟨S8, h7, hf⟩ := b1_s hf
          refine kVv X hw (c_X1_addStretch l D cI cO ad x2 (r6 - x2) S S8 h7) (Nat.le_of_ble_eq_true rfl) ce4 rfl ⟨rfl, rfl⟩ q381 q383 q10 q63 q384 hd_X1_addStretch ⟨Nat.le_of_ble_eq_true rfl, Nat.le_of_ble_eq_true rfl⟩ rfl hl.1 rfl (Nat.le_of_ble_eq_true rfl) dX1_reckon_35 (fun H locs hw => ?_)
          refine lv_iload hx hb dX1_reckon_38 (lv_at hl 0 rfl) ?_
          refine lv_istore_n (lv' := [(2, .int r6), (4, .int r6), (0, .ref (ad 4)), (1, .ref (ad 2)), (3, .int x3)]) hx hb dX1_reckon_40 rfl hl (by decide) rfl (fun ls hl => ?_)
          refine lv_iinc (v := (x3 + 1)) (lv' := [(3, .int (x3 + 1)), (2, .int r6), (4, .int r6), (0, .ref (ad 4)), (1, .ref (ad 2))]) hx hb dX1_reckon_41 hl (k := 4) rfl rfl (by decide) rfl (fun ls hl => ?_)
          refine lv_goto (tgt := 8) hx hb dX1_reckon_44 (by decide) ?_
          exact ih r6 (x3 + 1) S8 _ hf K _ _ _ hw (lv_sub hl [3, 4, 1, 0] rfl)
  unfold f_X1_reckon at hf
  refine lv_aload_n hx hb dX1_reckon_0 rfl (lv_at hl 0 rfl) ?_
  obtain ⟨S2, h1, hf⟩ := b1_s hf
  refine kVv X hw (c_X1_clear l D cI cO ad  S S2 h1) (Nat.le_of_ble_eq_true rfl) ce4 rfl ⟨rfl, rfl⟩ q369 q371 q8 q63 q372 hd_X1_clear ⟨Nat.le_of_ble_eq_true rfl, Nat.le_of_ble_eq_true rfl⟩ rfl hl.1 rfl (Nat.le_of_ble_eq_true rfl) dX1_reckon_1 (fun H locs hw => ?_)
  refine lv_iconst (v := 0) hx hb dX1_reckon_4 (by decide) ?_
  refine lv_istore_n (lv' := [(2, .int (0 : Int32)), (0, .ref (ad 4)), (1, .ref (ad 2))]) hx hb dX1_reckon_5 rfl hl (by decide) rfl (fun ls hl => ?_)
  refine lv_iconst (v := 0) hx hb dX1_reckon_6 (by decide) ?_
  refine lv_istore_n (lv' := [(3, .int (0 : Int32)), (2, .int (0 : Int32)), (0, .ref (ad 4)), (1, .ref (ad 2))]) hx hb dX1_reckon_7 rfl hl (by decide) rfl (fun ls hl => ?_)
  obtain ⟨S9, h10, hf⟩ := b1_s hf
  refine L8 FU (0 : Int32) (0 : Int32) S2 _ h10 (fun S9' eK H locs ls hw hl => ?_) _ _ _ hw (lv_sub hl [2, 3, 1, 0] rfl)
  cases eK
  exact hfin _ _ 0 _ _ _ hw rfl (Option.some.inj hf) dX1_reckon_47
/-- NineLands$Sums.addBench(LNineLands$Book;III)V -/
theorem dX1_addBench_0 : decode cX1_addBench 0 = .ok (.aload_n 1, 1) := by decide +kernel
theorem dX1_addBench_1 : decode cX1_addBench 1 = .ok (.iload_n 2, 1) := by decide +kernel
theorem dX1_addBench_2 : decode cX1_addBench 2 = .ok (.iconst 3, 1) := by decide +kernel
theorem dX1_addBench_3 : decode cX1_addBench 3 = .ok (.invokevirtual 85, 3) := by decide +kernel
theorem dX1_addBench_6 : decode cX1_addBench 6 = .ok (.ifCond .ne 4, 3) := by decide +kernel
theorem dX1_addBench_9 : decode cX1_addBench 9 = .ok (.return_, 1) := by decide +kernel
theorem dX1_addBench_10 : decode cX1_addBench 10 = .ok (.aload_n 0, 1) := by decide +kernel
theorem dX1_addBench_11 : decode cX1_addBench 11 = .ok (.getfield 15, 3) := by decide +kernel
theorem dX1_addBench_14 : decode cX1_addBench 14 = .ok (.iload_n 2, 1) := by decide +kernel
theorem dX1_addBench_15 : decode cX1_addBench 15 = .ok (.dup2, 1) := by decide +kernel
theorem dX1_addBench_16 : decode cX1_addBench 16 = .ok (.iaload, 1) := by decide +kernel
theorem dX1_addBench_17 : decode cX1_addBench 17 = .ok (.iload_n 3, 1) := by decide +kernel
theorem dX1_addBench_18 : decode cX1_addBench 18 = .ok (.iadd, 1) := by decide +kernel
theorem dX1_addBench_19 : decode cX1_addBench 19 = .ok (.iastore, 1) := by decide +kernel
theorem dX1_addBench_20 : decode cX1_addBench 20 = .ok (.aload_n 0, 1) := by decide +kernel
theorem dX1_addBench_21 : decode cX1_addBench 21 = .ok (.getfield 18, 3) := by decide +kernel
theorem dX1_addBench_24 : decode cX1_addBench 24 = .ok (.iload_n 2, 1) := by decide +kernel
theorem dX1_addBench_25 : decode cX1_addBench 25 = .ok (.dup2, 1) := by decide +kernel
theorem dX1_addBench_26 : decode cX1_addBench 26 = .ok (.iaload, 1) := by decide +kernel
theorem dX1_addBench_27 : decode cX1_addBench 27 = .ok (.iload_n 3, 1) := by decide +kernel
theorem dX1_addBench_28 : decode cX1_addBench 28 = .ok (.iload 4, 2) := by decide +kernel
theorem dX1_addBench_30 : decode cX1_addBench 30 = .ok (.imul, 1) := by decide +kernel
theorem dX1_addBench_31 : decode cX1_addBench 31 = .ok (.iadd, 1) := by decide +kernel
theorem dX1_addBench_32 : decode cX1_addBench 32 = .ok (.iastore, 1) := by decide +kernel
theorem dX1_addBench_33 : decode cX1_addBench 33 = .ok (.iconst 0, 1) := by decide +kernel
theorem dX1_addBench_34 : decode cX1_addBench 34 = .ok (.istore 5, 2) := by decide +kernel
theorem dX1_addBench_36 : decode cX1_addBench 36 = .ok (.iload 5, 2) := by decide +kernel
theorem dX1_addBench_38 : decode cX1_addBench 38 = .ok (.bipush 6, 2) := by decide +kernel
theorem dX1_addBench_40 : decode cX1_addBench 40 = .ok (.if_icmp .ge 53, 3) := by decide +kernel
theorem dX1_addBench_43 : decode cX1_addBench 43 = .ok (.iload 5, 2) := by decide +kernel
theorem dX1_addBench_45 : decode cX1_addBench 45 = .ok (.iload_n 2, 1) := by decide +kernel
theorem dX1_addBench_46 : decode cX1_addBench 46 = .ok (.if_icmp .eq 16, 3) := by decide +kernel
theorem dX1_addBench_49 : decode cX1_addBench 49 = .ok (.aload_n 1, 1) := by decide +kernel
theorem dX1_addBench_50 : decode cX1_addBench 50 = .ok (.getfield 81, 3) := by decide +kernel
theorem dX1_addBench_53 : decode cX1_addBench 53 = .ok (.iload 5, 2) := by decide +kernel
theorem dX1_addBench_55 : decode cX1_addBench 55 = .ok (.aaload, 1) := by decide +kernel
theorem dX1_addBench_56 : decode cX1_addBench 56 = .ok (.iload_n 2, 1) := by decide +kernel
theorem dX1_addBench_57 : decode cX1_addBench 57 = .ok (.iaload, 1) := by decide +kernel
theorem dX1_addBench_58 : decode cX1_addBench 58 = .ok (.iconst 1, 1) := by decide +kernel
theorem dX1_addBench_59 : decode cX1_addBench 59 = .ok (.if_icmp .ne 28, 3) := by decide +kernel
theorem dX1_addBench_62 : decode cX1_addBench 62 = .ok (.aload_n 0, 1) := by decide +kernel
theorem dX1_addBench_63 : decode cX1_addBench 63 = .ok (.getfield 21, 3) := by decide +kernel
theorem dX1_addBench_66 : decode cX1_addBench 66 = .ok (.iload 5, 2) := by decide +kernel
theorem dX1_addBench_68 : decode cX1_addBench 68 = .ok (.dup2, 1) := by decide +kernel
theorem dX1_addBench_69 : decode cX1_addBench 69 = .ok (.iaload, 1) := by decide +kernel
theorem dX1_addBench_70 : decode cX1_addBench 70 = .ok (.iload_n 3, 1) := by decide +kernel
theorem dX1_addBench_71 : decode cX1_addBench 71 = .ok (.iadd, 1) := by decide +kernel
theorem dX1_addBench_72 : decode cX1_addBench 72 = .ok (.iastore, 1) := by decide +kernel
theorem dX1_addBench_73 : decode cX1_addBench 73 = .ok (.aload_n 0, 1) := by decide +kernel
theorem dX1_addBench_74 : decode cX1_addBench 74 = .ok (.getfield 24, 3) := by decide +kernel
theorem dX1_addBench_77 : decode cX1_addBench 77 = .ok (.iload 5, 2) := by decide +kernel
theorem dX1_addBench_79 : decode cX1_addBench 79 = .ok (.dup2, 1) := by decide +kernel
theorem dX1_addBench_80 : decode cX1_addBench 80 = .ok (.iaload, 1) := by decide +kernel
theorem dX1_addBench_81 : decode cX1_addBench 81 = .ok (.iload_n 3, 1) := by decide +kernel
theorem dX1_addBench_82 : decode cX1_addBench 82 = .ok (.iload 4, 2) := by decide +kernel
theorem dX1_addBench_84 : decode cX1_addBench 84 = .ok (.imul, 1) := by decide +kernel
theorem dX1_addBench_85 : decode cX1_addBench 85 = .ok (.iadd, 1) := by decide +kernel
theorem dX1_addBench_86 : decode cX1_addBench 86 = .ok (.iastore, 1) := by decide +kernel
theorem dX1_addBench_87 : decode cX1_addBench 87 = .ok (.iinc 5 1, 3) := by decide +kernel
theorem dX1_addBench_90 : decode cX1_addBench 90 = .ok (.goto (-54), 3) := by decide +kernel
theorem dX1_addBench_93 : decode cX1_addBench 93 = .ok (.return_, 1) := by decide +kernel
theorem hd_X1_addBench : yX1_addBench.cls ≠ "java/lang/invoke/MethodHandle" ∧ yX1_addBench.cls ≠ "java/lang/invoke/VarHandle" ∧ (parseMethodDescriptor yX1_addBench.desc).map (fun d => d.parameters.length) = some 4 := by decide +kernel
def f_X1_addBench_J62 (rc : Int32 → Int32 → Int32 → Int32 → vS → Option vS) (x2 : Int32) (x3 : Int32) (x4 : Int32) (x5 : Int32) (S : vS) : Option vS := if inb x5 6 = true then lt (upk S 28 (upd (S 28) (x5.toNatClampNeg) ((S 28 (x5.toNatClampNeg)) + x3))) fun S10 => lt (upk S10 29 (upd (S10 29) (x5.toNatClampNeg) ((S10 29 (x5.toNatClampNeg)) + (x3 * x4)))) fun S11 => rc x2 x3 x4 (x5 + 1) S11 else none
def f_X1_addBench_L36 : Nat → Int32 → Int32 → Int32 → Int32 → vS → Option vS
  | 0, _, _, _, _, _ => none
  | n + 1, x2, x3, x4, x5, S => if (6 : Int32) ≤ x5 then some S else if x5 = x2 then f_X1_addBench_J62 (f_X1_addBench_L36 n) x2 x3 x4 x5 S else if inb x5 6 = true then if inb x2 6 = true then if (S (60 + x5.toNatClampNeg) (x2.toNatClampNeg)) = (1 : Int32) then f_X1_addBench_J62 (f_X1_addBench_L36 n) x2 x3 x4 x5 S else (f_X1_addBench_L36 n) x2 x3 x4 (x5 + 1) S else none else none
def f_X1_addBench (a2 : Int32) (a3 : Int32) (a4 : Int32) (S : vS) : Option vS := b1 (f_X0_workCounts a2 (3 : Int32) S) fun r2 => if r2 = 0 then some S else if inb a2 6 = true then lt (upk S 26 (upd (S 26) (a2.toNatClampNeg) ((S 26 (a2.toNatClampNeg)) + a3))) fun S5 => lt (upk S5 27 (upd (S5 27) (a2.toNatClampNeg) ((S5 27 (a2.toNatClampNeg)) + (a3 * a4)))) fun S6 => b1 (f_X1_addBench_L36 FU a2 a3 a4 (0 : Int32) S6) fun S15 => some S15 else none
set_option maxHeartbeats 4000000 in
set_option maxRecDepth 20000 in
theorem c_X1_addBench (l : Launch) (D : va_G) (cI cO : ClassId) (ad : Nat → Nat) (a2 : Int32) (a3 : Int32) (a4 : Int32) (S : vS) (S9 : vS) (hf : f_X1_addBench a2 a3 a4 S = some S9) : CV l yX1_addBench cX1_addBench 6 ({ frames := 1, cells := 0, slots := 0, locals := 22 }) [.ref (ad 4), .ref (ad 2), .int a2, .int a3, .int a4] D cI cO ad S S9 := by
  refine CV.of (r := 0) (by decide +kernel) (Nat.le_of_ble_eq_true rfl) (fun p e s m args below meth c Q ls X hl hw hfin => ?_)
  have hl : lv_has ls 6 [(0, .ref (ad 4)), (1, .ref (ad 2)), (2, .int a2), (3, .int a3), (4, .int a4)] := hl
  have hx := X.1
  have hb := X.2.1
  have L36 : ∀ (n : Nat) (x2 : Int32) (x3 : Int32) (x4 : Int32) (x5 : Int32) (S : vS) (res : vS), f_X1_addBench_L36 n x2 x3 x4 x5 S = some res → (K : ∀  (S2 : vS), some S2 = some res → ∀ (H : Heap) (locs : List Loc) (ls : Array Slot), WD D cI cO ad s S2 H locs → lv_has ls 6 [] → W p l e ({ frames := 1, cells := 0, slots := 0, locals := 22 }) s m args below meth c H locs 0 0 Q (F0 m 93 ls [])) → ∀ (H : Heap) (locs : List Loc) (ls : Array Slot), WD D cI cO ad s S H locs → lv_has ls 6 [(0, .ref (ad 4)), (1, .ref (ad 2)), (2, .int x2), (3, .int x3), (4, .int x4), (5, .int x5)] → W p l e ({ frames := 1, cells := 0, slots := 0, locals := 22 }) s m args below meth c H locs 0 0 Q (F0 m 36 ls []) := by
    intro n
    induction n with
    | zero => intro x2 x3 x4 x5 S res hf; cases hf
    | succ n ih =>
      intro x2 x3 x4 x5 S res hf K H locs ls hw hl
      have J62 : ∀ (x2 : Int32) (x3 : Int32) (x4 : Int32) (x5 : Int32) (S : vS), f_X1_addBench_J62 (f_X1_addBench_L36 n) x2 x3 x4 x5 S = some res → ∀ (H : Heap) (locs : List Loc) (ls : Array Slot), WD D cI cO ad s S H locs → lv_has ls 6 [(0, .ref (ad 4)), (1, .ref (ad 2)), (2, .int x2), (3, .int x3), (4, .int x4), (5, .int x5)] → W p l e ({ frames := 1, cells := 0, slots := 0, locals := 22 }) s m args below meth c H locs 0 0 Q (F0 m 62 ls []) := by
        intro x2 x3 x4 x5 S hf H locs ls hw hl
        unfold f_X1_addBench_J62 at hf
        refine lv_aload_n hx hb dX1_addBench_62 rfl (lv_at hl 0 rfl) ?_
        refine x_get X hw 4 (Nat.le_of_ble_eq_true rfl) ce4 rfl i_X1 3 (by decide) q148 ⟨rfl, rfl, rfl⟩ rfl dX1_addBench_63 ?_
        refine lv_iload hx hb dX1_addBench_66 (lv_at hl 5 rfl) ?_
        refine lv_dup2_11 hx hb dX1_addBench_68 rfl rfl ?_
        obtain ⟨h9, hf⟩ := if_s hf
        refine x_iald X hw 28 ⟨Nat.le_of_ble_eq_true rfl, Nat.le_of_ble_eq_true rfl⟩ rfl h9 (x5.toNatClampNeg) rfl dX1_addBench_69 ?_
        refine lv_iload_n hx hb dX1_addBench_70 rfl (lv_at hl 3 rfl) ?_
        refine lv_iadd hx hb dX1_addBench_71 ?_
        refine x_iast X hw 28 ⟨Nat.le_of_ble_eq_true rfl, Nat.le_of_ble_eq_true rfl⟩ rfl h9 (x5.toNatClampNeg) rfl dX1_addBench_72 (fun S10 eS10 H locs hw => ?_)
        replace hf := lt_e eS10 hf
        refine lv_aload_n hx hb dX1_addBench_73 rfl (lv_at hl 0 rfl) ?_
        refine x_get X hw 4 (Nat.le_of_ble_eq_true rfl) ce4 rfl i_X1 4 (by decide) q150 ⟨rfl, rfl, rfl⟩ rfl dX1_addBench_74 ?_
        refine lv_iload hx hb dX1_addBench_77 (lv_at hl 5 rfl) ?_
        refine lv_dup2_11 hx hb dX1_addBench_79 rfl rfl ?_
        refine x_iald X hw 29 ⟨Nat.le_of_ble_eq_true rfl, Nat.le_of_ble_eq_true rfl⟩ rfl h9 (x5.toNatClampNeg) rfl dX1_addBench_80 ?_
        refine lv_iload_n hx hb dX1_addBench_81 rfl (lv_at hl 3 rfl) ?_
        refine lv_iload hx hb dX1_addBench_82 (lv_at hl 4 rfl) ?_
        refine lv_imul hx hb dX1_addBench_84 ?_
        refine lv_iadd hx hb dX1_addBench_85 ?_
        refine x_iast X hw 29 ⟨Nat.le_of_ble_eq_true rfl, Nat.le_of_ble_eq_true rfl⟩ rfl h9 (x5.toNatClampNeg) rfl dX1_addBench_86 (fun S11 eS11 H locs hw => ?_)
        replace hf := lt_e eS11 hf
        refine lv_iinc (v := (x5 + 1)) (lv' := [(5, .int (x5 + 1)), (0, .ref (ad 4)), (1, .ref (ad 2)), (2, .int x2), (3, .int x3), (4, .int x4)]) hx hb dX1_addBench_87 hl (k := 5) rfl rfl (by decide) rfl (fun ls hl => ?_)
        refine lv_goto (tgt := 36) hx hb dX1_addBench_90 (by decide) ?_
        exact ih x2 x3 x4 (x5 + 1) S11 _ hf K _ _ _ hw (lv_sub hl [1, 2, 3, 4, 5, 0] rfl)
      unfold f_X1_addBench_L36 at hf
      refine lv_iload hx hb dX1_addBench_36 (lv_at hl 5 rfl) ?_
      refine lv_bipush (v := 6) hx hb dX1_addBench_38 (by decide +kernel) ?_
      refine lv_icmp_ge (tgt := 93) hx hb dX1_addBench_40 (by decide) (fun c7 => ?_) (fun c7 => ?_)
      · replace hf := if_t c7 hf
        exact K S hf _ _ _ hw (lv_sub hl [] rfl)
      · replace hf := if_f c7 hf
        refine lv_iload hx hb dX1_addBench_43 (lv_at hl 5 rfl) ?_
        refine lv_iload_n hx hb dX1_addBench_45 rfl (lv_at hl 2 rfl) ?_
        refine lv_icmp_eq (tgt := 62) hx hb dX1_addBench_46 (by decide) (fun c8 => ?_) (fun c8 => ?_)
        · replace hf := if_t c8 hf
          exact J62 x2 x3 x4 x5 S hf _ _ _ hw hl
        · replace hf := if_f c8 hf
          refine lv_aload_n hx hb dX1_addBench_49 rfl (lv_at hl 1 rfl) ?_
          refine x_getN X hw 2 (Nat.le_of_ble_eq_true rfl) ce2 rfl i_X0 3 (by decide) q122 ⟨rfl, rfl, rfl⟩ rfl dX1_addBench_50 ?_
          refine lv_iload hx hb dX1_addBench_53 (lv_at hl 5 rfl) ?_
          obtain ⟨h12, hf⟩ := if_s hf
          refine x_aald X hw 8 (Nat.le_of_ble_eq_true rfl) ce8 h12 rfl dX1_addBench_55 ?_
          refine lv_iload_n hx hb dX1_addBench_56 rfl (lv_at hl 2 rfl) ?_
          obtain ⟨h13, hf⟩ := if_s hf
          refine x_iald X hw (60 + x5.toNatClampNeg) (have q9 := inb_lt h12; ⟨by omega, by omega⟩) (alen_60 (inb_lt h12)) h13 (x2.toNatClampNeg) rfl dX1_addBench_57 ?_
          refine lv_iconst (v := 1) hx hb dX1_addBench_58 (by decide) ?_
          refine lv_icmp_ne (tgt := 87) hx hb dX1_addBench_59 (by decide) (fun c14 => ?_) (fun c14 => ?_)
          · replace hf := if_f c14 hf
            refine lv_iinc (v := (x5 + 1)) (lv' := [(5, .int (x5 + 1)), (0, .ref (ad 4)), (1, .ref (ad 2)), (2, .int x2), (3, .int x3), (4, .int x4)]) hx hb dX1_addBench_87 hl (k := 5) rfl rfl (by decide) rfl (fun ls hl => ?_)
            refine lv_goto (tgt := 36) hx hb dX1_addBench_90 (by decide) ?_
            exact ih x2 x3 x4 (x5 + 1) S _ hf K _ _ _ hw (lv_sub hl [1, 2, 3, 4, 5, 0] rfl)
          · replace hf := if_t c14 hf
            exact J62 x2 x3 x4 x5 S hf _ _ _ hw hl
  unfold f_X1_addBench at hf
  refine lv_aload_n hx hb dX1_addBench_0 rfl (lv_at hl 1 rfl) ?_
  refine lv_iload_n hx hb dX1_addBench_1 rfl (lv_at hl 2 rfl) ?_
  refine lv_iconst (v := 3) hx hb dX1_addBench_2 (by decide) ?_
  obtain ⟨r2, h1, hf⟩ := b1_s hf
  refine kNi X hw (c_X0_workCounts l D cI cO ad a2 (3 : Int32) S r2 h1) (Nat.le_of_ble_eq_true rfl) ce2 rfl ⟨rfl, rfl⟩ q519 q391 q12 q61 q392 hd_X0_workCounts ⟨Nat.le_of_ble_eq_true rfl, Nat.le_of_ble_eq_true rfl⟩ rfl hl.1 rfl (Nat.le_of_ble_eq_true rfl) dX1_addBench_3 (fun H locs hw => ?_)
  refine lv_if_ne (tgt := 10) hx hb dX1_addBench_6 (by decide) (fun c3 => ?_) (fun c3 => ?_)
  · replace hf := if_f c3 hf
    refine lv_aload_n hx hb dX1_addBench_10 rfl (lv_at hl 0 rfl) ?_
    refine x_get X hw 4 (Nat.le_of_ble_eq_true rfl) ce4 rfl i_X1 1 (by decide) q144 ⟨rfl, rfl, rfl⟩ rfl dX1_addBench_11 ?_
    refine lv_iload_n hx hb dX1_addBench_14 rfl (lv_at hl 2 rfl) ?_
    refine lv_dup2_11 hx hb dX1_addBench_15 rfl rfl ?_
    obtain ⟨h4, hf⟩ := if_s hf
    refine x_iald X hw 26 ⟨Nat.le_of_ble_eq_true rfl, Nat.le_of_ble_eq_true rfl⟩ rfl h4 (a2.toNatClampNeg) rfl dX1_addBench_16 ?_
    refine lv_iload_n hx hb dX1_addBench_17 rfl (lv_at hl 3 rfl) ?_
    refine lv_iadd hx hb dX1_addBench_18 ?_
    refine x_iast X hw 26 ⟨Nat.le_of_ble_eq_true rfl, Nat.le_of_ble_eq_true rfl⟩ rfl h4 (a2.toNatClampNeg) rfl dX1_addBench_19 (fun S5 eS5 H locs hw => ?_)
    replace hf := lt_e eS5 hf
    refine lv_aload_n hx hb dX1_addBench_20 rfl (lv_at hl 0 rfl) ?_
    refine x_get X hw 4 (Nat.le_of_ble_eq_true rfl) ce4 rfl i_X1 2 (by decide) q146 ⟨rfl, rfl, rfl⟩ rfl dX1_addBench_21 ?_
    refine lv_iload_n hx hb dX1_addBench_24 rfl (lv_at hl 2 rfl) ?_
    refine lv_dup2_11 hx hb dX1_addBench_25 rfl rfl ?_
    refine x_iald X hw 27 ⟨Nat.le_of_ble_eq_true rfl, Nat.le_of_ble_eq_true rfl⟩ rfl h4 (a2.toNatClampNeg) rfl dX1_addBench_26 ?_
    refine lv_iload_n hx hb dX1_addBench_27 rfl (lv_at hl 3 rfl) ?_
    refine lv_iload hx hb dX1_addBench_28 (lv_at hl 4 rfl) ?_
    refine lv_imul hx hb dX1_addBench_30 ?_
    refine lv_iadd hx hb dX1_addBench_31 ?_
    refine x_iast X hw 27 ⟨Nat.le_of_ble_eq_true rfl, Nat.le_of_ble_eq_true rfl⟩ rfl h4 (a2.toNatClampNeg) rfl dX1_addBench_32 (fun S6 eS6 H locs hw => ?_)
    replace hf := lt_e eS6 hf
    refine lv_iconst (v := 0) hx hb dX1_addBench_33 (by decide) ?_
    refine lv_istore (lv' := [(5, .int (0 : Int32)), (0, .ref (ad 4)), (1, .ref (ad 2)), (2, .int a2), (3, .int a3), (4, .int a4)]) hx hb dX1_addBench_34 hl (by decide) rfl (fun ls hl => ?_)
    obtain ⟨S15, h16, hf⟩ := b1_s hf
    refine L36 FU a2 a3 a4 (0 : Int32) S6 _ h16 (fun S15' eK H locs ls hw hl => ?_) _ _ _ hw (lv_sub hl [1, 2, 3, 4, 5, 0] rfl)
    cases eK
    exact hfin _ _ 0 _ _ _ hw rfl (Option.some.inj hf) dX1_addBench_93
  · replace hf := if_t c3 hf
    exact hfin _ _ 0 _ _ _ hw rfl (Option.some.inj hf) dX1_addBench_9
/-- NineLands$Sums.hasRight([II)Z -/
theorem dX1_hasRight_0 : decode cX1_hasRight 0 = .ok (.iload_n 1, 1) := by decide +kernel
theorem dX1_hasRight_1 : decode cX1_hasRight 1 = .ok (.iconst 1, 1) := by decide +kernel
theorem dX1_hasRight_2 : decode cX1_hasRight 2 = .ok (.if_icmp .lt 14, 3) := by decide +kernel
theorem dX1_hasRight_5 : decode cX1_hasRight 5 = .ok (.iload_n 1, 1) := by decide +kernel
theorem dX1_hasRight_6 : decode cX1_hasRight 6 = .ok (.aload_n 0, 1) := by decide +kernel
theorem dX1_hasRight_7 : decode cX1_hasRight 7 = .ok (.iconst 0, 1) := by decide +kernel
theorem dX1_hasRight_8 : decode cX1_hasRight 8 = .ok (.iaload, 1) := by decide +kernel
theorem dX1_hasRight_9 : decode cX1_hasRight 9 = .ok (.if_icmp .lt 7, 3) := by decide +kernel
theorem dX1_hasRight_12 : decode cX1_hasRight 12 = .ok (.iconst 1, 1) := by decide +kernel
theorem dX1_hasRight_13 : decode cX1_hasRight 13 = .ok (.goto 4, 3) := by decide +kernel
theorem dX1_hasRight_16 : decode cX1_hasRight 16 = .ok (.iconst 0, 1) := by decide +kernel
theorem dX1_hasRight_17 : decode cX1_hasRight 17 = .ok (.ireturn, 1) := by decide +kernel
theorem hd_X1_hasRight : yX1_hasRight.cls ≠ "java/lang/invoke/MethodHandle" ∧ yX1_hasRight.cls ≠ "java/lang/invoke/VarHandle" ∧ (parseMethodDescriptor yX1_hasRight.desc).map (fun d => d.parameters.length) = some 2 := by decide +kernel
def f_X1_hasRight (a0 : Nat) (a1 : Int32) (S : vS) : Option Int32 := if a1 < (1 : Int32) then some (0 : Int32) else if 1 ≤ a0 ∧ a0 ≤ 97 then if inb (0 : Int32) (alen a0) = true then if a1 < (S a0 0) then some (0 : Int32) else some (1 : Int32) else none else none
set_option maxHeartbeats 4000000 in
set_option maxRecDepth 20000 in
theorem c_X1_hasRight (l : Launch) (D : va_G) (cI cO : ClassId) (ad : Nat → Nat) (a0 : Nat) (a1 : Int32) (S : vS) (R9 : Int32) (hf : f_X1_hasRight a0 a1 S = some R9) : CI l yX1_hasRight cX1_hasRight 2 .boolean ({ frames := 0, cells := 0, slots := 0, locals := 0 }) [.ref (ar ad a0), .int a1] D cI cO ad S R9 S := by
  refine CI.of (by decide +kernel) (Nat.le_of_ble_eq_true rfl) (fun p e s m args below meth c Q ls X hl hw hfin => ?_)
  have hl : lv_has ls 2 [(0, .ref (ar ad a0)), (1, .int a1)] := hl
  have hx := X.1
  have hb := X.2.1
  unfold f_X1_hasRight at hf
  refine lv_iload_n hx hb dX1_hasRight_0 rfl (lv_at hl 1 rfl) ?_
  refine lv_iconst (v := 1) hx hb dX1_hasRight_1 (by decide) ?_
  refine lv_icmp_lt (tgt := 16) hx hb dX1_hasRight_2 (by decide) (fun c1 => ?_) (fun c1 => ?_)
  · replace hf := if_t c1 hf
    refine lv_iconst (v := 0) hx hb dX1_hasRight_16 (by decide) ?_
    exact hfin _ _ _ _ _ _ hw (Option.some.inj hf) rfl rfl dX1_hasRight_17
  · replace hf := if_f c1 hf
    refine lv_iload_n hx hb dX1_hasRight_5 rfl (lv_at hl 1 rfl) ?_
    refine lv_aload_n hx hb dX1_hasRight_6 rfl (lv_at hl 0 rfl) ?_
    refine lv_iconst (v := 0) hx hb dX1_hasRight_7 (by decide) ?_
    obtain ⟨h2, hf⟩ := if_s hf
    obtain ⟨h3, hf⟩ := if_s hf
    refine x_iald X hw a0 h2 rfl h3 0 (by decide) dX1_hasRight_8 ?_
    refine lv_icmp_lt (tgt := 16) hx hb dX1_hasRight_9 (by decide) (fun c4 => ?_) (fun c4 => ?_)
    · replace hf := if_t c4 hf
      refine lv_iconst (v := 0) hx hb dX1_hasRight_16 (by decide) ?_
      exact hfin _ _ _ _ _ _ hw (Option.some.inj hf) rfl rfl dX1_hasRight_17
    · replace hf := if_f c4 hf
      refine lv_iconst (v := 1) hx hb dX1_hasRight_12 (by decide) ?_
      refine lv_goto (tgt := 17) hx hb dX1_hasRight_13 (by decide) ?_
      exact hfin _ _ _ _ _ _ hw (Option.some.inj hf) rfl rfl dX1_hasRight_17
/-- NineLands$Sums.byRate([II)I -/
theorem dX1_byRate_0 : decode cX1_byRate 0 = .ok (.aload_n 0, 1) := by decide +kernel
theorem dX1_byRate_1 : decode cX1_byRate 1 = .ok (.iconst 2, 1) := by decide +kernel
theorem dX1_byRate_2 : decode cX1_byRate 2 = .ok (.iaload, 1) := by decide +kernel
theorem dX1_byRate_3 : decode cX1_byRate 3 = .ok (.iload_n 1, 1) := by decide +kernel
theorem dX1_byRate_4 : decode cX1_byRate 4 = .ok (.imul, 1) := by decide +kernel
theorem dX1_byRate_5 : decode cX1_byRate 5 = .ok (.bipush 100, 2) := by decide +kernel
theorem dX1_byRate_7 : decode cX1_byRate 7 = .ok (.idiv, 1) := by decide +kernel
theorem dX1_byRate_8 : decode cX1_byRate 8 = .ok (.aload_n 0, 1) := by decide +kernel
theorem dX1_byRate_9 : decode cX1_byRate 9 = .ok (.iconst 4, 1) := by decide +kernel
theorem dX1_byRate_10 : decode cX1_byRate 10 = .ok (.iaload, 1) := by decide +kernel
theorem dX1_byRate_11 : decode cX1_byRate 11 = .ok (.invokestatic 127, 3) := by decide +kernel
theorem dX1_byRate_14 : decode cX1_byRate 14 = .ok (.ireturn, 1) := by decide +kernel
theorem hd_X1_byRate : yX1_byRate.cls ≠ "java/lang/invoke/MethodHandle" ∧ yX1_byRate.cls ≠ "java/lang/invoke/VarHandle" ∧ (parseMethodDescriptor yX1_byRate.desc).map (fun d => d.parameters.length) = some 2 := by decide +kernel
def f_X1_byRate (a0 : Nat) (a1 : Int32) (S : vS) : Option Int32 := if 1 ≤ a0 ∧ a0 ≤ 97 then if inb (2 : Int32) (alen a0) = true then if inb (4 : Int32) (alen a0) = true then some (mn (((S a0 2) * a1) / (100 : Int32)) (S a0 4)) else none else none else none
set_option maxHeartbeats 4000000 in
set_option maxRecDepth 20000 in
theorem c_X1_byRate (l : Launch) (D : va_G) (cI cO : ClassId) (ad : Nat → Nat) (a0 : Nat) (a1 : Int32) (S : vS) (R9 : Int32) (hf : f_X1_byRate a0 a1 S = some R9) : CI l yX1_byRate cX1_byRate 2 .int ({ frames := 1, cells := 0, slots := 0, locals := 21 }) [.ref (ar ad a0), .int a1] D cI cO ad S R9 S := by
  refine CI.of (by decide +kernel) (Nat.le_of_ble_eq_true rfl) (fun p e s m args below meth c Q ls X hl hw hfin => ?_)
  have hl : lv_has ls 2 [(0, .ref (ar ad a0)), (1, .int a1)] := hl
  have hx := X.1
  have hb := X.2.1
  unfold f_X1_byRate at hf
  refine lv_aload_n hx hb dX1_byRate_0 rfl (lv_at hl 0 rfl) ?_
  refine lv_iconst (v := 2) hx hb dX1_byRate_1 (by decide) ?_
  obtain ⟨h1, hf⟩ := if_s hf
  obtain ⟨h2, hf⟩ := if_s hf
  refine x_iald X hw a0 h1 rfl h2 2 (by decide) dX1_byRate_2 ?_
  refine lv_iload_n hx hb dX1_byRate_3 rfl (lv_at hl 1 rfl) ?_
  refine lv_imul hx hb dX1_byRate_4 ?_
  refine lv_bipush (v := 100) hx hb dX1_byRate_5 (by decide +kernel) ?_
  refine lv_idiv hx hb dX1_byRate_7 (by decide) ?_
  refine lv_aload_n hx hb dX1_byRate_8 rfl (lv_at hl 0 rfl) ?_
  refine lv_iconst (v := 4) hx hb dX1_byRate_9 (by decide) ?_
  obtain ⟨h3, hf⟩ := if_s hf
  refine x_iald X hw a0 h1 rfl h3 4 (by decide) dX1_byRate_10 ?_
  refine x_min X hl.1 q441 q261 q67 q262 (Nat.le_of_ble_eq_true rfl) (Nat.le_of_ble_eq_true rfl) dX1_byRate_11 ?_
  exact hfin _ _ _ _ _ _ hw (Option.some.inj hf) rfl (narI _) dX1_byRate_14
/-- NineLands$Sums.lessOthers([IIII)I -/
theorem dX1_lessOthers_0 : decode cX1_lessOthers 0 = .ok (.iload_n 1, 1) := by decide +kernel
theorem dX1_lessOthers_1 : decode cX1_lessOthers 1 = .ok (.iconst 4, 1) := by decide +kernel
theorem dX1_lessOthers_2 : decode cX1_lessOthers 2 = .ok (.if_icmp .eq 8, 3) := by decide +kernel
theorem dX1_lessOthers_5 : decode cX1_lessOthers 5 = .ok (.iload_n 1, 1) := by decide +kernel
theorem dX1_lessOthers_6 : decode cX1_lessOthers 6 = .ok (.iconst 5, 1) := by decide +kernel
theorem dX1_lessOthers_7 : decode cX1_lessOthers 7 = .ok (.if_icmp .ne 7, 3) := by decide +kernel
theorem dX1_lessOthers_10 : decode cX1_lessOthers 10 = .ok (.iconst 1, 1) := by decide +kernel
theorem dX1_lessOthers_11 : decode cX1_lessOthers 11 = .ok (.goto 4, 3) := by decide +kernel
theorem dX1_lessOthers_14 : decode cX1_lessOthers 14 = .ok (.iconst 0, 1) := by decide +kernel
theorem dX1_lessOthers_15 : decode cX1_lessOthers 15 = .ok (.istore 4, 2) := by decide +kernel
theorem dX1_lessOthers_17 : decode cX1_lessOthers 17 = .ok (.iload 4, 2) := by decide +kernel
theorem dX1_lessOthers_19 : decode cX1_lessOthers 19 = .ok (.ifCond .eq 20, 3) := by decide +kernel
theorem dX1_lessOthers_22 : decode cX1_lessOthers 22 = .ok (.iconst 0, 1) := by decide +kernel
theorem dX1_lessOthers_23 : decode cX1_lessOthers 23 = .ok (.iload_n 2, 1) := by decide +kernel
theorem dX1_lessOthers_24 : decode cX1_lessOthers 24 = .ok (.aload_n 0, 1) := by decide +kernel
theorem dX1_lessOthers_25 : decode cX1_lessOthers 25 = .ok (.iconst 5, 1) := by decide +kernel
theorem dX1_lessOthers_26 : decode cX1_lessOthers 26 = .ok (.iaload, 1) := by decide +kernel
theorem dX1_lessOthers_27 : decode cX1_lessOthers 27 = .ok (.iload_n 3, 1) := by decide +kernel
theorem dX1_lessOthers_28 : decode cX1_lessOthers 28 = .ok (.imul, 1) := by decide +kernel
theorem dX1_lessOthers_29 : decode cX1_lessOthers 29 = .ok (.bipush 100, 2) := by decide +kernel
theorem dX1_lessOthers_31 : decode cX1_lessOthers 31 = .ok (.idiv, 1) := by decide +kernel
theorem dX1_lessOthers_32 : decode cX1_lessOthers 32 = .ok (.isub, 1) := by decide +kernel
theorem dX1_lessOthers_33 : decode cX1_lessOthers 33 = .ok (.invokestatic 119, 3) := by decide +kernel
theorem dX1_lessOthers_36 : decode cX1_lessOthers 36 = .ok (.goto 4, 3) := by decide +kernel
theorem dX1_lessOthers_39 : decode cX1_lessOthers 39 = .ok (.iload_n 2, 1) := by decide +kernel
theorem dX1_lessOthers_40 : decode cX1_lessOthers 40 = .ok (.ireturn, 1) := by decide +kernel
theorem hd_X1_lessOthers : yX1_lessOthers.cls ≠ "java/lang/invoke/MethodHandle" ∧ yX1_lessOthers.cls ≠ "java/lang/invoke/VarHandle" ∧ (parseMethodDescriptor yX1_lessOthers.desc).map (fun d => d.parameters.length) = some 4 := by decide +kernel
def f_X1_lessOthers_J15 (x0 : Nat) (x2 : Int32) (x3 : Int32) (k0 : Int32) (S : vS) : Option Int32 := if k0 = 0 then some x2 else if 1 ≤ x0 ∧ x0 ≤ 97 then if inb (5 : Int32) (alen x0) = true then some (mx (0 : Int32) (x2 - (((S x0 5) * x3) / (100 : Int32)))) else none else none
def f_X1_lessOthers_J10 (x0 : Nat) (x2 : Int32) (x3 : Int32) (S : vS) : Option Int32 := f_X1_lessOthers_J15 x0 x2 x3 (1 : Int32) S
def f_X1_lessOthers (a0 : Nat) (a1 : Int32) (a2 : Int32) (a3 : Int32) (S : vS) : Option Int32 := if a1 = (4 : Int32) then f_X1_lessOthers_J10 a0 a2 a3 S else if a1 = (5 : Int32) then f_X1_lessOthers_J10 a0 a2 a3 S else f_X1_lessOthers_J15 a0 a2 a3 (0 : Int32) S
set_option maxHeartbeats 4000000 in
set_option maxRecDepth 20000 in
theorem c_X1_lessOthers (l : Launch) (D : va_G) (cI cO : ClassId) (ad : Nat → Nat) (a0 : Nat) (a1 : Int32) (a2 : Int32) (a3 : Int32) (S : vS) (R9 : Int32) (hf : f_X1_lessOthers a0 a1 a2 a3 S = some R9) : CI l yX1_lessOthers cX1_lessOthers 5 .int ({ frames := 1, cells := 0, slots := 0, locals := 21 }) [.ref (ar ad a0), .int a1, .int a2, .int a3] D cI cO ad S R9 S := by
  refine CI.of (by decide +kernel) (Nat.le_of_ble_eq_true rfl) (fun p e s m args below meth c Q ls X hl hw hfin => ?_)
  have hl : lv_has ls 5 [(0, .ref (ar ad a0)), (1, .int a1), (2, .int a2), (3, .int a3)] := hl
  have hx := X.1
  have hb := X.2.1
  have J15 : ∀ (x0 : Nat) (x2 : Int32) (x3 : Int32) (k0 : Int32), f_X1_lessOthers_J15 x0 x2 x3 k0 S = some R9 → ∀ (H : Heap) (locs : List Loc) (ls : Array Slot), WD D cI cO ad s S H locs → lv_has ls 5 [(0, .ref (ar ad x0)), (2, .int x2), (3, .int x3)] → W p l e ({ frames := 1, cells := 0, slots := 0, locals := 21 }) s m args below meth c H locs 0 0 Q (F0 m 15 ls [.int k0]) := by
    intro x0 x2 x3 k0 hf H locs ls hw hl
    unfold f_X1_lessOthers_J15 at hf
    refine lv_istore (lv' := [(4, .int k0), (0, .ref (ar ad x0)), (2, .int x2), (3, .int x3)]) hx hb dX1_lessOthers_15 hl (by decide) rfl (fun ls hl => ?_)
    refine lv_iload hx hb dX1_lessOthers_17 (lv_at hl 0 rfl) ?_
    refine lv_if_eq (tgt := 39) hx hb dX1_lessOthers_19 (by decide) (fun c2 => ?_) (fun c2 => ?_)
    · replace hf := if_t c2 hf
      refine lv_iload_n hx hb dX1_lessOthers_39 rfl (lv_at hl 2 rfl) ?_
      exact hfin _ _ _ _ _ _ hw (Option.some.inj hf) rfl (narI _) dX1_lessOthers_40
    · replace hf := if_f c2 hf
      refine lv_iconst (v := 0) hx hb dX1_lessOthers_22 (by decide) ?_
      refine lv_iload_n hx hb dX1_lessOthers_23 rfl (lv_at hl 2 rfl) ?_
      refine lv_aload_n hx hb dX1_lessOthers_24 rfl (lv_at hl 1 rfl) ?_
      refine lv_iconst (v := 5) hx hb dX1_lessOthers_25 (by decide) ?_
      obtain ⟨h3, hf⟩ := if_s hf
      obtain ⟨h4, hf⟩ := if_s hf
      refine x_iald X hw x0 h3 rfl h4 5 (by decide) dX1_lessOthers_26 ?_
      refine lv_iload_n hx hb dX1_lessOthers_27 rfl (lv_at hl 3 rfl) ?_
      refine lv_imul hx hb dX1_lessOthers_28 ?_
      refine lv_bipush (v := 100) hx hb dX1_lessOthers_29 (by decide +kernel) ?_
      refine lv_idiv hx hb dX1_lessOthers_31 (by decide) ?_
      refine lv_isub hx hb dX1_lessOthers_32 ?_
      refine x_max X hl.1 q442 q258 q67 q259 (Nat.le_of_ble_eq_true rfl) (Nat.le_of_ble_eq_true rfl) dX1_lessOthers_33 ?_
      refine lv_goto (tgt := 40) hx hb dX1_lessOthers_36 (by decide) ?_
      exact hfin _ _ _ _ _ _ hw (Option.some.inj hf) rfl (narI _) dX1_lessOthers_40
  have J10 : ∀ (x0 : Nat) (x2 : Int32) (x3 : Int32), f_X1_lessOthers_J10 x0 x2 x3 S = some R9 → ∀ (H : Heap) (locs : List Loc) (ls : Array Slot), WD D cI cO ad s S H locs → lv_has ls 5 [(0, .ref (ar ad x0)), (2, .int x2), (3, .int x3)] → W p l e ({ frames := 1, cells := 0, slots := 0, locals := 21 }) s m args below meth c H locs 0 0 Q (F0 m 10 ls []) := by
    intro x0 x2 x3 hf H locs ls hw hl
    unfold f_X1_lessOthers_J10 at hf
    refine lv_iconst (v := 1) hx hb dX1_lessOthers_10 (by decide) ?_
    refine lv_goto (tgt := 15) hx hb dX1_lessOthers_11 (by decide) ?_
    exact J15 x0 x2 x3 (1 : Int32) hf _ _ _ hw hl
  unfold f_X1_lessOthers at hf
  refine lv_iload_n hx hb dX1_lessOthers_0 rfl (lv_at hl 1 rfl) ?_
  refine lv_iconst (v := 4) hx hb dX1_lessOthers_1 (by decide) ?_
  refine lv_icmp_eq (tgt := 10) hx hb dX1_lessOthers_2 (by decide) (fun c1 => ?_) (fun c1 => ?_)
  · replace hf := if_t c1 hf
    exact J10 a0 a2 a3 hf _ _ _ hw (lv_sub hl [0, 2, 3] rfl)
  · replace hf := if_f c1 hf
    refine lv_iload_n hx hb dX1_lessOthers_5 rfl (lv_at hl 1 rfl) ?_
    refine lv_iconst (v := 5) hx hb dX1_lessOthers_6 (by decide) ?_
    refine lv_icmp_ne (tgt := 14) hx hb dX1_lessOthers_7 (by decide) (fun c5 => ?_) (fun c5 => ?_)
    · replace hf := if_f c5 hf
      refine lv_iconst (v := 0) hx hb dX1_lessOthers_14 (by decide) ?_
      exact J15 a0 a2 a3 (0 : Int32) hf _ _ _ hw (lv_sub hl [0, 2, 3] rfl)
    · replace hf := if_t c5 hf
      exact J10 a0 a2 a3 hf _ _ _ hw (lv_sub hl [0, 2, 3] rfl)
/-- NineLands$Sums.duePut([II)I -/
theorem dX1_duePut_0 : decode cX1_duePut 0 = .ok (.aload_n 0, 1) := by decide +kernel
theorem dX1_duePut_1 : decode cX1_duePut 1 = .ok (.getfield 21, 3) := by decide +kernel
theorem dX1_duePut_4 : decode cX1_duePut 4 = .ok (.iload_n 2, 1) := by decide +kernel
theorem dX1_duePut_5 : decode cX1_duePut 5 = .ok (.iaload, 1) := by decide +kernel
theorem dX1_duePut_6 : decode cX1_duePut 6 = .ok (.istore_n 3, 1) := by decide +kernel
theorem dX1_duePut_7 : decode cX1_duePut 7 = .ok (.aload_n 1, 1) := by decide +kernel
theorem dX1_duePut_8 : decode cX1_duePut 8 = .ok (.iload_n 3, 1) := by decide +kernel
theorem dX1_duePut_9 : decode cX1_duePut 9 = .ok (.invokestatic 111, 3) := by decide +kernel
theorem dX1_duePut_12 : decode cX1_duePut 12 = .ok (.ifCond .eq 8, 3) := by decide +kernel
theorem dX1_duePut_15 : decode cX1_duePut 15 = .ok (.iload_n 3, 1) := by decide +kernel
theorem dX1_duePut_16 : decode cX1_duePut 16 = .ok (.iconst 1, 1) := by decide +kernel
theorem dX1_duePut_17 : decode cX1_duePut 17 = .ok (.if_icmp .ge 5, 3) := by decide +kernel
theorem dX1_duePut_20 : decode cX1_duePut 20 = .ok (.iconst 0, 1) := by decide +kernel
theorem dX1_duePut_21 : decode cX1_duePut 21 = .ok (.ireturn, 1) := by decide +kernel
theorem dX1_duePut_22 : decode cX1_duePut 22 = .ok (.aload_n 1, 1) := by decide +kernel
theorem dX1_duePut_23 : decode cX1_duePut 23 = .ok (.aload_n 0, 1) := by decide +kernel
theorem dX1_duePut_24 : decode cX1_duePut 24 = .ok (.getfield 24, 3) := by decide +kernel
theorem dX1_duePut_27 : decode cX1_duePut 27 = .ok (.iload_n 2, 1) := by decide +kernel
theorem dX1_duePut_28 : decode cX1_duePut 28 = .ok (.iaload, 1) := by decide +kernel
theorem dX1_duePut_29 : decode cX1_duePut 29 = .ok (.invokestatic 115, 3) := by decide +kernel
theorem dX1_duePut_32 : decode cX1_duePut 32 = .ok (.aload_n 1, 1) := by decide +kernel
theorem dX1_duePut_33 : decode cX1_duePut 33 = .ok (.iconst 3, 1) := by decide +kernel
theorem dX1_duePut_34 : decode cX1_duePut 34 = .ok (.iaload, 1) := by decide +kernel
theorem dX1_duePut_35 : decode cX1_duePut 35 = .ok (.invokestatic 119, 3) := by decide +kernel
theorem dX1_duePut_38 : decode cX1_duePut 38 = .ok (.aload_n 0, 1) := by decide +kernel
theorem dX1_duePut_39 : decode cX1_duePut 39 = .ok (.getfield 15, 3) := by decide +kernel
theorem dX1_duePut_42 : decode cX1_duePut 42 = .ok (.iload_n 2, 1) := by decide +kernel
theorem dX1_duePut_43 : decode cX1_duePut 43 = .ok (.iaload, 1) := by decide +kernel
theorem dX1_duePut_44 : decode cX1_duePut 44 = .ok (.imul, 1) := by decide +kernel
theorem dX1_duePut_45 : decode cX1_duePut 45 = .ok (.iload_n 3, 1) := by decide +kernel
theorem dX1_duePut_46 : decode cX1_duePut 46 = .ok (.idiv, 1) := by decide +kernel
theorem dX1_duePut_47 : decode cX1_duePut 47 = .ok (.ireturn, 1) := by decide +kernel
theorem hd_X1_duePut : yX1_duePut.cls ≠ "java/lang/invoke/MethodHandle" ∧ yX1_duePut.cls ≠ "java/lang/invoke/VarHandle" ∧ (parseMethodDescriptor yX1_duePut.desc).map (fun d => d.parameters.length) = some 2 := by decide +kernel
def f_X1_duePut (a1 : Nat) (a2 : Int32) (S : vS) : Option Int32 := if inb a2 6 = true then lt ((S 28 (a2.toNatClampNeg))) fun v2 => b1 (f_X1_hasRight a1 v2 S) fun r4 => if r4 = 0 then some (0 : Int32) else if (1 : Int32) ≤ v2 then b1 (f_X1_byRate a1 (S 29 (a2.toNatClampNeg)) S) fun r8 => if 1 ≤ a1 ∧ a1 ≤ 97 then if inb (3 : Int32) (alen a1) = true then if ¬ v2 = 0 then some (((mx r8 (S a1 3)) * (S 26 (a2.toNatClampNeg))) / v2) else none else none else none else some (0 : Int32) else none
set_option maxHeartbeats 4000000 in
set_option maxRecDepth 20000 in
theorem c_X1_duePut (l : Launch) (D : va_G) (cI cO : ClassId) (ad : Nat → Nat) (a1 : Nat) (a2 : Int32) (S : vS) (R9 : Int32) (hf : f_X1_duePut a1 a2 S = some R9) : CI l yX1_duePut cX1_duePut 4 .int ({ frames := 2, cells := 0, slots := 0, locals := 42 }) [.ref (ad 4), .ref (ar ad a1), .int a2] D cI cO ad S R9 S := by
  refine CI.of (by decide +kernel) (Nat.le_of_ble_eq_true rfl) (fun p e s m args below meth c Q ls X hl hw hfin => ?_)
  have hl : lv_has ls 4 [(0, .ref (ad 4)), (1, .ref (ar ad a1)), (2, .int a2)] := hl
  have hx := X.1
  have hb := X.2.1
  unfold f_X1_duePut at hf
  refine lv_aload_n hx hb dX1_duePut_0 rfl (lv_at hl 0 rfl) ?_
  refine x_get X hw 4 (Nat.le_of_ble_eq_true rfl) ce4 rfl i_X1 3 (by decide) q148 ⟨rfl, rfl, rfl⟩ rfl dX1_duePut_1 ?_
  refine lv_iload_n hx hb dX1_duePut_4 rfl (lv_at hl 2 rfl) ?_
  obtain ⟨h1, hf⟩ := if_s hf
  refine x_iald X hw 28 ⟨Nat.le_of_ble_eq_true rfl, Nat.le_of_ble_eq_true rfl⟩ rfl h1 (a2.toNatClampNeg) rfl dX1_duePut_5 ?_
  refine lv_topi (fun v2 ev2 => ?_)
  replace hf := lt_e ev2 hf
  refine lv_istore_n (lv' := [(3, .int v2), (0, .ref (ad 4)), (1, .ref (ar ad a1)), (2, .int a2)]) hx hb dX1_duePut_6 rfl hl (by decide) rfl (fun ls hl => ?_)
  refine lv_aload_n hx hb dX1_duePut_7 rfl (lv_at hl 2 rfl) ?_
  refine lv_iload_n hx hb dX1_duePut_8 rfl (lv_at hl 0 rfl) ?_
  obtain ⟨r4, h3, hf⟩ := b1_s hf
  refine kSi X hw (c_X1_hasRight l D cI cO ad a1 v2 S r4 h3) ⟨rfl, rfl⟩ q435 q436 q63 q437 hd_X1_hasRight ⟨Nat.le_of_ble_eq_true rfl, Nat.le_of_ble_eq_true rfl⟩ rfl hl.1 rfl (Nat.le_of_ble_eq_true rfl) dX1_duePut_9 (fun H locs hw => ?_)
  refine lv_if_eq (tgt := 20) hx hb dX1_duePut_12 (by decide) (fun c5 => ?_) (fun c5 => ?_)
  · replace hf := if_t c5 hf
    refine lv_iconst (v := 0) hx hb dX1_duePut_20 (by decide) ?_
    exact hfin _ _ _ _ _ _ hw (Option.some.inj hf) rfl (narI _) dX1_duePut_21
  · replace hf := if_f c5 hf
    refine lv_iload_n hx hb dX1_duePut_15 rfl (lv_at hl 0 rfl) ?_
    refine lv_iconst (v := 1) hx hb dX1_duePut_16 (by decide) ?_
    refine lv_icmp_ge (tgt := 22) hx hb dX1_duePut_17 (by decide) (fun c6 => ?_) (fun c6 => ?_)
    · replace hf := if_t c6 hf
      refine lv_aload_n hx hb dX1_duePut_22 rfl (lv_at hl 2 rfl) ?_
      refine lv_aload_n hx hb dX1_duePut_23 rfl (lv_at hl 1 rfl) ?_
      refine x_get X hw 4 (Nat.le_of_ble_eq_true rfl) ce4 rfl i_X1 4 (by decide) q150 ⟨rfl, rfl, rfl⟩ rfl dX1_duePut_24 ?_
      refine lv_iload_n hx hb dX1_duePut_27 rfl (lv_at hl 3 rfl) ?_
      refine x_iald X hw 29 ⟨Nat.le_of_ble_eq_true rfl, Nat.le_of_ble_eq_true rfl⟩ rfl h1 (a2.toNatClampNeg) rfl dX1_duePut_28 ?_
      obtain ⟨r8, h7, hf⟩ := b1_s hf
      refine kSi X hw (c_X1_byRate l D cI cO ad a1 (S 29 (a2.toNatClampNeg)) S r8 h7) ⟨rfl, rfl⟩ q438 q439 q63 q440 hd_X1_byRate ⟨Nat.le_of_ble_eq_true rfl, Nat.le_of_ble_eq_true rfl⟩ rfl hl.1 rfl (Nat.le_of_ble_eq_true rfl) dX1_duePut_29 (fun H locs hw => ?_)
      refine lv_aload_n hx hb dX1_duePut_32 rfl (lv_at hl 2 rfl) ?_
      refine lv_iconst (v := 3) hx hb dX1_duePut_33 (by decide) ?_
      obtain ⟨h9, hf⟩ := if_s hf
      obtain ⟨h10, hf⟩ := if_s hf
      refine x_iald X hw a1 h9 rfl h10 3 (by decide) dX1_duePut_34 ?_
      refine x_max X hl.1 q442 q258 q67 q259 (Nat.le_of_ble_eq_true rfl) (Nat.le_of_ble_eq_true rfl) dX1_duePut_35 ?_
      refine lv_aload_n hx hb dX1_duePut_38 rfl (lv_at hl 1 rfl) ?_
      refine x_get X hw 4 (Nat.le_of_ble_eq_true rfl) ce4 rfl i_X1 1 (by decide) q144 ⟨rfl, rfl, rfl⟩ rfl dX1_duePut_39 ?_
      refine lv_iload_n hx hb dX1_duePut_42 rfl (lv_at hl 3 rfl) ?_
      refine x_iald X hw 26 ⟨Nat.le_of_ble_eq_true rfl, Nat.le_of_ble_eq_true rfl⟩ rfl h1 (a2.toNatClampNeg) rfl dX1_duePut_43 ?_
      refine lv_imul hx hb dX1_duePut_44 ?_
      refine lv_iload_n hx hb dX1_duePut_45 rfl (lv_at hl 0 rfl) ?_
      obtain ⟨h11, hf⟩ := if_s hf
      refine lv_idiv hx hb dX1_duePut_46 h11 ?_
      exact hfin _ _ _ _ _ _ hw (Option.some.inj hf) rfl (narI _) dX1_duePut_47
    · replace hf := if_f c6 hf
      refine lv_iconst (v := 0) hx hb dX1_duePut_20 (by decide) ?_
      exact hfin _ _ _ _ _ _ hw (Option.some.inj hf) rfl (narI _) dX1_duePut_21
/-- NineLands$Sums.dueWhole([III)I -/
theorem dX1_dueWhole_0 : decode cX1_dueWhole 0 = .ok (.aload_n 1, 1) := by decide +kernel
theorem dX1_dueWhole_1 : decode cX1_dueWhole 1 = .ok (.aload_n 0, 1) := by decide +kernel
theorem dX1_dueWhole_2 : decode cX1_dueWhole 2 = .ok (.getfield 15, 3) := by decide +kernel
theorem dX1_dueWhole_5 : decode cX1_dueWhole 5 = .ok (.iload_n 2, 1) := by decide +kernel
theorem dX1_dueWhole_6 : decode cX1_dueWhole 6 = .ok (.iaload, 1) := by decide +kernel
theorem dX1_dueWhole_7 : decode cX1_dueWhole 7 = .ok (.invokestatic 111, 3) := by decide +kernel
theorem dX1_dueWhole_10 : decode cX1_dueWhole 10 = .ok (.istore 4, 2) := by decide +kernel
theorem dX1_dueWhole_12 : decode cX1_dueWhole 12 = .ok (.iload 4, 2) := by decide +kernel
theorem dX1_dueWhole_14 : decode cX1_dueWhole 14 = .ok (.ifCond .eq 16, 3) := by decide +kernel
theorem dX1_dueWhole_17 : decode cX1_dueWhole 17 = .ok (.aload_n 1, 1) := by decide +kernel
theorem dX1_dueWhole_18 : decode cX1_dueWhole 18 = .ok (.aload_n 0, 1) := by decide +kernel
theorem dX1_dueWhole_19 : decode cX1_dueWhole 19 = .ok (.getfield 18, 3) := by decide +kernel
theorem dX1_dueWhole_22 : decode cX1_dueWhole 22 = .ok (.iload_n 2, 1) := by decide +kernel
theorem dX1_dueWhole_23 : decode cX1_dueWhole 23 = .ok (.iaload, 1) := by decide +kernel
theorem dX1_dueWhole_24 : decode cX1_dueWhole 24 = .ok (.invokestatic 115, 3) := by decide +kernel
theorem dX1_dueWhole_27 : decode cX1_dueWhole 27 = .ok (.goto 4, 3) := by decide +kernel
theorem dX1_dueWhole_30 : decode cX1_dueWhole 30 = .ok (.iconst 0, 1) := by decide +kernel
theorem dX1_dueWhole_31 : decode cX1_dueWhole 31 = .ok (.istore 5, 2) := by decide +kernel
theorem dX1_dueWhole_33 : decode cX1_dueWhole 33 = .ok (.iload 4, 2) := by decide +kernel
theorem dX1_dueWhole_35 : decode cX1_dueWhole 35 = .ok (.ifCond .eq 14, 3) := by decide +kernel
theorem dX1_dueWhole_38 : decode cX1_dueWhole 38 = .ok (.iload 5, 2) := by decide +kernel
theorem dX1_dueWhole_40 : decode cX1_dueWhole 40 = .ok (.aload_n 1, 1) := by decide +kernel
theorem dX1_dueWhole_41 : decode cX1_dueWhole 41 = .ok (.iconst 3, 1) := by decide +kernel
theorem dX1_dueWhole_42 : decode cX1_dueWhole 42 = .ok (.iaload, 1) := by decide +kernel
theorem dX1_dueWhole_43 : decode cX1_dueWhole 43 = .ok (.invokestatic 119, 3) := by decide +kernel
theorem dX1_dueWhole_46 : decode cX1_dueWhole 46 = .ok (.goto 4, 3) := by decide +kernel
theorem dX1_dueWhole_49 : decode cX1_dueWhole 49 = .ok (.iconst 0, 1) := by decide +kernel
theorem dX1_dueWhole_50 : decode cX1_dueWhole 50 = .ok (.istore 6, 2) := by decide +kernel
theorem dX1_dueWhole_52 : decode cX1_dueWhole 52 = .ok (.iload_n 3, 1) := by decide +kernel
theorem dX1_dueWhole_53 : decode cX1_dueWhole 53 = .ok (.tableswitch 64 0 5 #[39, 42, 45, 52, 42, 52], 39) := by decide +kernel
theorem dX1_dueWhole_92 : decode cX1_dueWhole 92 = .ok (.iload 5, 2) := by decide +kernel
theorem dX1_dueWhole_94 : decode cX1_dueWhole 94 = .ok (.ireturn, 1) := by decide +kernel
theorem dX1_dueWhole_95 : decode cX1_dueWhole 95 = .ok (.iload 6, 2) := by decide +kernel
theorem dX1_dueWhole_97 : decode cX1_dueWhole 97 = .ok (.ireturn, 1) := by decide +kernel
theorem dX1_dueWhole_98 : decode cX1_dueWhole 98 = .ok (.aload_n 0, 1) := by decide +kernel
theorem dX1_dueWhole_99 : decode cX1_dueWhole 99 = .ok (.aload_n 1, 1) := by decide +kernel
theorem dX1_dueWhole_100 : decode cX1_dueWhole 100 = .ok (.iload_n 2, 1) := by decide +kernel
theorem dX1_dueWhole_101 : decode cX1_dueWhole 101 = .ok (.invokevirtual 124, 3) := by decide +kernel
theorem dX1_dueWhole_104 : decode cX1_dueWhole 104 = .ok (.ireturn, 1) := by decide +kernel
theorem dX1_dueWhole_105 : decode cX1_dueWhole 105 = .ok (.aload_n 0, 1) := by decide +kernel
theorem dX1_dueWhole_106 : decode cX1_dueWhole 106 = .ok (.aload_n 1, 1) := by decide +kernel
theorem dX1_dueWhole_107 : decode cX1_dueWhole 107 = .ok (.iload_n 2, 1) := by decide +kernel
theorem dX1_dueWhole_108 : decode cX1_dueWhole 108 = .ok (.invokevirtual 124, 3) := by decide +kernel
theorem dX1_dueWhole_111 : decode cX1_dueWhole 111 = .ok (.iload 6, 2) := by decide +kernel
theorem dX1_dueWhole_113 : decode cX1_dueWhole 113 = .ok (.invokestatic 119, 3) := by decide +kernel
theorem dX1_dueWhole_116 : decode cX1_dueWhole 116 = .ok (.ireturn, 1) := by decide +kernel
theorem dX1_dueWhole_117 : decode cX1_dueWhole 117 = .ok (.iconst 0, 1) := by decide +kernel
theorem dX1_dueWhole_118 : decode cX1_dueWhole 118 = .ok (.ireturn, 1) := by decide +kernel
theorem hd_X1_dueWhole : yX1_dueWhole.cls ≠ "java/lang/invoke/MethodHandle" ∧ yX1_dueWhole.cls ≠ "java/lang/invoke/VarHandle" ∧ (parseMethodDescriptor yX1_dueWhole.desc).map (fun d => d.parameters.length) = some 3 := by decide +kernel
def f_X1_dueWhole_J50 (x1 : Nat) (x2 : Int32) (x3 : Int32) (x5 : Int32) (k0 : Int32) (S : vS) : Option Int32 := if x3 = (0 : Int32) then some x5 else if x3 = (1 : Int32) then some k0 else if x3 = (2 : Int32) then b1 (f_X1_duePut x1 x2 S) fun r10 => some r10 else if x3 = (3 : Int32) then b1 (f_X1_duePut x1 x2 S) fun r13 => some (mx r13 k0) else if x3 = (4 : Int32) then some k0 else if x3 = (5 : Int32) then b1 (f_X1_duePut x1 x2 S) fun r17 => some (mx r17 k0) else some (0 : Int32)
def f_X1_dueWhole_J31 (x1 : Nat) (x2 : Int32) (x3 : Int32) (x4 : Int32) (k0 : Int32) (S : vS) : Option Int32 := if x4 = 0 then f_X1_dueWhole_J50 x1 x2 x3 k0 (0 : Int32) S else if 1 ≤ x1 ∧ x1 ≤ 97 then if inb (3 : Int32) (alen x1) = true then f_X1_dueWhole_J50 x1 x2 x3 k0 (mx k0 (S x1 3)) S else none else none
def f_X1_dueWhole (a1 : Nat) (a2 : Int32) (a3 : Int32) (S : vS) : Option Int32 := if inb a2 6 = true then b1 (f_X1_hasRight a1 (S 26 (a2.toNatClampNeg)) S) fun r3 => if r3 = 0 then f_X1_dueWhole_J31 a1 a2 a3 r3 (0 : Int32) S else b1 (f_X1_byRate a1 (S 27 (a2.toNatClampNeg)) S) fun r21 => f_X1_dueWhole_J31 a1 a2 a3 r3 r21 S else none
set_option maxHeartbeats 4000000 in
set_option maxRecDepth 20000 in
theorem c_X1_dueWhole (l : Launch) (D : va_G) (cI cO : ClassId) (ad : Nat → Nat) (a1 : Nat) (a2 : Int32) (a3 : Int32) (S : vS) (R9 : Int32) (hf : f_X1_dueWhole a1 a2 a3 S = some R9) : CI l yX1_dueWhole cX1_dueWhole 7 .int ({ frames := 3, cells := 0, slots := 0, locals := 65 }) [.ref (ad 4), .ref (ar ad a1), .int a2, .int a3] D cI cO ad S R9 S := by
  refine CI.of (by decide +kernel) (Nat.le_of_ble_eq_true rfl) (fun p e s m args below meth c Q ls X hl hw hfin => ?_)
  have hl : lv_has ls 7 [(0, .ref (ad 4)), (1, .ref (ar ad a1)), (2, .int a2), (3, .int a3)] := hl
  have hx := X.1
  have hb := X.2.1
  have J50 : ∀ (x1 : Nat) (x2 : Int32) (x3 : Int32) (x5 : Int32) (k0 : Int32), f_X1_dueWhole_J50 x1 x2 x3 x5 k0 S = some R9 → ∀ (H : Heap) (locs : List Loc) (ls : Array Slot), WD D cI cO ad s S H locs → lv_has ls 7 [(0, .ref (ad 4)), (1, .ref (ar ad x1)), (2, .int x2), (3, .int x3), (5, .int x5)] → W p l e ({ frames := 3, cells := 0, slots := 0, locals := 65 }) s m args below meth c H locs 0 0 Q (F0 m 50 ls [.int k0]) := by
    intro x1 x2 x3 x5 k0 hf H locs ls hw hl
    unfold f_X1_dueWhole_J50 at hf
    refine lv_istore (lv' := [(6, .int k0), (0, .ref (ad 4)), (1, .ref (ar ad x1)), (2, .int x2), (3, .int x3), (5, .int x5)]) hx hb dX1_dueWhole_50 hl (by decide) rfl (fun ls hl => ?_)
    refine lv_iload_n hx hb dX1_dueWhole_52 rfl (lv_at hl 4 rfl) ?_
    by_cases c6 : x3 = (0 : Int32)
    · replace hf := if_t c6 hf
      refine lv_tableIn (off := 39) (tgt := 92) hx hb dX1_dueWhole_53 (by rw [c6]; decide) (by rw [c6]; decide) (by rw [c6]; rfl) (by decide) ?_
      refine lv_iload hx hb dX1_dueWhole_92 (lv_at hl 5 rfl) ?_
      exact hfin _ _ _ _ _ _ hw (Option.some.inj hf) rfl (narI _) dX1_dueWhole_94
    · replace hf := if_f c6 hf
      by_cases c7 : x3 = (1 : Int32)
      · replace hf := if_t c7 hf
        refine lv_tableIn (off := 42) (tgt := 95) hx hb dX1_dueWhole_53 (by rw [c7]; decide) (by rw [c7]; decide) (by rw [c7]; rfl) (by decide) ?_
        refine lv_iload hx hb dX1_dueWhole_95 (lv_at hl 0 rfl) ?_
        exact hfin _ _ _ _ _ _ hw (Option.some.inj hf) rfl (narI _) dX1_dueWhole_97
      · replace hf := if_f c7 hf
        by_cases c8 : x3 = (2 : Int32)
        · replace hf := if_t c8 hf
          refine lv_tableIn (off := 45) (tgt := 98) hx hb dX1_dueWhole_53 (by rw [c8]; decide) (by rw [c8]; decide) (by rw [c8]; rfl) (by decide) ?_
          refine lv_aload_n hx hb dX1_dueWhole_98 rfl (lv_at hl 1 rfl) ?_
          refine lv_aload_n hx hb dX1_dueWhole_99 rfl (lv_at hl 2 rfl) ?_
          refine lv_iload_n hx hb dX1_dueWhole_100 rfl (lv_at hl 3 rfl) ?_
          obtain ⟨r10, h9, hf⟩ := b1_s hf
          refine kVi X hw (c_X1_duePut l D cI cO ad x1 x2 S r10 h9) (Nat.le_of_ble_eq_true rfl) ce4 rfl ⟨rfl, rfl⟩ q443 q445 q20 q63 q446 hd_X1_duePut ⟨Nat.le_of_ble_eq_true rfl, Nat.le_of_ble_eq_true rfl⟩ rfl hl.1 rfl (Nat.le_of_ble_eq_true rfl) dX1_dueWhole_101 (fun H locs hw => ?_)
          exact hfin _ _ _ _ _ _ hw (Option.some.inj hf) rfl (narI _) dX1_dueWhole_104
        · replace hf := if_f c8 hf
          by_cases c11 : x3 = (3 : Int32)
          · replace hf := if_t c11 hf
            refine lv_tableIn (off := 52) (tgt := 105) hx hb dX1_dueWhole_53 (by rw [c11]; decide) (by rw [c11]; decide) (by rw [c11]; rfl) (by decide) ?_
            refine lv_aload_n hx hb dX1_dueWhole_105 rfl (lv_at hl 1 rfl) ?_
            refine lv_aload_n hx hb dX1_dueWhole_106 rfl (lv_at hl 2 rfl) ?_
            refine lv_iload_n hx hb dX1_dueWhole_107 rfl (lv_at hl 3 rfl) ?_
            obtain ⟨r13, h12, hf⟩ := b1_s hf
            refine kVi X hw (c_X1_duePut l D cI cO ad x1 x2 S r13 h12) (Nat.le_of_ble_eq_true rfl) ce4 rfl ⟨rfl, rfl⟩ q443 q445 q20 q63 q446 hd_X1_duePut ⟨Nat.le_of_ble_eq_true rfl, Nat.le_of_ble_eq_true rfl⟩ rfl hl.1 rfl (Nat.le_of_ble_eq_true rfl) dX1_dueWhole_108 (fun H locs hw => ?_)
            refine lv_iload hx hb dX1_dueWhole_111 (lv_at hl 0 rfl) ?_
            refine x_max X hl.1 q442 q258 q67 q259 (Nat.le_of_ble_eq_true rfl) (Nat.le_of_ble_eq_true rfl) dX1_dueWhole_113 ?_
            exact hfin _ _ _ _ _ _ hw (Option.some.inj hf) rfl (narI _) dX1_dueWhole_116
          · replace hf := if_f c11 hf
            by_cases c14 : x3 = (4 : Int32)
            · replace hf := if_t c14 hf
              refine lv_tableIn (off := 42) (tgt := 95) hx hb dX1_dueWhole_53 (by rw [c14]; decide) (by rw [c14]; decide) (by rw [c14]; rfl) (by decide) ?_
              refine lv_iload hx hb dX1_dueWhole_95 (lv_at hl 0 rfl) ?_
              exact hfin _ _ _ _ _ _ hw (Option.some.inj hf) rfl (narI _) dX1_dueWhole_97
            · replace hf := if_f c14 hf
              by_cases c15 : x3 = (5 : Int32)
              · replace hf := if_t c15 hf
                refine lv_tableIn (off := 52) (tgt := 105) hx hb dX1_dueWhole_53 (by rw [c15]; decide) (by rw [c15]; decide) (by rw [c15]; rfl) (by decide) ?_
                refine lv_aload_n hx hb dX1_dueWhole_105 rfl (lv_at hl 1 rfl) ?_
                refine lv_aload_n hx hb dX1_dueWhole_106 rfl (lv_at hl 2 rfl) ?_
                refine lv_iload_n hx hb dX1_dueWhole_107 rfl (lv_at hl 3 rfl) ?_
                obtain ⟨r17, h16, hf⟩ := b1_s hf
                refine kVi X hw (c_X1_duePut l D cI cO ad x1 x2 S r17 h16) (Nat.le_of_ble_eq_true rfl) ce4 rfl ⟨rfl, rfl⟩ q443 q445 q20 q63 q446 hd_X1_duePut ⟨Nat.le_of_ble_eq_true rfl, Nat.le_of_ble_eq_true rfl⟩ rfl hl.1 rfl (Nat.le_of_ble_eq_true rfl) dX1_dueWhole_108 (fun H locs hw => ?_)
                refine lv_iload hx hb dX1_dueWhole_111 (lv_at hl 0 rfl) ?_
                refine x_max X hl.1 q442 q258 q67 q259 (Nat.le_of_ble_eq_true rfl) (Nat.le_of_ble_eq_true rfl) dX1_dueWhole_113 ?_
                exact hfin _ _ _ _ _ _ hw (Option.some.inj hf) rfl (narI _) dX1_dueWhole_116
              · replace hf := if_f c15 hf
                have nc6 : ¬ (x3).toInt = 0 := lv_neT c6 (by decide)
                have nc7 : ¬ (x3).toInt = 1 := lv_neT c7 (by decide)
                have nc8 : ¬ (x3).toInt = 2 := lv_neT c8 (by decide)
                have nc11 : ¬ (x3).toInt = 3 := lv_neT c11 (by decide)
                have nc14 : ¬ (x3).toInt = 4 := lv_neT c14 (by decide)
                have nc15 : ¬ (x3).toInt = 5 := lv_neT c15 (by decide)
                refine lv_tableOut (tgt := 117) hx hb dX1_dueWhole_53 (by omega) (by decide) ?_
                refine lv_iconst (v := 0) hx hb dX1_dueWhole_117 (by decide) ?_
                exact hfin _ _ _ _ _ _ hw (Option.some.inj hf) rfl (narI _) dX1_dueWhole_118
  have J31 : ∀ (x1 : Nat) (x2 : Int32) (x3 : Int32) (x4 : Int32) (k0 : Int32), f_X1_dueWhole_J31 x1 x2 x3 x4 k0 S = some R9 → ∀ (H : Heap) (locs : List Loc) (ls : Array Slot), WD D cI cO ad s S H locs → lv_has ls 7 [(0, .ref (ad 4)), (1, .ref (ar ad x1)), (2, .int x2), (3, .int x3), (4, .int x4)] → W p l e ({ frames := 3, cells := 0, slots := 0, locals := 65 }) s m args below meth c H locs 0 0 Q (F0 m 31 ls [.int k0]) := by
    intro x1 x2 x3 x4 k0 hf H locs ls hw hl
    unfold f_X1_dueWhole_J31 at hf
    refine lv_istore (lv' := [(5, .int k0), (0, .ref (ad 4)), (1, .ref (ar ad x1)), (2, .int x2), (3, .int x3), (4, .int x4)]) hx hb dX1_dueWhole_31 hl (by decide) rfl (fun ls hl => ?_)
    refine lv_iload hx hb dX1_dueWhole_33 (lv_at hl 5 rfl) ?_
    refine lv_if_eq (tgt := 49) hx hb dX1_dueWhole_35 (by decide) (fun c5 => ?_) (fun c5 => ?_)
    · replace hf := if_t c5 hf
      refine lv_iconst (v := 0) hx hb dX1_dueWhole_49 (by decide) ?_
      exact J50 x1 x2 x3 k0 (0 : Int32) hf _ _ _ hw (lv_sub hl [1, 2, 3, 4, 0] rfl)
    · replace hf := if_f c5 hf
      refine lv_iload hx hb dX1_dueWhole_38 (lv_at hl 0 rfl) ?_
      refine lv_aload_n hx hb dX1_dueWhole_40 rfl (lv_at hl 2 rfl) ?_
      refine lv_iconst (v := 3) hx hb dX1_dueWhole_41 (by decide) ?_
      obtain ⟨h18, hf⟩ := if_s hf
      obtain ⟨h19, hf⟩ := if_s hf
      refine x_iald X hw x1 h18 rfl h19 3 (by decide) dX1_dueWhole_42 ?_
      refine x_max X hl.1 q442 q258 q67 q259 (Nat.le_of_ble_eq_true rfl) (Nat.le_of_ble_eq_true rfl) dX1_dueWhole_43 ?_
      refine lv_goto (tgt := 50) hx hb dX1_dueWhole_46 (by decide) ?_
      exact J50 x1 x2 x3 k0 (mx k0 (S x1 3)) hf _ _ _ hw (lv_sub hl [1, 2, 3, 4, 0] rfl)
  unfold f_X1_dueWhole at hf
  refine lv_aload_n hx hb dX1_dueWhole_0 rfl (lv_at hl 1 rfl) ?_
  refine lv_aload_n hx hb dX1_dueWhole_1 rfl (lv_at hl 0 rfl) ?_
  refine x_get X hw 4 (Nat.le_of_ble_eq_true rfl) ce4 rfl i_X1 1 (by decide) q144 ⟨rfl, rfl, rfl⟩ rfl dX1_dueWhole_2 ?_
  refine lv_iload_n hx hb dX1_dueWhole_5 rfl (lv_at hl 2 rfl) ?_
  obtain ⟨h1, hf⟩ := if_s hf
  refine x_iald X hw 26 ⟨Nat.le_of_ble_eq_true rfl, Nat.le_of_ble_eq_true rfl⟩ rfl h1 (a2.toNatClampNeg) rfl dX1_dueWhole_6 ?_
  obtain ⟨r3, h2, hf⟩ := b1_s hf
  refine kSi X hw (c_X1_hasRight l D cI cO ad a1 (S 26 (a2.toNatClampNeg)) S r3 h2) ⟨rfl, rfl⟩ q435 q436 q63 q437 hd_X1_hasRight ⟨Nat.le_of_ble_eq_true rfl, Nat.le_of_ble_eq_true rfl⟩ rfl hl.1 rfl (Nat.le_of_ble_eq_true rfl) dX1_dueWhole_7 (fun H locs hw => ?_)
  refine lv_istore (lv' := [(4, .int r3), (0, .ref (ad 4)), (1, .ref (ar ad a1)), (2, .int a2), (3, .int a3)]) hx hb dX1_dueWhole_10 hl (by decide) rfl (fun ls hl => ?_)
  refine lv_iload hx hb dX1_dueWhole_12 (lv_at hl 0 rfl) ?_
  refine lv_if_eq (tgt := 30) hx hb dX1_dueWhole_14 (by decide) (fun c4 => ?_) (fun c4 => ?_)
  · replace hf := if_t c4 hf
    refine lv_iconst (v := 0) hx hb dX1_dueWhole_30 (by decide) ?_
    exact J31 a1 a2 a3 r3 (0 : Int32) hf _ _ _ hw (lv_sub hl [1, 2, 3, 4, 0] rfl)
  · replace hf := if_f c4 hf
    refine lv_aload_n hx hb dX1_dueWhole_17 rfl (lv_at hl 2 rfl) ?_
    refine lv_aload_n hx hb dX1_dueWhole_18 rfl (lv_at hl 1 rfl) ?_
    refine x_get X hw 4 (Nat.le_of_ble_eq_true rfl) ce4 rfl i_X1 2 (by decide) q146 ⟨rfl, rfl, rfl⟩ rfl dX1_dueWhole_19 ?_
    refine lv_iload_n hx hb dX1_dueWhole_22 rfl (lv_at hl 3 rfl) ?_
    refine x_iald X hw 27 ⟨Nat.le_of_ble_eq_true rfl, Nat.le_of_ble_eq_true rfl⟩ rfl h1 (a2.toNatClampNeg) rfl dX1_dueWhole_23 ?_
    obtain ⟨r21, h20, hf⟩ := b1_s hf
    refine kSi X hw (c_X1_byRate l D cI cO ad a1 (S 27 (a2.toNatClampNeg)) S r21 h20) ⟨rfl, rfl⟩ q438 q439 q63 q440 hd_X1_byRate ⟨Nat.le_of_ble_eq_true rfl, Nat.le_of_ble_eq_true rfl⟩ rfl hl.1 rfl (Nat.le_of_ble_eq_true rfl) dX1_dueWhole_24 (fun H locs hw => ?_)
    refine lv_goto (tgt := 31) hx hb dX1_dueWhole_27 (by decide) ?_
    exact J31 a1 a2 a3 r3 r21 hf _ _ _ hw (lv_sub hl [1, 2, 3, 4, 0] rfl)
/-- NineLands$Sums.dueBy(LNineLands$Book;III)I -/
theorem dX1_dueBy_0 : decode cX1_dueBy 0 = .ok (.aload_n 1, 1) := by decide +kernel
theorem dX1_dueBy_1 : decode cX1_dueBy 1 = .ok (.getfield 89, 3) := by decide +kernel
theorem dX1_dueBy_4 : decode cX1_dueBy 4 = .ok (.iload_n 2, 1) := by decide +kernel
theorem dX1_dueBy_5 : decode cX1_dueBy 5 = .ok (.aaload, 1) := by decide +kernel
theorem dX1_dueBy_6 : decode cX1_dueBy 6 = .ok (.astore 5, 2) := by decide +kernel
theorem dX1_dueBy_8 : decode cX1_dueBy 8 = .ok (.aload 5, 2) := by decide +kernel
theorem dX1_dueBy_10 : decode cX1_dueBy 10 = .ok (.iload_n 3, 1) := by decide +kernel
theorem dX1_dueBy_11 : decode cX1_dueBy 11 = .ok (.aload_n 0, 1) := by decide +kernel
theorem dX1_dueBy_12 : decode cX1_dueBy 12 = .ok (.aload 5, 2) := by decide +kernel
theorem dX1_dueBy_14 : decode cX1_dueBy 14 = .ok (.iload_n 2, 1) := by decide +kernel
theorem dX1_dueBy_15 : decode cX1_dueBy 15 = .ok (.iload_n 3, 1) := by decide +kernel
theorem dX1_dueBy_16 : decode cX1_dueBy 16 = .ok (.invokevirtual 95, 3) := by decide +kernel
theorem dX1_dueBy_19 : decode cX1_dueBy 19 = .ok (.iload 4, 2) := by decide +kernel
theorem dX1_dueBy_21 : decode cX1_dueBy 21 = .ok (.invokestatic 107, 3) := by decide +kernel
theorem dX1_dueBy_24 : decode cX1_dueBy 24 = .ok (.ireturn, 1) := by decide +kernel
theorem hd_X1_dueBy : yX1_dueBy.cls ≠ "java/lang/invoke/MethodHandle" ∧ yX1_dueBy.cls ≠ "java/lang/invoke/VarHandle" ∧ (parseMethodDescriptor yX1_dueBy.desc).map (fun d => d.parameters.length) = some 4 := by decide +kernel
def f_X1_dueBy (a2 : Int32) (a3 : Int32) (a4 : Int32) (S : vS) : Option Int32 := if inb a2 6 = true then b1 (f_X1_dueWhole (54 + a2.toNatClampNeg) a2 a3 S) fun r3 => b1 (f_X1_lessOthers (54 + a2.toNatClampNeg) a3 r3 a4 S) fun r5 => some r5 else none
set_option maxHeartbeats 4000000 in
set_option maxRecDepth 20000 in
theorem c_X1_dueBy (l : Launch) (D : va_G) (cI cO : ClassId) (ad : Nat → Nat) (a2 : Int32) (a3 : Int32) (a4 : Int32) (S : vS) (R9 : Int32) (hf : f_X1_dueBy a2 a3 a4 S = some R9) : CI l yX1_dueBy cX1_dueBy 6 .int ({ frames := 4, cells := 0, slots := 0, locals := 91 }) [.ref (ad 4), .ref (ad 2), .int a2, .int a3, .int a4] D cI cO ad S R9 S := by
  refine CI.of (by decide +kernel) (Nat.le_of_ble_eq_true rfl) (fun p e s m args below meth c Q ls X hl hw hfin => ?_)
  have hl : lv_has ls 6 [(0, .ref (ad 4)), (1, .ref (ad 2)), (2, .int a2), (3, .int a3), (4, .int a4)] := hl
  have hx := X.1
  have hb := X.2.1
  unfold f_X1_dueBy at hf
  refine lv_aload_n hx hb dX1_dueBy_0 rfl (lv_at hl 1 rfl) ?_
  refine x_getN X hw 2 (Nat.le_of_ble_eq_true rfl) ce2 rfl i_X0 1 (by decide) q117 ⟨rfl, rfl, rfl⟩ rfl dX1_dueBy_1 ?_
  refine lv_iload_n hx hb dX1_dueBy_4 rfl (lv_at hl 2 rfl) ?_
  obtain ⟨h1, hf⟩ := if_s hf
  refine x_aald X hw 7 (Nat.le_of_ble_eq_true rfl) ce7 h1 rfl dX1_dueBy_5 ?_
  refine lv_astore (lv' := [(5, .ref (ar ad (54 + a2.toNatClampNeg))), (0, .ref (ad 4)), (1, .ref (ad 2)), (2, .int a2), (3, .int a3), (4, .int a4)]) hx hb dX1_dueBy_6 hl (by decide) rfl (fun ls hl => ?_)
  refine lv_aload hx hb dX1_dueBy_8 (lv_at hl 0 rfl) ?_
  refine lv_iload_n hx hb dX1_dueBy_10 rfl (lv_at hl 4 rfl) ?_
  refine lv_aload_n hx hb dX1_dueBy_11 rfl (lv_at hl 1 rfl) ?_
  refine lv_aload hx hb dX1_dueBy_12 (lv_at hl 0 rfl) ?_
  refine lv_iload_n hx hb dX1_dueBy_14 rfl (lv_at hl 3 rfl) ?_
  refine lv_iload_n hx hb dX1_dueBy_15 rfl (lv_at hl 4 rfl) ?_
  obtain ⟨r3, h2, hf⟩ := b1_s hf
  refine kVi X hw (c_X1_dueWhole l D cI cO ad (54 + a2.toNatClampNeg) a2 a3 S r3 h2) (Nat.le_of_ble_eq_true rfl) ce4 rfl ⟨rfl, rfl⟩ q431 q433 q19 q63 q434 hd_X1_dueWhole ⟨Nat.le_of_ble_eq_true rfl, Nat.le_of_ble_eq_true rfl⟩ rfl hl.1 rfl (Nat.le_of_ble_eq_true rfl) dX1_dueBy_16 (fun H locs hw => ?_)
  refine lv_iload hx hb dX1_dueBy_19 (lv_at hl 5 rfl) ?_
  obtain ⟨r5, h4, hf⟩ := b1_s hf
  refine kSi X hw (c_X1_lessOthers l D cI cO ad (54 + a2.toNatClampNeg) a3 r3 a4 S r5 h4) ⟨rfl, rfl⟩ q447 q448 q63 q449 hd_X1_lessOthers ⟨Nat.le_of_ble_eq_true rfl, Nat.le_of_ble_eq_true rfl⟩ rfl hl.1 rfl (Nat.le_of_ble_eq_true rfl) dX1_dueBy_21 (fun H locs hw => ?_)
  exact hfin _ _ _ _ _ _ hw (Option.some.inj hf) rfl (narI _) dX1_dueBy_24
/-- NineLands$Sums.changesInTurn(LNineLands$Book;)Z -/
theorem dX1_changesInTurn_0 : decode cX1_changesInTurn 0 = .ok (.iconst 0, 1) := by decide +kernel
theorem dX1_changesInTurn_1 : decode cX1_changesInTurn 1 = .ok (.istore_n 2, 1) := by decide +kernel
theorem dX1_changesInTurn_2 : decode cX1_changesInTurn 2 = .ok (.aload_n 0, 1) := by decide +kernel
theorem dX1_changesInTurn_3 : decode cX1_changesInTurn 3 = .ok (.getfield 30, 3) := by decide +kernel
theorem dX1_changesInTurn_6 : decode cX1_changesInTurn 6 = .ok (.invokestatic 103, 3) := by decide +kernel
theorem dX1_changesInTurn_9 : decode cX1_changesInTurn 9 = .ok (.istore_n 3, 1) := by decide +kernel
theorem dX1_changesInTurn_10 : decode cX1_changesInTurn 10 = .ok (.iconst 0, 1) := by decide +kernel
theorem dX1_changesInTurn_11 : decode cX1_changesInTurn 11 = .ok (.istore 4, 2) := by decide +kernel
theorem dX1_changesInTurn_13 : decode cX1_changesInTurn 13 = .ok (.iload 4, 2) := by decide +kernel
theorem dX1_changesInTurn_15 : decode cX1_changesInTurn 15 = .ok (.bipush 6, 2) := by decide +kernel
theorem dX1_changesInTurn_17 : decode cX1_changesInTurn 17 = .ok (.if_icmp .ge 85, 3) := by decide +kernel
theorem dX1_changesInTurn_20 : decode cX1_changesInTurn 20 = .ok (.iload_n 3, 1) := by decide +kernel
theorem dX1_changesInTurn_21 : decode cX1_changesInTurn 21 = .ok (.aload_n 0, 1) := by decide +kernel
theorem dX1_changesInTurn_22 : decode cX1_changesInTurn 22 = .ok (.getfield 30, 3) := by decide +kernel
theorem dX1_changesInTurn_25 : decode cX1_changesInTurn 25 = .ok (.iload 4, 2) := by decide +kernel
theorem dX1_changesInTurn_27 : decode cX1_changesInTurn 27 = .ok (.iaload, 1) := by decide +kernel
theorem dX1_changesInTurn_28 : decode cX1_changesInTurn 28 = .ok (.isub, 1) := by decide +kernel
theorem dX1_changesInTurn_29 : decode cX1_changesInTurn 29 = .ok (.istore 5, 2) := by decide +kernel
theorem dX1_changesInTurn_31 : decode cX1_changesInTurn 31 = .ok (.aload_n 1, 1) := by decide +kernel
theorem dX1_changesInTurn_32 : decode cX1_changesInTurn 32 = .ok (.getfield 89, 3) := by decide +kernel
theorem dX1_changesInTurn_35 : decode cX1_changesInTurn 35 = .ok (.iload 4, 2) := by decide +kernel
theorem dX1_changesInTurn_37 : decode cX1_changesInTurn 37 = .ok (.aaload, 1) := by decide +kernel
theorem dX1_changesInTurn_38 : decode cX1_changesInTurn 38 = .ok (.aload_n 1, 1) := by decide +kernel
theorem dX1_changesInTurn_39 : decode cX1_changesInTurn 39 = .ok (.getfield 92, 3) := by decide +kernel
theorem dX1_changesInTurn_42 : decode cX1_changesInTurn 42 = .ok (.iload 4, 2) := by decide +kernel
theorem dX1_changesInTurn_44 : decode cX1_changesInTurn 44 = .ok (.iaload, 1) := by decide +kernel
theorem dX1_changesInTurn_45 : decode cX1_changesInTurn 45 = .ok (.aload_n 0, 1) := by decide +kernel
theorem dX1_changesInTurn_46 : decode cX1_changesInTurn 46 = .ok (.getfield 27, 3) := by decide +kernel
theorem dX1_changesInTurn_49 : decode cX1_changesInTurn 49 = .ok (.iload 4, 2) := by decide +kernel
theorem dX1_changesInTurn_51 : decode cX1_changesInTurn 51 = .ok (.iaload, 1) := by decide +kernel
theorem dX1_changesInTurn_52 : decode cX1_changesInTurn 52 = .ok (.iload 5, 2) := by decide +kernel
theorem dX1_changesInTurn_54 : decode cX1_changesInTurn 54 = .ok (.invokestatic 107, 3) := by decide +kernel
theorem dX1_changesInTurn_57 : decode cX1_changesInTurn 57 = .ok (.istore 6, 2) := by decide +kernel
theorem dX1_changesInTurn_59 : decode cX1_changesInTurn 59 = .ok (.iload_n 2, 1) := by decide +kernel
theorem dX1_changesInTurn_60 : decode cX1_changesInTurn 60 = .ok (.ifCond .ne 15, 3) := by decide +kernel
theorem dX1_changesInTurn_63 : decode cX1_changesInTurn 63 = .ok (.iload 6, 2) := by decide +kernel
theorem dX1_changesInTurn_65 : decode cX1_changesInTurn 65 = .ok (.aload_n 0, 1) := by decide +kernel
theorem dX1_changesInTurn_66 : decode cX1_changesInTurn 66 = .ok (.getfield 30, 3) := by decide +kernel
theorem dX1_changesInTurn_69 : decode cX1_changesInTurn 69 = .ok (.iload 4, 2) := by decide +kernel
theorem dX1_changesInTurn_71 : decode cX1_changesInTurn 71 = .ok (.iaload, 1) := by decide +kernel
theorem dX1_changesInTurn_72 : decode cX1_changesInTurn 72 = .ok (.if_icmp .eq 7, 3) := by decide +kernel
theorem dX1_changesInTurn_75 : decode cX1_changesInTurn 75 = .ok (.iconst 1, 1) := by decide +kernel
theorem dX1_changesInTurn_76 : decode cX1_changesInTurn 76 = .ok (.goto 4, 3) := by decide +kernel
theorem dX1_changesInTurn_79 : decode cX1_changesInTurn 79 = .ok (.iconst 0, 1) := by decide +kernel
theorem dX1_changesInTurn_80 : decode cX1_changesInTurn 80 = .ok (.istore_n 2, 1) := by decide +kernel
theorem dX1_changesInTurn_81 : decode cX1_changesInTurn 81 = .ok (.aload_n 0, 1) := by decide +kernel
theorem dX1_changesInTurn_82 : decode cX1_changesInTurn 82 = .ok (.getfield 30, 3) := by decide +kernel
theorem dX1_changesInTurn_85 : decode cX1_changesInTurn 85 = .ok (.iload 4, 2) := by decide +kernel
theorem dX1_changesInTurn_87 : decode cX1_changesInTurn 87 = .ok (.iload 6, 2) := by decide +kernel
theorem dX1_changesInTurn_89 : decode cX1_changesInTurn 89 = .ok (.iastore, 1) := by decide +kernel
theorem dX1_changesInTurn_90 : decode cX1_changesInTurn 90 = .ok (.iload 5, 2) := by decide +kernel
theorem dX1_changesInTurn_92 : decode cX1_changesInTurn 92 = .ok (.iload 6, 2) := by decide +kernel
theorem dX1_changesInTurn_94 : decode cX1_changesInTurn 94 = .ok (.iadd, 1) := by decide +kernel
theorem dX1_changesInTurn_95 : decode cX1_changesInTurn 95 = .ok (.istore_n 3, 1) := by decide +kernel
theorem dX1_changesInTurn_96 : decode cX1_changesInTurn 96 = .ok (.iinc 4 1, 3) := by decide +kernel
theorem dX1_changesInTurn_99 : decode cX1_changesInTurn 99 = .ok (.goto (-86), 3) := by decide +kernel
theorem dX1_changesInTurn_102 : decode cX1_changesInTurn 102 = .ok (.iload_n 2, 1) := by decide +kernel
theorem dX1_changesInTurn_103 : decode cX1_changesInTurn 103 = .ok (.ireturn, 1) := by decide +kernel
theorem hd_X1_changesInTurn : yX1_changesInTurn.cls ≠ "java/lang/invoke/MethodHandle" ∧ yX1_changesInTurn.cls ≠ "java/lang/invoke/VarHandle" ∧ (parseMethodDescriptor yX1_changesInTurn.desc).map (fun d => d.parameters.length) = some 1 := by decide +kernel
def f_X1_changesInTurn_L13 : Nat → Int32 → Int32 → Int32 → vS → Option (Int32 × vS)
  | 0, _, _, _, _ => none
  | n + 1, x2, x3, x4, S => if (6 : Int32) ≤ x4 then some (x2, S) else if inb x4 6 = true then lt ((x3 - (S 31 (x4.toNatClampNeg)))) fun v5 => if inb x4 6 = true then b1 (f_X1_lessOthers (54 + x4.toNatClampNeg) (S 23 (x4.toNatClampNeg)) (S 30 (x4.toNatClampNeg)) v5 S) fun r8 => if x2 = 0 then if r8 = (S 31 (x4.toNatClampNeg)) then lt (upk S 31 (upd (S 31) (x4.toNatClampNeg) r8)) fun S12 => (f_X1_changesInTurn_L13 n) (0 : Int32) (v5 + r8) (x4 + 1) S12 else lt (upk S 31 (upd (S 31) (x4.toNatClampNeg) r8)) fun S13 => (f_X1_changesInTurn_L13 n) (1 : Int32) (v5 + r8) (x4 + 1) S13 else lt (upk S 31 (upd (S 31) (x4.toNatClampNeg) r8)) fun S10 => (f_X1_changesInTurn_L13 n) (1 : Int32) (v5 + r8) (x4 + 1) S10 else none else none
def f_X1_changesInTurn  (S : vS) : Option (Int32 × vS) := b1 (f_X3_sumOf 31 S) fun r2 => b2 (f_X1_changesInTurn_L13 FU (0 : Int32) r2 (0 : Int32) S) fun y14 S15 => if y14 = 0 ∨ y14 = 1 then some (y14, S15) else none
set_option maxHeartbeats 4000000 in
set_option maxRecDepth 20000 in
theorem c_X1_changesInTurn (l : Launch) (D : va_G) (cI cO : ClassId) (ad : Nat → Nat)  (S : vS) (R9 : Int32) (S9 : vS) (hf : f_X1_changesInTurn  S = some (R9, S9)) : CI l yX1_changesInTurn cX1_changesInTurn 7 .boolean ({ frames := 2, cells := 0, slots := 0, locals := 45 }) [.ref (ad 4), .ref (ad 2)] D cI cO ad S R9 S9 := by
  refine CI.of (by decide +kernel) (Nat.le_of_ble_eq_true rfl) (fun p e s m args below meth c Q ls X hl hw hfin => ?_)
  have hl : lv_has ls 7 [(0, .ref (ad 4)), (1, .ref (ad 2))] := hl
  have hx := X.1
  have hb := X.2.1
  have L13 : ∀ (n : Nat) (x2 : Int32) (x3 : Int32) (x4 : Int32) (S : vS) (res : (Int32 × vS)), f_X1_changesInTurn_L13 n x2 x3 x4 S = some res → (K : ∀ (y2 : Int32) (S2 : vS), some (y2, S2) = some res → ∀ (H : Heap) (locs : List Loc) (ls : Array Slot), WD D cI cO ad s S2 H locs → lv_has ls 7 [(2, .int y2)] → W p l e ({ frames := 2, cells := 0, slots := 0, locals := 45 }) s m args below meth c H locs 0 0 Q (F0 m 102 ls [])) → ∀ (H : Heap) (locs : List Loc) (ls : Array Slot), WD D cI cO ad s S H locs → lv_has ls 7 [(0, .ref (ad 4)), (1, .ref (ad 2)), (2, .int x2), (3, .int x3), (4, .int x4)] → W p l e ({ frames := 2, cells := 0, slots := 0, locals := 45 }) s m args below meth c H locs 0 0 Q (F0 m 13 ls []) := by
    intro n
    induction n with
    | zero => intro x2 x3 x4 S res hf; cases hf
    | succ n ih =>
      intro x2 x3 x4 S res hf K H locs ls hw hl
      unfold f_X1_changesInTurn_L13 at hf
      refine lv_iload hx hb dX1_changesInTurn_13 (lv_at hl 4 rfl) ?_
      refine lv_bipush (v := 6) hx hb dX1_changesInTurn_15 (by decide +kernel) ?_
      refine lv_icmp_ge (tgt := 102) hx hb dX1_changesInTurn_17 (by decide) (fun c3 => ?_) (fun c3 => ?_)
      · replace hf := if_t c3 hf
        exact K x2 S hf _ _ _ hw (lv_sub hl [2] rfl)
      · replace hf := if_f c3 hf
        refine lv_iload_n hx hb dX1_changesInTurn_20 rfl (lv_at hl 3 rfl) ?_
        refine lv_aload_n hx hb dX1_changesInTurn_21 rfl (lv_at hl 0 rfl) ?_
        refine x_get X hw 4 (Nat.le_of_ble_eq_true rfl) ce4 rfl i_X1 6 (by decide) q153 ⟨rfl, rfl, rfl⟩ rfl dX1_changesInTurn_22 ?_
        refine lv_iload hx hb dX1_changesInTurn_25 (lv_at hl 4 rfl) ?_
        obtain ⟨h4, hf⟩ := if_s hf
        refine x_iald X hw 31 ⟨Nat.le_of_ble_eq_true rfl, Nat.le_of_ble_eq_true rfl⟩ rfl h4 (x4.toNatClampNeg) rfl dX1_changesInTurn_27 ?_
        refine lv_isub hx hb dX1_changesInTurn_28 ?_
        refine lv_topi (fun v5 ev5 => ?_)
        replace hf := lt_e ev5 hf
        refine lv_istore (lv' := [(5, .int v5), (0, .ref (ad 4)), (1, .ref (ad 2)), (2, .int x2), (3, .int x3), (4, .int x4)]) hx hb dX1_changesInTurn_29 hl (by decide) rfl (fun ls hl => ?_)
        refine lv_aload_n hx hb dX1_changesInTurn_31 rfl (lv_at hl 2 rfl) ?_
        refine x_getN X hw 2 (Nat.le_of_ble_eq_true rfl) ce2 rfl i_X0 1 (by decide) q117 ⟨rfl, rfl, rfl⟩ rfl dX1_changesInTurn_32 ?_
        refine lv_iload hx hb dX1_changesInTurn_35 (lv_at hl 5 rfl) ?_
        obtain ⟨h6, hf⟩ := if_s hf
        refine x_aald X hw 7 (Nat.le_of_ble_eq_true rfl) ce7 h6 rfl dX1_changesInTurn_37 ?_
        refine lv_aload_n hx hb dX1_changesInTurn_38 rfl (lv_at hl 2 rfl) ?_
        refine x_getN X hw 2 (Nat.le_of_ble_eq_true rfl) ce2 rfl i_X0 2 (by decide) q120 ⟨rfl, rfl, rfl⟩ rfl dX1_changesInTurn_39 ?_
        refine lv_iload hx hb dX1_changesInTurn_42 (lv_at hl 5 rfl) ?_
        refine x_iald X hw 23 ⟨Nat.le_of_ble_eq_true rfl, Nat.le_of_ble_eq_true rfl⟩ rfl h4 (x4.toNatClampNeg) rfl dX1_changesInTurn_44 ?_
        refine lv_aload_n hx hb dX1_changesInTurn_45 rfl (lv_at hl 1 rfl) ?_
        refine x_get X hw 4 (Nat.le_of_ble_eq_true rfl) ce4 rfl i_X1 5 (by decide) q152 ⟨rfl, rfl, rfl⟩ rfl dX1_changesInTurn_46 ?_
        refine lv_iload hx hb dX1_changesInTurn_49 (lv_at hl 5 rfl) ?_
        refine x_iald X hw 30 ⟨Nat.le_of_ble_eq_true rfl, Nat.le_of_ble_eq_true rfl⟩ rfl h4 (x4.toNatClampNeg) rfl dX1_changesInTurn_51 ?_
        refine lv_iload hx hb dX1_changesInTurn_52 (lv_at hl 0 rfl) ?_
        obtain ⟨r8, h7, hf⟩ := b1_s hf
        refine kSi X hw (c_X1_lessOthers l D cI cO ad (54 + x4.toNatClampNeg) (S 23 (x4.toNatClampNeg)) (S 30 (x4.toNatClampNeg)) v5 S r8 h7) ⟨rfl, rfl⟩ q447 q448 q63 q449 hd_X1_lessOthers ⟨Nat.le_of_ble_eq_true rfl, Nat.le_of_ble_eq_true rfl⟩ rfl hl.1 rfl (Nat.le_of_ble_eq_true rfl) dX1_changesInTurn_54 (fun H locs hw => ?_)
        refine lv_istore (lv' := [(6, .int r8), (5, .int v5), (0, .ref (ad 4)), (1, .ref (ad 2)), (2, .int x2), (3, .int x3), (4, .int x4)]) hx hb dX1_changesInTurn_57 hl (by decide) rfl (fun ls hl => ?_)
        refine lv_iload_n hx hb dX1_changesInTurn_59 rfl (lv_at hl 4 rfl) ?_
        refine lv_if_ne (tgt := 75) hx hb dX1_changesInTurn_60 (by decide) (fun c9 => ?_) (fun c9 => ?_)
        · replace hf := if_f c9 hf
          refine lv_iconst (v := 1) hx hb dX1_changesInTurn_75 (by decide) ?_
          refine lv_goto (tgt := 80) hx hb dX1_changesInTurn_76 (by decide) ?_
          refine lv_istore_n (lv' := [(2, .int (1 : Int32)), (6, .int r8), (5, .int v5), (0, .ref (ad 4)), (1, .ref (ad 2)), (3, .int x3), (4, .int x4)]) hx hb dX1_changesInTurn_80 rfl hl (by decide) rfl (fun ls hl => ?_)
          refine lv_aload_n hx hb dX1_changesInTurn_81 rfl (lv_at hl 3 rfl) ?_
          refine x_get X hw 4 (Nat.le_of_ble_eq_true rfl) ce4 rfl i_X1 6 (by decide) q153 ⟨rfl, rfl, rfl⟩ rfl dX1_changesInTurn_82 ?_
          refine lv_iload hx hb dX1_changesInTurn_85 (lv_at hl 6 rfl) ?_
          refine lv_iload hx hb dX1_changesInTurn_87 (lv_at hl 1 rfl) ?_
          refine x_iast X hw 31 ⟨Nat.le_of_ble_eq_true rfl, Nat.le_of_ble_eq_true rfl⟩ rfl h4 (x4.toNatClampNeg) rfl dX1_changesInTurn_89 (fun S10 eS10 H locs hw => ?_)
          replace hf := lt_e eS10 hf
          refine lv_iload hx hb dX1_changesInTurn_90 (lv_at hl 2 rfl) ?_
          refine lv_iload hx hb dX1_changesInTurn_92 (lv_at hl 1 rfl) ?_
          refine lv_iadd hx hb dX1_changesInTurn_94 ?_
          refine lv_istore_n (lv' := [(3, .int (v5 + r8)), (2, .int (1 : Int32)), (6, .int r8), (5, .int v5), (0, .ref (ad 4)), (1, .ref (ad 2)), (4, .int x4)]) hx hb dX1_changesInTurn_95 rfl hl (by decide) rfl (fun ls hl => ?_)
          refine lv_iinc (v := (x4 + 1)) (lv' := [(4, .int (x4 + 1)), (3, .int (v5 + r8)), (2, .int (1 : Int32)), (6, .int r8), (5, .int v5), (0, .ref (ad 4)), (1, .ref (ad 2))]) hx hb dX1_changesInTurn_96 hl (k := 6) rfl rfl (by decide) rfl (fun ls hl => ?_)
          refine lv_goto (tgt := 13) hx hb dX1_changesInTurn_99 (by decide) ?_
          exact ih (1 : Int32) (v5 + r8) (x4 + 1) S10 _ hf K _ _ _ hw (lv_sub hl [5, 6, 2, 1, 0] rfl)
        · replace hf := if_t c9 hf
          refine lv_iload hx hb dX1_changesInTurn_63 (lv_at hl 0 rfl) ?_
          refine lv_aload_n hx hb dX1_changesInTurn_65 rfl (lv_at hl 2 rfl) ?_
          refine x_get X hw 4 (Nat.le_of_ble_eq_true rfl) ce4 rfl i_X1 6 (by decide) q153 ⟨rfl, rfl, rfl⟩ rfl dX1_changesInTurn_66 ?_
          refine lv_iload hx hb dX1_changesInTurn_69 (lv_at hl 6 rfl) ?_
          refine x_iald X hw 31 ⟨Nat.le_of_ble_eq_true rfl, Nat.le_of_ble_eq_true rfl⟩ rfl h4 (x4.toNatClampNeg) rfl dX1_changesInTurn_71 ?_
          refine lv_icmp_eq (tgt := 79) hx hb dX1_changesInTurn_72 (by decide) (fun c11 => ?_) (fun c11 => ?_)
          · replace hf := if_t c11 hf
            refine lv_iconst (v := 0) hx hb dX1_changesInTurn_79 (by decide) ?_
            refine lv_istore_n (lv' := [(2, .int (0 : Int32)), (6, .int r8), (5, .int v5), (0, .ref (ad 4)), (1, .ref (ad 2)), (3, .int x3), (4, .int x4)]) hx hb dX1_changesInTurn_80 rfl hl (by decide) rfl (fun ls hl => ?_)
            refine lv_aload_n hx hb dX1_changesInTurn_81 rfl (lv_at hl 3 rfl) ?_
            refine x_get X hw 4 (Nat.le_of_ble_eq_true rfl) ce4 rfl i_X1 6 (by decide) q153 ⟨rfl, rfl, rfl⟩ rfl dX1_changesInTurn_82 ?_
            refine lv_iload hx hb dX1_changesInTurn_85 (lv_at hl 6 rfl) ?_
            refine lv_iload hx hb dX1_changesInTurn_87 (lv_at hl 1 rfl) ?_
            refine x_iast X hw 31 ⟨Nat.le_of_ble_eq_true rfl, Nat.le_of_ble_eq_true rfl⟩ rfl h4 (x4.toNatClampNeg) rfl dX1_changesInTurn_89 (fun S12 eS12 H locs hw => ?_)
            replace hf := lt_e eS12 hf
            refine lv_iload hx hb dX1_changesInTurn_90 (lv_at hl 2 rfl) ?_
            refine lv_iload hx hb dX1_changesInTurn_92 (lv_at hl 1 rfl) ?_
            refine lv_iadd hx hb dX1_changesInTurn_94 ?_
            refine lv_istore_n (lv' := [(3, .int (v5 + r8)), (2, .int (0 : Int32)), (6, .int r8), (5, .int v5), (0, .ref (ad 4)), (1, .ref (ad 2)), (4, .int x4)]) hx hb dX1_changesInTurn_95 rfl hl (by decide) rfl (fun ls hl => ?_)
            refine lv_iinc (v := (x4 + 1)) (lv' := [(4, .int (x4 + 1)), (3, .int (v5 + r8)), (2, .int (0 : Int32)), (6, .int r8), (5, .int v5), (0, .ref (ad 4)), (1, .ref (ad 2))]) hx hb dX1_changesInTurn_96 hl (k := 6) rfl rfl (by decide) rfl (fun ls hl => ?_)
            refine lv_goto (tgt := 13) hx hb dX1_changesInTurn_99 (by decide) ?_
            exact ih (0 : Int32) (v5 + r8) (x4 + 1) S12 _ hf K _ _ _ hw (lv_sub hl [5, 6, 2, 1, 0] rfl)
          · replace hf := if_f c11 hf
            refine lv_iconst (v := 1) hx hb dX1_changesInTurn_75 (by decide) ?_
            refine lv_goto (tgt := 80) hx hb dX1_changesInTurn_76 (by decide) ?_
            refine lv_istore_n (lv' := [(2, .int (1 : Int32)), (6, .int r8), (5, .int v5), (0, .ref (ad 4)), (1, .ref (ad 2)), (3, .int x3), (4, .int x4)]) hx hb dX1_changesInTurn_80 rfl hl (by decide) rfl (fun ls hl => ?_)
            refine lv_aload_n hx hb dX1_changesInTurn_81 rfl (lv_at hl 3 rfl) ?_
            refine x_get X hw 4 (Nat.le_of_ble_eq_true rfl) ce4 rfl i_X1 6 (by decide) q153 ⟨rfl, rfl, rfl⟩ rfl dX1_changesInTurn_82 ?_
            refine lv_iload hx hb dX1_changesInTurn_85 (lv_at hl 6 rfl) ?_
            refine lv_iload hx hb dX1_changesInTurn_87 (lv_at hl 1 rfl) ?_
            refine x_iast X hw 31 ⟨Nat.le_of_ble_eq_true rfl, Nat.le_of_ble_eq_true rfl⟩ rfl h4 (x4.toNatClampNeg) rfl dX1_changesInTurn_89 (fun S13 eS13 H locs hw => ?_)
            replace hf := lt_e eS13 hf
            refine lv_iload hx hb dX1_changesInTurn_90 (lv_at hl 2 rfl) ?_
            refine lv_iload hx hb dX1_changesInTurn_92 (lv_at hl 1 rfl) ?_
            refine lv_iadd hx hb dX1_changesInTurn_94 ?_
            refine lv_istore_n (lv' := [(3, .int (v5 + r8)), (2, .int (1 : Int32)), (6, .int r8), (5, .int v5), (0, .ref (ad 4)), (1, .ref (ad 2)), (4, .int x4)]) hx hb dX1_changesInTurn_95 rfl hl (by decide) rfl (fun ls hl => ?_)
            refine lv_iinc (v := (x4 + 1)) (lv' := [(4, .int (x4 + 1)), (3, .int (v5 + r8)), (2, .int (1 : Int32)), (6, .int r8), (5, .int v5), (0, .ref (ad 4)), (1, .ref (ad 2))]) hx hb dX1_changesInTurn_96 hl (k := 6) rfl rfl (by decide) rfl (fun ls hl => ?_)
            refine lv_goto (tgt := 13) hx hb dX1_changesInTurn_99 (by decide) ?_
            exact ih (1 : Int32) (v5 + r8) (x4 + 1) S13 _ hf K _ _ _ hw (lv_sub hl [5, 6, 2, 1, 0] rfl)
  unfold f_X1_changesInTurn at hf
  refine lv_iconst (v := 0) hx hb dX1_changesInTurn_0 (by decide) ?_
  refine lv_istore_n (lv' := [(2, .int (0 : Int32)), (0, .ref (ad 4)), (1, .ref (ad 2))]) hx hb dX1_changesInTurn_1 rfl hl (by decide) rfl (fun ls hl => ?_)
  refine lv_aload_n hx hb dX1_changesInTurn_2 rfl (lv_at hl 1 rfl) ?_
  refine x_get X hw 4 (Nat.le_of_ble_eq_true rfl) ce4 rfl i_X1 6 (by decide) q153 ⟨rfl, rfl, rfl⟩ rfl dX1_changesInTurn_3 ?_
  obtain ⟨r2, h1, hf⟩ := b1_s hf
  refine kSNi X hw (c_X3_sumOf l D cI cO ad 31 S r2 h1) ⟨rfl, rfl⟩ q471 q472 q59 q473 hd_X3_sumOf ⟨Nat.le_of_ble_eq_true rfl, Nat.le_of_ble_eq_true rfl⟩ rfl hl.1 rfl (Nat.le_of_ble_eq_true rfl) dX1_changesInTurn_6 (fun H locs hw => ?_)
  refine lv_istore_n (lv' := [(3, .int r2), (2, .int (0 : Int32)), (0, .ref (ad 4)), (1, .ref (ad 2))]) hx hb dX1_changesInTurn_9 rfl hl (by decide) rfl (fun ls hl => ?_)
  refine lv_iconst (v := 0) hx hb dX1_changesInTurn_10 (by decide) ?_
  refine lv_istore (lv' := [(4, .int (0 : Int32)), (3, .int r2), (2, .int (0 : Int32)), (0, .ref (ad 4)), (1, .ref (ad 2))]) hx hb dX1_changesInTurn_11 hl (by decide) rfl (fun ls hl => ?_)
  obtain ⟨y14, S15, h17, hf⟩ := b2_s hf
  refine L13 FU (0 : Int32) r2 (0 : Int32) S _ h17 (fun y14' S15' eK H locs ls hw hl => ?_) _ _ _ hw (lv_sub hl [3, 4, 2, 1, 0] rfl)
  cases eK
  refine lv_iload_n hx hb dX1_changesInTurn_102 rfl (lv_at hl 0 rfl) ?_
  obtain ⟨h16, hf⟩ := if_s hf
  exact hfin _ _ _ _ _ _ hw (s2a hf) (s2b hf) (bo_n h16) dX1_changesInTurn_103
/-- NineLands$Sums.settle(LNineLands$Book;)I -/
theorem dX1_settle_0 : decode cX1_settle 0 = .ok (.iconst 0, 1) := by decide +kernel
theorem dX1_settle_1 : decode cX1_settle 1 = .ok (.istore_n 2, 1) := by decide +kernel
theorem dX1_settle_2 : decode cX1_settle 2 = .ok (.iload_n 2, 1) := by decide +kernel
theorem dX1_settle_3 : decode cX1_settle 3 = .ok (.bipush 6, 2) := by decide +kernel
theorem dX1_settle_5 : decode cX1_settle 5 = .ok (.if_icmp .ge 32, 3) := by decide +kernel
theorem dX1_settle_8 : decode cX1_settle 8 = .ok (.aload_n 0, 1) := by decide +kernel
theorem dX1_settle_9 : decode cX1_settle 9 = .ok (.getfield 27, 3) := by decide +kernel
theorem dX1_settle_12 : decode cX1_settle 12 = .ok (.iload_n 2, 1) := by decide +kernel
theorem dX1_settle_13 : decode cX1_settle 13 = .ok (.aload_n 0, 1) := by decide +kernel
theorem dX1_settle_14 : decode cX1_settle 14 = .ok (.aload_n 1, 1) := by decide +kernel
theorem dX1_settle_15 : decode cX1_settle 15 = .ok (.getfield 89, 3) := by decide +kernel
theorem dX1_settle_18 : decode cX1_settle 18 = .ok (.iload_n 2, 1) := by decide +kernel
theorem dX1_settle_19 : decode cX1_settle 19 = .ok (.aaload, 1) := by decide +kernel
theorem dX1_settle_20 : decode cX1_settle 20 = .ok (.iload_n 2, 1) := by decide +kernel
theorem dX1_settle_21 : decode cX1_settle 21 = .ok (.aload_n 1, 1) := by decide +kernel
theorem dX1_settle_22 : decode cX1_settle 22 = .ok (.getfield 92, 3) := by decide +kernel
theorem dX1_settle_25 : decode cX1_settle 25 = .ok (.iload_n 2, 1) := by decide +kernel
theorem dX1_settle_26 : decode cX1_settle 26 = .ok (.iaload, 1) := by decide +kernel
theorem dX1_settle_27 : decode cX1_settle 27 = .ok (.invokevirtual 95, 3) := by decide +kernel
theorem dX1_settle_30 : decode cX1_settle 30 = .ok (.iastore, 1) := by decide +kernel
theorem dX1_settle_31 : decode cX1_settle 31 = .ok (.iinc 2 1, 3) := by decide +kernel
theorem dX1_settle_34 : decode cX1_settle 34 = .ok (.goto (-32), 3) := by decide +kernel
theorem dX1_settle_37 : decode cX1_settle 37 = .ok (.aload_n 0, 1) := by decide +kernel
theorem dX1_settle_38 : decode cX1_settle 38 = .ok (.getfield 30, 3) := by decide +kernel
theorem dX1_settle_41 : decode cX1_settle 41 = .ok (.iconst 0, 1) := by decide +kernel
theorem dX1_settle_42 : decode cX1_settle 42 = .ok (.invokestatic 57, 3) := by decide +kernel
theorem dX1_settle_45 : decode cX1_settle 45 = .ok (.aload_n 0, 1) := by decide +kernel
theorem dX1_settle_46 : decode cX1_settle 46 = .ok (.iconst 0, 1) := by decide +kernel
theorem dX1_settle_47 : decode cX1_settle 47 = .ok (.putfield 40, 3) := by decide +kernel
theorem dX1_settle_50 : decode cX1_settle 50 = .ok (.iconst 0, 1) := by decide +kernel
theorem dX1_settle_51 : decode cX1_settle 51 = .ok (.istore_n 2, 1) := by decide +kernel
theorem dX1_settle_52 : decode cX1_settle 52 = .ok (.iload_n 2, 1) := by decide +kernel
theorem dX1_settle_53 : decode cX1_settle 53 = .ok (.bipush 20, 2) := by decide +kernel
theorem dX1_settle_55 : decode cX1_settle 55 = .ok (.if_icmp .ge 33, 3) := by decide +kernel
theorem dX1_settle_58 : decode cX1_settle 58 = .ok (.aload_n 0, 1) := by decide +kernel
theorem dX1_settle_59 : decode cX1_settle 59 = .ok (.getfield 40, 3) := by decide +kernel
theorem dX1_settle_62 : decode cX1_settle 62 = .ok (.ifCond .ne 26, 3) := by decide +kernel
theorem dX1_settle_65 : decode cX1_settle 65 = .ok (.aload_n 0, 1) := by decide +kernel
theorem dX1_settle_66 : decode cX1_settle 66 = .ok (.aload_n 0, 1) := by decide +kernel
theorem dX1_settle_67 : decode cX1_settle 67 = .ok (.aload_n 1, 1) := by decide +kernel
theorem dX1_settle_68 : decode cX1_settle 68 = .ok (.invokevirtual 99, 3) := by decide +kernel
theorem dX1_settle_71 : decode cX1_settle 71 = .ok (.ifCond .ne 7, 3) := by decide +kernel
theorem dX1_settle_74 : decode cX1_settle 74 = .ok (.iconst 1, 1) := by decide +kernel
theorem dX1_settle_75 : decode cX1_settle 75 = .ok (.goto 4, 3) := by decide +kernel
theorem dX1_settle_78 : decode cX1_settle 78 = .ok (.iconst 0, 1) := by decide +kernel
theorem dX1_settle_79 : decode cX1_settle 79 = .ok (.putfield 40, 3) := by decide +kernel
theorem dX1_settle_82 : decode cX1_settle 82 = .ok (.iinc 2 1, 3) := by decide +kernel
theorem dX1_settle_85 : decode cX1_settle 85 = .ok (.goto (-33), 3) := by decide +kernel
theorem dX1_settle_88 : decode cX1_settle 88 = .ok (.aload_n 0, 1) := by decide +kernel
theorem dX1_settle_89 : decode cX1_settle 89 = .ok (.getfield 30, 3) := by decide +kernel
theorem dX1_settle_92 : decode cX1_settle 92 = .ok (.invokestatic 103, 3) := by decide +kernel
theorem dX1_settle_95 : decode cX1_settle 95 = .ok (.ireturn, 1) := by decide +kernel
theorem hd_X1_settle : yX1_settle.cls ≠ "java/lang/invoke/MethodHandle" ∧ yX1_settle.cls ≠ "java/lang/invoke/VarHandle" ∧ (parseMethodDescriptor yX1_settle.desc).map (fun d => d.parameters.length) = some 1 := by decide +kernel
def f_X1_settle_L2 : Nat → Int32 → vS → Option vS
  | 0, _, _ => none
  | n + 1, x2, S => if (6 : Int32) ≤ x2 then some S else if inb x2 6 = true then if inb x2 6 = true then b1 (f_X1_dueWhole (54 + x2.toNatClampNeg) x2 (S 23 (x2.toNatClampNeg)) S) fun r5 => lt (upk S 30 (upd (S 30) (x2.toNatClampNeg) r5)) fun S6 => (f_X1_settle_L2 n) (x2 + 1) S6 else none else none
def f_X1_settle_L52 : Nat → Int32 → vS → Option vS
  | 0, _, _ => none
  | n + 1, x2, S => if (20 : Int32) ≤ x2 then some S else if (S 0 16) = 0 then b2 (f_X1_changesInTurn  S) fun r15 S14 => if r15 = 0 then lt (upk S14 0 (upd (S14 0) 16 (1 : Int32))) fun S18 => (f_X1_settle_L52 n) (x2 + 1) S18 else lt (upk S14 0 (upd (S14 0) 16 (0 : Int32))) fun S17 => (f_X1_settle_L52 n) (x2 + 1) S17 else some S
def f_X1_settle  (S : vS) : Option (Int32 × vS) := b1 (f_X1_settle_L2 FU (0 : Int32) S) fun S7 => b1 (f_J7_fill_53178 31 (0 : Int32) S7) fun S9 => lt (upk S9 0 (upd (S9 0) 16 (0 : Int32))) fun S10 => b1 (f_X1_settle_L52 FU (0 : Int32) S10) fun S19 => b1 (f_X3_sumOf 31 S19) fun r21 => some (r21, S19)
set_option maxHeartbeats 4000000 in
set_option maxRecDepth 20000 in
theorem c_X1_settle (l : Launch) (D : va_G) (cI cO : ClassId) (ad : Nat → Nat)  (S : vS) (R9 : Int32) (S9 : vS) (hf : f_X1_settle  S = some (R9, S9)) : CI l yX1_settle cX1_settle 3 .int ({ frames := 4, cells := 0, slots := 0, locals := 91 }) [.ref (ad 4), .ref (ad 2)] D cI cO ad S R9 S9 := by
  refine CI.of (by decide +kernel) (Nat.le_of_ble_eq_true rfl) (fun p e s m args below meth c Q ls X hl hw hfin => ?_)
  have hl : lv_has ls 3 [(0, .ref (ad 4)), (1, .ref (ad 2))] := hl
  have hx := X.1
  have hb := X.2.1
  have L2 : ∀ (n : Nat) (x2 : Int32) (S : vS) (res : vS), f_X1_settle_L2 n x2 S = some res → (K : ∀  (S2 : vS), some S2 = some res → ∀ (H : Heap) (locs : List Loc) (ls : Array Slot), WD D cI cO ad s S2 H locs → lv_has ls 3 [(0, .ref (ad 4)), (1, .ref (ad 2))] → W p l e ({ frames := 4, cells := 0, slots := 0, locals := 91 }) s m args below meth c H locs 0 0 Q (F0 m 37 ls [])) → ∀ (H : Heap) (locs : List Loc) (ls : Array Slot), WD D cI cO ad s S H locs → lv_has ls 3 [(0, .ref (ad 4)), (1, .ref (ad 2)), (2, .int x2)] → W p l e ({ frames := 4, cells := 0, slots := 0, locals := 91 }) s m args below meth c H locs 0 0 Q (F0 m 2 ls []) := by
    intro n
    induction n with
    | zero => intro x2 S res hf; cases hf
    | succ n ih =>
      intro x2 S res hf K H locs ls hw hl
      unfold f_X1_settle_L2 at hf
      refine lv_iload_n hx hb dX1_settle_2 rfl (lv_at hl 2 rfl) ?_
      refine lv_bipush (v := 6) hx hb dX1_settle_3 (by decide +kernel) ?_
      refine lv_icmp_ge (tgt := 37) hx hb dX1_settle_5 (by decide) (fun c1 => ?_) (fun c1 => ?_)
      · replace hf := if_t c1 hf
        exact K S hf _ _ _ hw (lv_sub hl [0, 1] rfl)
      · replace hf := if_f c1 hf
        refine lv_aload_n hx hb dX1_settle_8 rfl (lv_at hl 0 rfl) ?_
        refine x_get X hw 4 (Nat.le_of_ble_eq_true rfl) ce4 rfl i_X1 5 (by decide) q152 ⟨rfl, rfl, rfl⟩ rfl dX1_settle_9 ?_
        refine lv_iload_n hx hb dX1_settle_12 rfl (lv_at hl 2 rfl) ?_
        refine lv_aload_n hx hb dX1_settle_13 rfl (lv_at hl 0 rfl) ?_
        refine lv_aload_n hx hb dX1_settle_14 rfl (lv_at hl 1 rfl) ?_
        refine x_getN X hw 2 (Nat.le_of_ble_eq_true rfl) ce2 rfl i_X0 1 (by decide) q117 ⟨rfl, rfl, rfl⟩ rfl dX1_settle_15 ?_
        refine lv_iload_n hx hb dX1_settle_18 rfl (lv_at hl 2 rfl) ?_
        obtain ⟨h2, hf⟩ := if_s hf
        refine x_aald X hw 7 (Nat.le_of_ble_eq_true rfl) ce7 h2 rfl dX1_settle_19 ?_
        refine lv_iload_n hx hb dX1_settle_20 rfl (lv_at hl 2 rfl) ?_
        refine lv_aload_n hx hb dX1_settle_21 rfl (lv_at hl 1 rfl) ?_
        refine x_getN X hw 2 (Nat.le_of_ble_eq_true rfl) ce2 rfl i_X0 2 (by decide) q120 ⟨rfl, rfl, rfl⟩ rfl dX1_settle_22 ?_
        refine lv_iload_n hx hb dX1_settle_25 rfl (lv_at hl 2 rfl) ?_
        obtain ⟨h3, hf⟩ := if_s hf
        refine x_iald X hw 23 ⟨Nat.le_of_ble_eq_true rfl, Nat.le_of_ble_eq_true rfl⟩ rfl h3 (x2.toNatClampNeg) rfl dX1_settle_26 ?_
        obtain ⟨r5, h4, hf⟩ := b1_s hf
        refine kVi X hw (c_X1_dueWhole l D cI cO ad (54 + x2.toNatClampNeg) x2 (S 23 (x2.toNatClampNeg)) S r5 h4) (Nat.le_of_ble_eq_true rfl) ce4 rfl ⟨rfl, rfl⟩ q431 q433 q19 q63 q434 hd_X1_dueWhole ⟨Nat.le_of_ble_eq_true rfl, Nat.le_of_ble_eq_true rfl⟩ rfl hl.1 rfl (Nat.le_of_ble_eq_true rfl) dX1_settle_27 (fun H locs hw => ?_)
        refine x_iast X hw 30 ⟨Nat.le_of_ble_eq_true rfl, Nat.le_of_ble_eq_true rfl⟩ rfl h3 (x2.toNatClampNeg) rfl dX1_settle_30 (fun S6 eS6 H locs hw => ?_)
        replace hf := lt_e eS6 hf
        refine lv_iinc (v := (x2 + 1)) (lv' := [(2, .int (x2 + 1)), (0, .ref (ad 4)), (1, .ref (ad 2))]) hx hb dX1_settle_31 hl (k := 2) rfl rfl (by decide) rfl (fun ls hl => ?_)
        refine lv_goto (tgt := 2) hx hb dX1_settle_34 (by decide) ?_
        exact ih (x2 + 1) S6 _ hf K _ _ _ hw (lv_sub hl [1, 2, 0] rfl)
  have L52 : ∀ (n : Nat) (x2 : Int32) (S : vS) (res : vS), f_X1_settle_L52 n x2 S = some res → (K : ∀  (S2 : vS), some S2 = some res → ∀ (H : Heap) (locs : List Loc) (ls : Array Slot), WD D cI cO ad s S2 H locs → lv_has ls 3 [(0, .ref (ad 4))] → W p l e ({ frames := 4, cells := 0, slots := 0, locals := 91 }) s m args below meth c H locs 0 0 Q (F0 m 88 ls [])) → ∀ (H : Heap) (locs : List Loc) (ls : Array Slot), WD D cI cO ad s S H locs → lv_has ls 3 [(0, .ref (ad 4)), (1, .ref (ad 2)), (2, .int x2)] → W p l e ({ frames := 4, cells := 0, slots := 0, locals := 91 }) s m args below meth c H locs 0 0 Q (F0 m 52 ls []) := by
    intro n
    induction n with
    | zero => intro x2 S res hf; cases hf
    | succ n ih =>
      intro x2 S res hf K H locs ls hw hl
      unfold f_X1_settle_L52 at hf
      refine lv_iload_n hx hb dX1_settle_52 rfl (lv_at hl 2 rfl) ?_
      refine lv_bipush (v := 20) hx hb dX1_settle_53 (by decide +kernel) ?_
      refine lv_icmp_ge (tgt := 88) hx hb dX1_settle_55 (by decide) (fun c11 => ?_) (fun c11 => ?_)
      · replace hf := if_t c11 hf
        exact K S hf _ _ _ hw (lv_sub hl [0] rfl)
      · replace hf := if_f c11 hf
        refine lv_aload_n hx hb dX1_settle_58 rfl (lv_at hl 0 rfl) ?_
        refine x_get X hw 4 (Nat.le_of_ble_eq_true rfl) ce4 rfl i_X1 9 (by decide) q159 ⟨rfl, rfl, rfl⟩ rfl dX1_settle_59 ?_
        refine lv_if_ne (tgt := 88) hx hb dX1_settle_62 (by decide) (fun c12 => ?_) (fun c12 => ?_)
        · replace hf := if_f c12 hf
          exact K S hf _ _ _ hw (lv_sub hl [0] rfl)
        · replace hf := if_t c12 hf
          refine lv_aload_n hx hb dX1_settle_65 rfl (lv_at hl 0 rfl) ?_
          refine lv_aload_n hx hb dX1_settle_66 rfl (lv_at hl 0 rfl) ?_
          refine lv_aload_n hx hb dX1_settle_67 rfl (lv_at hl 1 rfl) ?_
          obtain ⟨r15, S14, h13, hf⟩ := b2_s hf
          refine kVi X hw (c_X1_changesInTurn l D cI cO ad  S r15 S14 h13) (Nat.le_of_ble_eq_true rfl) ce4 rfl ⟨rfl, rfl⟩ q467 q469 q23 q63 q470 hd_X1_changesInTurn ⟨Nat.le_of_ble_eq_true rfl, Nat.le_of_ble_eq_true rfl⟩ rfl hl.1 rfl (Nat.le_of_ble_eq_true rfl) dX1_settle_68 (fun H locs hw => ?_)
          refine lv_if_ne (tgt := 78) hx hb dX1_settle_71 (by decide) (fun c16 => ?_) (fun c16 => ?_)
          · replace hf := if_f c16 hf
            refine lv_iconst (v := 0) hx hb dX1_settle_78 (by decide) ?_
            refine x_put X hw 4 (Nat.le_of_ble_eq_true rfl) ce4 rfl i_X1 tyX1_ok nmX1 9 (by decide) q159 ⟨rfl, rfl, rfl⟩ rfl pfZ rfl rfl (Nat.le_of_ble_eq_true rfl) 16 (ws_16 _) dX1_settle_79 (fun S17 eS17 H locs hw => ?_)
            replace hf := lt_e eS17 hf
            refine lv_iinc (v := (x2 + 1)) (lv' := [(2, .int (x2 + 1)), (0, .ref (ad 4)), (1, .ref (ad 2))]) hx hb dX1_settle_82 hl (k := 2) rfl rfl (by decide) rfl (fun ls hl => ?_)
            refine lv_goto (tgt := 52) hx hb dX1_settle_85 (by decide) ?_
            exact ih (x2 + 1) S17 _ hf K _ _ _ hw (lv_sub hl [1, 2, 0] rfl)
          · replace hf := if_t c16 hf
            refine lv_iconst (v := 1) hx hb dX1_settle_74 (by decide) ?_
            refine lv_goto (tgt := 79) hx hb dX1_settle_75 (by decide) ?_
            refine x_put X hw 4 (Nat.le_of_ble_eq_true rfl) ce4 rfl i_X1 tyX1_ok nmX1 9 (by decide) q159 ⟨rfl, rfl, rfl⟩ rfl pfZ rfl rfl (Nat.le_of_ble_eq_true rfl) 16 (ws_16 _) dX1_settle_79 (fun S18 eS18 H locs hw => ?_)
            replace hf := lt_e eS18 hf
            refine lv_iinc (v := (x2 + 1)) (lv' := [(2, .int (x2 + 1)), (0, .ref (ad 4)), (1, .ref (ad 2))]) hx hb dX1_settle_82 hl (k := 2) rfl rfl (by decide) rfl (fun ls hl => ?_)
            refine lv_goto (tgt := 52) hx hb dX1_settle_85 (by decide) ?_
            exact ih (x2 + 1) S18 _ hf K _ _ _ hw (lv_sub hl [1, 2, 0] rfl)
  unfold f_X1_settle at hf
  refine lv_iconst (v := 0) hx hb dX1_settle_0 (by decide) ?_
  refine lv_istore_n (lv' := [(2, .int (0 : Int32)), (0, .ref (ad 4)), (1, .ref (ad 2))]) hx hb dX1_settle_1 rfl hl (by decide) rfl (fun ls hl => ?_)
  obtain ⟨S7, h23, hf⟩ := b1_s hf
  refine L2 FU (0 : Int32) S _ h23 (fun S7' eK H locs ls hw hl => ?_) _ _ _ hw (lv_sub hl [1, 2, 0] rfl)
  cases eK
  refine lv_aload_n hx hb dX1_settle_37 rfl (lv_at hl 0 rfl) ?_
  refine x_get X hw 4 (Nat.le_of_ble_eq_true rfl) ce4 rfl i_X1 6 (by decide) q153 ⟨rfl, rfl, rfl⟩ rfl dX1_settle_38 ?_
  refine lv_iconst (v := 0) hx hb dX1_settle_41 (by decide) ?_
  obtain ⟨S9, h8, hf⟩ := b1_s hf
  refine kSv X hw (c_J7_fill_53178 l D cI cO ad 31 (0 : Int32) S7 S9 h8) ⟨rfl, rfl⟩ q373 q374 q71 q375 hd_J7_fill_53178 ⟨Nat.le_of_ble_eq_true rfl, Nat.le_of_ble_eq_true rfl⟩ rfl hl.1 rfl (Nat.le_of_ble_eq_true rfl) dX1_settle_42 (fun H locs hw => ?_)
  refine lv_aload_n hx hb dX1_settle_45 rfl (lv_at hl 0 rfl) ?_
  refine lv_iconst (v := 0) hx hb dX1_settle_46 (by decide) ?_
  refine x_put X hw 4 (Nat.le_of_ble_eq_true rfl) ce4 rfl i_X1 tyX1_ok nmX1 9 (by decide) q159 ⟨rfl, rfl, rfl⟩ rfl pfZ rfl rfl (Nat.le_of_ble_eq_true rfl) 16 (ws_16 _) dX1_settle_47 (fun S10 eS10 H locs hw => ?_)
  replace hf := lt_e eS10 hf
  refine lv_iconst (v := 0) hx hb dX1_settle_50 (by decide) ?_
  refine lv_istore_n (lv' := [(2, .int (0 : Int32)), (0, .ref (ad 4)), (1, .ref (ad 2))]) hx hb dX1_settle_51 rfl hl (by decide) rfl (fun ls hl => ?_)
  obtain ⟨S19, h22, hf⟩ := b1_s hf
  refine L52 FU (0 : Int32) S10 _ h22 (fun S19' eK H locs ls hw hl => ?_) _ _ _ hw (lv_sub hl [1, 2, 0] rfl)
  cases eK
  refine lv_aload_n hx hb dX1_settle_88 rfl (lv_at hl 0 rfl) ?_
  refine x_get X hw 4 (Nat.le_of_ble_eq_true rfl) ce4 rfl i_X1 6 (by decide) q153 ⟨rfl, rfl, rfl⟩ rfl dX1_settle_89 ?_
  obtain ⟨r21, h20, hf⟩ := b1_s hf
  refine kSNi X hw (c_X3_sumOf l D cI cO ad 31 S19 r21 h20) ⟨rfl, rfl⟩ q471 q472 q59 q473 hd_X3_sumOf ⟨Nat.le_of_ble_eq_true rfl, Nat.le_of_ble_eq_true rfl⟩ rfl hl.1 rfl (Nat.le_of_ble_eq_true rfl) dX1_settle_92 (fun H locs hw => ?_)
  exact hfin _ _ _ _ _ _ hw (s2a hf) (s2b hf) (narI _) dX1_settle_95
