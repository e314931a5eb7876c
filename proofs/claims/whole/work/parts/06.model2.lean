/-- NineLandsModel.putPay(II)I -/
theorem dX4_putPay_0 : decode cX4_putPay 0 = .ok (.aload_n 0, 1) := by decide +kernel
theorem dX4_putPay_1 : decode cX4_putPay 1 = .ok (.getfield 53, 3) := by decide +kernel
theorem dX4_putPay_4 : decode cX4_putPay 4 = .ok (.sipush 900, 3) := by decide +kernel
theorem dX4_putPay_7 : decode cX4_putPay 7 = .ok (.iload_n 1, 1) := by decide +kernel
theorem dX4_putPay_8 : decode cX4_putPay 8 = .ok (.imul, 1) := by decide +kernel
theorem dX4_putPay_9 : decode cX4_putPay 9 = .ok (.iload_n 2, 1) := by decide +kernel
theorem dX4_putPay_10 : decode cX4_putPay 10 = .ok (.iadd, 1) := by decide +kernel
theorem dX4_putPay_11 : decode cX4_putPay 11 = .ok (.iaload, 1) := by decide +kernel
theorem dX4_putPay_12 : decode cX4_putPay 12 = .ok (.ifCond .lt 16, 3) := by decide +kernel
theorem dX4_putPay_15 : decode cX4_putPay 15 = .ok (.aload_n 0, 1) := by decide +kernel
theorem dX4_putPay_16 : decode cX4_putPay 16 = .ok (.getfield 53, 3) := by decide +kernel
theorem dX4_putPay_19 : decode cX4_putPay 19 = .ok (.sipush 900, 3) := by decide +kernel
theorem dX4_putPay_22 : decode cX4_putPay 22 = .ok (.iload_n 1, 1) := by decide +kernel
theorem dX4_putPay_23 : decode cX4_putPay 23 = .ok (.imul, 1) := by decide +kernel
theorem dX4_putPay_24 : decode cX4_putPay 24 = .ok (.iload_n 2, 1) := by decide +kernel
theorem dX4_putPay_25 : decode cX4_putPay 25 = .ok (.iadd, 1) := by decide +kernel
theorem dX4_putPay_26 : decode cX4_putPay 26 = .ok (.iaload, 1) := by decide +kernel
theorem dX4_putPay_27 : decode cX4_putPay 27 = .ok (.ireturn, 1) := by decide +kernel
theorem dX4_putPay_28 : decode cX4_putPay 28 = .ok (.iconst 0, 1) := by decide +kernel
theorem dX4_putPay_29 : decode cX4_putPay 29 = .ok (.istore_n 3, 1) := by decide +kernel
theorem dX4_putPay_30 : decode cX4_putPay 30 = .ok (.iload_n 3, 1) := by decide +kernel
theorem dX4_putPay_31 : decode cX4_putPay 31 = .ok (.bipush 6, 2) := by decide +kernel
theorem dX4_putPay_33 : decode cX4_putPay 33 = .ok (.if_icmp .ge 52, 3) := by decide +kernel
theorem dX4_putPay_36 : decode cX4_putPay 36 = .ok (.aload_n 0, 1) := by decide +kernel
theorem dX4_putPay_37 : decode cX4_putPay 37 = .ok (.getfield 43, 3) := by decide +kernel
theorem dX4_putPay_40 : decode cX4_putPay 40 = .ok (.bipush 6, 2) := by decide +kernel
theorem dX4_putPay_42 : decode cX4_putPay 42 = .ok (.iload_n 1, 1) := by decide +kernel
theorem dX4_putPay_43 : decode cX4_putPay 43 = .ok (.imul, 1) := by decide +kernel
theorem dX4_putPay_44 : decode cX4_putPay 44 = .ok (.iload_n 3, 1) := by decide +kernel
theorem dX4_putPay_45 : decode cX4_putPay 45 = .ok (.iadd, 1) := by decide +kernel
theorem dX4_putPay_46 : decode cX4_putPay 46 = .ok (.iaload, 1) := by decide +kernel
theorem dX4_putPay_47 : decode cX4_putPay 47 = .ok (.iconst 1, 1) := by decide +kernel
theorem dX4_putPay_48 : decode cX4_putPay 48 = .ok (.if_icmp .ne 31, 3) := by decide +kernel
theorem dX4_putPay_51 : decode cX4_putPay 51 = .ok (.aload_n 0, 1) := by decide +kernel
theorem dX4_putPay_52 : decode cX4_putPay 52 = .ok (.getfield 53, 3) := by decide +kernel
theorem dX4_putPay_55 : decode cX4_putPay 55 = .ok (.sipush 900, 3) := by decide +kernel
theorem dX4_putPay_58 : decode cX4_putPay 58 = .ok (.iload_n 3, 1) := by decide +kernel
theorem dX4_putPay_59 : decode cX4_putPay 59 = .ok (.imul, 1) := by decide +kernel
theorem dX4_putPay_60 : decode cX4_putPay 60 = .ok (.iload_n 2, 1) := by decide +kernel
theorem dX4_putPay_61 : decode cX4_putPay 61 = .ok (.iadd, 1) := by decide +kernel
theorem dX4_putPay_62 : decode cX4_putPay 62 = .ok (.iaload, 1) := by decide +kernel
theorem dX4_putPay_63 : decode cX4_putPay 63 = .ok (.ifCond .lt 16, 3) := by decide +kernel
theorem dX4_putPay_66 : decode cX4_putPay 66 = .ok (.aload_n 0, 1) := by decide +kernel
theorem dX4_putPay_67 : decode cX4_putPay 67 = .ok (.getfield 53, 3) := by decide +kernel
theorem dX4_putPay_70 : decode cX4_putPay 70 = .ok (.sipush 900, 3) := by decide +kernel
theorem dX4_putPay_73 : decode cX4_putPay 73 = .ok (.iload_n 3, 1) := by decide +kernel
theorem dX4_putPay_74 : decode cX4_putPay 74 = .ok (.imul, 1) := by decide +kernel
theorem dX4_putPay_75 : decode cX4_putPay 75 = .ok (.iload_n 2, 1) := by decide +kernel
theorem dX4_putPay_76 : decode cX4_putPay 76 = .ok (.iadd, 1) := by decide +kernel
theorem dX4_putPay_77 : decode cX4_putPay 77 = .ok (.iaload, 1) := by decide +kernel
theorem dX4_putPay_78 : decode cX4_putPay 78 = .ok (.ireturn, 1) := by decide +kernel
theorem dX4_putPay_79 : decode cX4_putPay 79 = .ok (.iinc 3 1, 3) := by decide +kernel
theorem dX4_putPay_82 : decode cX4_putPay 82 = .ok (.goto (-52), 3) := by decide +kernel
theorem dX4_putPay_85 : decode cX4_putPay 85 = .ok (.iconst (-1), 1) := by decide +kernel
theorem dX4_putPay_86 : decode cX4_putPay 86 = .ok (.ireturn, 1) := by decide +kernel
theorem hd_X4_putPay : yX4_putPay.cls ≠ "java/lang/invoke/MethodHandle" ∧ yX4_putPay.cls ≠ "java/lang/invoke/VarHandle" ∧ (parseMethodDescriptor yX4_putPay.desc).map (fun d => d.parameters.length) = some 2 := by decide +kernel
def f_X4_putPay_L30 (S : vS) : Nat → Int32 → Int32 → Int32 →  Option (Unit ⊕ Int32)
  | 0, _, _, _ => none
  | n + 1, x1, x2, x3 => if (6 : Int32) ≤ x3 then some (.inl (())) else if inb (((6 : Int32) * x1) + x3) 36 = true then if (S 12 ((((6 : Int32) * x1) + x3).toNatClampNeg)) = (1 : Int32) then if inb (((900 : Int32) * x3) + x2) 5400 = true then if (S 14 ((((900 : Int32) * x3) + x2).toNatClampNeg)) < 0 then (f_X4_putPay_L30 S n) x1 x2 (x3 + 1) else some (.inr (S 14 ((((900 : Int32) * x3) + x2).toNatClampNeg))) else none else (f_X4_putPay_L30 S n) x1 x2 (x3 + 1) else none
def f_X4_putPay (a1 : Int32) (a2 : Int32) (S : vS) : Option Int32 := if inb (((900 : Int32) * a1) + a2) 5400 = true then if (S 14 ((((900 : Int32) * a1) + a2).toNatClampNeg)) < 0 then bS (f_X4_putPay_L30 S FU a1 a2 (0 : Int32)) some fun _ => some (-1 : Int32) else some (S 14 ((((900 : Int32) * a1) + a2).toNatClampNeg)) else none
set_option maxHeartbeats 4000000 in
set_option maxRecDepth 20000 in
theorem c_X4_putPay (l : Launch) (D : va_G) (cI cO : ClassId) (ad : Nat → Nat) (a1 : Int32) (a2 : Int32) (S : vS) (R9 : Int32) (hf : f_X4_putPay a1 a2 S = some R9) : CI l yX4_putPay cX4_putPay 4 .int ({ frames := 0, cells := 0, slots := 0, locals := 0 }) [.ref (ad 5), .int a1, .int a2] D cI cO ad S R9 S := by
  refine CI.of (by decide +kernel) (Nat.le_of_ble_eq_true rfl) (fun p e s m args below meth c Q ls X hl hw hfin => ?_)
  have hl : lv_has ls 4 [(0, .ref (ad 5)), (1, .int a1), (2, .int a2)] := hl
  have hx := X.1
  have hb := X.2.1
  have L30 : ∀ (n : Nat) (x1 : Int32) (x2 : Int32) (x3 : Int32) (res : (Unit ⊕ Int32)), f_X4_putPay_L30 S n x1 x2 x3 = some res → (K : some (Sum.inl (())) = some res → ∀ (H : Heap) (locs : List Loc) (ls : Array Slot), WD D cI cO ad s S H locs → lv_has ls 4 [] → W p l e ({ frames := 0, cells := 0, slots := 0, locals := 0 }) s m args below meth c H locs 0 0 Q (F0 m 85 ls [])) → (K2 : ∀ q : Int32, some (Sum.inr q) = some res → some q = some R9) → ∀ (H : Heap) (locs : List Loc) (ls : Array Slot), WD D cI cO ad s S H locs → lv_has ls 4 [(0, .ref (ad 5)), (1, .int x1), (2, .int x2), (3, .int x3)] → W p l e ({ frames := 0, cells := 0, slots := 0, locals := 0 }) s m args below meth c H locs 0 0 Q (F0 m 30 ls []) := by
    intro n
    induction n with
    | zero => intro x1 x2 x3 res hf; cases hf
    | succ n ih =>
      intro x1 x2 x3 res hf K K2 H locs ls hw hl
      unfold f_X4_putPay_L30 at hf
      refine lv_iload_n hx hb dX4_putPay_30 rfl (lv_at hl 3 rfl) ?_
      refine lv_bipush (v := 6) hx hb dX4_putPay_31 (by decide +kernel) ?_
      refine lv_icmp_ge (tgt := 85) hx hb dX4_putPay_33 (by decide) (fun c3 => ?_) (fun c3 => ?_)
      · replace hf := if_t c3 hf
        exact K  hf _ _ _ hw (lv_sub hl [] rfl)
      · replace hf := if_f c3 hf
        refine lv_aload_n hx hb dX4_putPay_36 rfl (lv_at hl 0 rfl) ?_
        refine x_get X hw 5 (Nat.le_of_ble_eq_true rfl) ce5 rfl i_X4 11 (by decide) q601 ⟨rfl, rfl, rfl⟩ rfl dX4_putPay_37 ?_
        refine lv_bipush (v := 6) hx hb dX4_putPay_40 (by decide +kernel) ?_
        refine lv_iload_n hx hb dX4_putPay_42 rfl (lv_at hl 1 rfl) ?_
        refine lv_imul hx hb dX4_putPay_43 ?_
        refine lv_iload_n hx hb dX4_putPay_44 rfl (lv_at hl 3 rfl) ?_
        refine lv_iadd hx hb dX4_putPay_45 ?_
        obtain ⟨h4, hf⟩ := if_s hf
        refine x_iald X hw 12 ⟨Nat.le_of_ble_eq_true rfl, Nat.le_of_ble_eq_true rfl⟩ rfl h4 ((((6 : Int32) * x1) + x3).toNatClampNeg) rfl dX4_putPay_46 ?_
        refine lv_iconst (v := 1) hx hb dX4_putPay_47 (by decide) ?_
        refine lv_icmp_ne (tgt := 79) hx hb dX4_putPay_48 (by decide) (fun c5 => ?_) (fun c5 => ?_)
        · replace hf := if_f c5 hf
          refine lv_iinc (v := (x3 + 1)) (lv' := [(3, .int (x3 + 1)), (0, .ref (ad 5)), (1, .int x1), (2, .int x2)]) hx hb dX4_putPay_79 hl (k := 3) rfl rfl (by decide) rfl (fun ls hl => ?_)
          refine lv_goto (tgt := 30) hx hb dX4_putPay_82 (by decide) ?_
          exact ih x1 x2 (x3 + 1) _ hf K K2 _ _ _ hw (lv_sub hl [1, 2, 3, 0] rfl)
        · replace hf := if_t c5 hf
          refine lv_aload_n hx hb dX4_putPay_51 rfl (lv_at hl 0 rfl) ?_
          refine x_get X hw 5 (Nat.le_of_ble_eq_true rfl) ce5 rfl i_X4 17 (by decide) q607 ⟨rfl, rfl, rfl⟩ rfl dX4_putPay_52 ?_
          refine lv_sipush (v := 900) hx hb dX4_putPay_55 (by decide +kernel) ?_
          refine lv_iload_n hx hb dX4_putPay_58 rfl (lv_at hl 3 rfl) ?_
          refine lv_imul hx hb dX4_putPay_59 ?_
          refine lv_iload_n hx hb dX4_putPay_60 rfl (lv_at hl 2 rfl) ?_
          refine lv_iadd hx hb dX4_putPay_61 ?_
          obtain ⟨h6, hf⟩ := if_s hf
          refine x_iald X hw 14 ⟨Nat.le_of_ble_eq_true rfl, Nat.le_of_ble_eq_true rfl⟩ rfl h6 ((((900 : Int32) * x3) + x2).toNatClampNeg) rfl dX4_putPay_62 ?_
          refine lv_if_lt (tgt := 79) hx hb dX4_putPay_63 (by decide) (fun c7 => ?_) (fun c7 => ?_)
          · replace hf := if_t c7 hf
            refine lv_iinc (v := (x3 + 1)) (lv' := [(3, .int (x3 + 1)), (0, .ref (ad 5)), (1, .int x1), (2, .int x2)]) hx hb dX4_putPay_79 hl (k := 3) rfl rfl (by decide) rfl (fun ls hl => ?_)
            refine lv_goto (tgt := 30) hx hb dX4_putPay_82 (by decide) ?_
            exact ih x1 x2 (x3 + 1) _ hf K K2 _ _ _ hw (lv_sub hl [1, 2, 3, 0] rfl)
          · replace hf := if_f c7 hf
            refine lv_aload_n hx hb dX4_putPay_66 rfl (lv_at hl 0 rfl) ?_
            refine x_get X hw 5 (Nat.le_of_ble_eq_true rfl) ce5 rfl i_X4 17 (by decide) q607 ⟨rfl, rfl, rfl⟩ rfl dX4_putPay_67 ?_
            refine lv_sipush (v := 900) hx hb dX4_putPay_70 (by decide +kernel) ?_
            refine lv_iload_n hx hb dX4_putPay_73 rfl (lv_at hl 3 rfl) ?_
            refine lv_imul hx hb dX4_putPay_74 ?_
            refine lv_iload_n hx hb dX4_putPay_75 rfl (lv_at hl 2 rfl) ?_
            refine lv_iadd hx hb dX4_putPay_76 ?_
            refine x_iald X hw 14 ⟨Nat.le_of_ble_eq_true rfl, Nat.le_of_ble_eq_true rfl⟩ rfl h6 ((((900 : Int32) * x3) + x2).toNatClampNeg) rfl dX4_putPay_77 ?_
            replace hf := K2 _ hf
            exact hfin _ _ _ _ _ _ hw (Option.some.inj hf) rfl (narI _) dX4_putPay_78
  unfold f_X4_putPay at hf
  refine lv_aload_n hx hb dX4_putPay_0 rfl (lv_at hl 0 rfl) ?_
  refine x_get X hw 5 (Nat.le_of_ble_eq_true rfl) ce5 rfl i_X4 17 (by decide) q607 ⟨rfl, rfl, rfl⟩ rfl dX4_putPay_1 ?_
  refine lv_sipush (v := 900) hx hb dX4_putPay_4 (by decide +kernel) ?_
  refine lv_iload_n hx hb dX4_putPay_7 rfl (lv_at hl 1 rfl) ?_
  refine lv_imul hx hb dX4_putPay_8 ?_
  refine lv_iload_n hx hb dX4_putPay_9 rfl (lv_at hl 2 rfl) ?_
  refine lv_iadd hx hb dX4_putPay_10 ?_
  obtain ⟨h1, hf⟩ := if_s hf
  refine x_iald X hw 14 ⟨Nat.le_of_ble_eq_true rfl, Nat.le_of_ble_eq_true rfl⟩ rfl h1 ((((900 : Int32) * a1) + a2).toNatClampNeg) rfl dX4_putPay_11 ?_
  refine lv_if_lt (tgt := 28) hx hb dX4_putPay_12 (by decide) (fun c2 => ?_) (fun c2 => ?_)
  · replace hf := if_t c2 hf
    refine lv_iconst (v := 0) hx hb dX4_putPay_28 (by decide) ?_
    refine lv_istore_n (lv' := [(3, .int (0 : Int32)), (0, .ref (ad 5)), (1, .int a1), (2, .int a2)]) hx hb dX4_putPay_29 rfl hl (by decide) rfl (fun ls hl => ?_)
    obtain ⟨res, h8, hk1, hk2⟩ := bS_x hf
    refine L30 FU a1 a2 (0 : Int32) res h8 (fun eK H locs ls hw hl => ?_) (fun q eK => hk2 q (Option.some.inj eK).symm) _ _ _ hw (lv_sub hl [1, 2, 3, 0] rfl)
    replace hf := hk1 _ (Option.some.inj eK).symm
    refine lv_iconst (v := -1) hx hb dX4_putPay_85 (by decide) ?_
    exact hfin _ _ _ _ _ _ hw (Option.some.inj hf) rfl (narI _) dX4_putPay_86
  · replace hf := if_f c2 hf
    refine lv_aload_n hx hb dX4_putPay_15 rfl (lv_at hl 0 rfl) ?_
    refine x_get X hw 5 (Nat.le_of_ble_eq_true rfl) ce5 rfl i_X4 17 (by decide) q607 ⟨rfl, rfl, rfl⟩ rfl dX4_putPay_16 ?_
    refine lv_sipush (v := 900) hx hb dX4_putPay_19 (by decide +kernel) ?_
    refine lv_iload_n hx hb dX4_putPay_22 rfl (lv_at hl 1 rfl) ?_
    refine lv_imul hx hb dX4_putPay_23 ?_
    refine lv_iload_n hx hb dX4_putPay_24 rfl (lv_at hl 2 rfl) ?_
    refine lv_iadd hx hb dX4_putPay_25 ?_
    refine x_iald X hw 14 ⟨Nat.le_of_ble_eq_true rfl, Nat.le_of_ble_eq_true rfl⟩ rfl h1 ((((900 : Int32) * a1) + a2).toNatClampNeg) rfl dX4_putPay_26 ?_
    exact hfin _ _ _ _ _ _ hw (Option.some.inj hf) rfl (narI _) dX4_putPay_27
/-- NineLandsModel.sums(I)V -/
theorem dX4_sums_0 : decode cX4_sums 0 = .ok (.aload_n 0, 1) := by decide +kernel
theorem dX4_sums_1 : decode cX4_sums 1 = .ok (.getfield 56, 3) := by decide +kernel
theorem dX4_sums_4 : decode cX4_sums 4 = .ok (.iload_n 1, 1) := by decide +kernel
theorem dX4_sums_5 : decode cX4_sums 5 = .ok (.iconst 0, 1) := by decide +kernel
theorem dX4_sums_6 : decode cX4_sums 6 = .ok (.iastore, 1) := by decide +kernel
theorem dX4_sums_7 : decode cX4_sums 7 = .ok (.aload_n 0, 1) := by decide +kernel
theorem dX4_sums_8 : decode cX4_sums 8 = .ok (.getfield 59, 3) := by decide +kernel
theorem dX4_sums_11 : decode cX4_sums 11 = .ok (.iload_n 1, 1) := by decide +kernel
theorem dX4_sums_12 : decode cX4_sums 12 = .ok (.iconst 0, 1) := by decide +kernel
theorem dX4_sums_13 : decode cX4_sums 13 = .ok (.iastore, 1) := by decide +kernel
theorem dX4_sums_14 : decode cX4_sums 14 = .ok (.aload_n 0, 1) := by decide +kernel
theorem dX4_sums_15 : decode cX4_sums 15 = .ok (.getfield 62, 3) := by decide +kernel
theorem dX4_sums_18 : decode cX4_sums 18 = .ok (.iload_n 1, 1) := by decide +kernel
theorem dX4_sums_19 : decode cX4_sums 19 = .ok (.iconst 0, 1) := by decide +kernel
theorem dX4_sums_20 : decode cX4_sums 20 = .ok (.iastore, 1) := by decide +kernel
theorem dX4_sums_21 : decode cX4_sums 21 = .ok (.aload_n 0, 1) := by decide +kernel
theorem dX4_sums_22 : decode cX4_sums 22 = .ok (.getfield 65, 3) := by decide +kernel
theorem dX4_sums_25 : decode cX4_sums 25 = .ok (.iload_n 1, 1) := by decide +kernel
theorem dX4_sums_26 : decode cX4_sums 26 = .ok (.iconst 0, 1) := by decide +kernel
theorem dX4_sums_27 : decode cX4_sums 27 = .ok (.iastore, 1) := by decide +kernel
theorem dX4_sums_28 : decode cX4_sums 28 = .ok (.iconst 0, 1) := by decide +kernel
theorem dX4_sums_29 : decode cX4_sums 29 = .ok (.istore_n 2, 1) := by decide +kernel
theorem dX4_sums_30 : decode cX4_sums 30 = .ok (.iload_n 2, 1) := by decide +kernel
theorem dX4_sums_31 : decode cX4_sums 31 = .ok (.sipush 900, 3) := by decide +kernel
theorem dX4_sums_34 : decode cX4_sums 34 = .ok (.if_icmp .ge 105, 3) := by decide +kernel
theorem dX4_sums_37 : decode cX4_sums 37 = .ok (.aload_n 0, 1) := by decide +kernel
theorem dX4_sums_38 : decode cX4_sums 38 = .ok (.getfield 53, 3) := by decide +kernel
theorem dX4_sums_41 : decode cX4_sums 41 = .ok (.sipush 900, 3) := by decide +kernel
theorem dX4_sums_44 : decode cX4_sums 44 = .ok (.iload_n 1, 1) := by decide +kernel
theorem dX4_sums_45 : decode cX4_sums 45 = .ok (.imul, 1) := by decide +kernel
theorem dX4_sums_46 : decode cX4_sums 46 = .ok (.iload_n 2, 1) := by decide +kernel
theorem dX4_sums_47 : decode cX4_sums 47 = .ok (.iadd, 1) := by decide +kernel
theorem dX4_sums_48 : decode cX4_sums 48 = .ok (.iaload, 1) := by decide +kernel
theorem dX4_sums_49 : decode cX4_sums 49 = .ok (.istore_n 3, 1) := by decide +kernel
theorem dX4_sums_50 : decode cX4_sums 50 = .ok (.aload_n 0, 1) := by decide +kernel
theorem dX4_sums_51 : decode cX4_sums 51 = .ok (.iload_n 1, 1) := by decide +kernel
theorem dX4_sums_52 : decode cX4_sums 52 = .ok (.iload_n 2, 1) := by decide +kernel
theorem dX4_sums_53 : decode cX4_sums 53 = .ok (.invokevirtual 130, 3) := by decide +kernel
theorem dX4_sums_56 : decode cX4_sums 56 = .ok (.istore 4, 2) := by decide +kernel
theorem dX4_sums_58 : decode cX4_sums 58 = .ok (.aload_n 0, 1) := by decide +kernel
theorem dX4_sums_59 : decode cX4_sums 59 = .ok (.getfield 56, 3) := by decide +kernel
theorem dX4_sums_62 : decode cX4_sums 62 = .ok (.iload_n 1, 1) := by decide +kernel
theorem dX4_sums_63 : decode cX4_sums 63 = .ok (.dup2, 1) := by decide +kernel
theorem dX4_sums_64 : decode cX4_sums 64 = .ok (.iaload, 1) := by decide +kernel
theorem dX4_sums_65 : decode cX4_sums 65 = .ok (.iload_n 3, 1) := by decide +kernel
theorem dX4_sums_66 : decode cX4_sums 66 = .ok (.ifCond .lt 7, 3) := by decide +kernel
theorem dX4_sums_69 : decode cX4_sums 69 = .ok (.iconst 1, 1) := by decide +kernel
theorem dX4_sums_70 : decode cX4_sums 70 = .ok (.goto 4, 3) := by decide +kernel
theorem dX4_sums_73 : decode cX4_sums 73 = .ok (.iconst 0, 1) := by decide +kernel
theorem dX4_sums_74 : decode cX4_sums 74 = .ok (.iadd, 1) := by decide +kernel
theorem dX4_sums_75 : decode cX4_sums 75 = .ok (.iastore, 1) := by decide +kernel
theorem dX4_sums_76 : decode cX4_sums 76 = .ok (.aload_n 0, 1) := by decide +kernel
theorem dX4_sums_77 : decode cX4_sums 77 = .ok (.getfield 59, 3) := by decide +kernel
theorem dX4_sums_80 : decode cX4_sums 80 = .ok (.iload_n 1, 1) := by decide +kernel
theorem dX4_sums_81 : decode cX4_sums 81 = .ok (.dup2, 1) := by decide +kernel
theorem dX4_sums_82 : decode cX4_sums 82 = .ok (.iaload, 1) := by decide +kernel
theorem dX4_sums_83 : decode cX4_sums 83 = .ok (.iload_n 3, 1) := by decide +kernel
theorem dX4_sums_84 : decode cX4_sums 84 = .ok (.ifCond .lt 7, 3) := by decide +kernel
theorem dX4_sums_87 : decode cX4_sums 87 = .ok (.iload_n 3, 1) := by decide +kernel
theorem dX4_sums_88 : decode cX4_sums 88 = .ok (.goto 4, 3) := by decide +kernel
theorem dX4_sums_91 : decode cX4_sums 91 = .ok (.iconst 0, 1) := by decide +kernel
theorem dX4_sums_92 : decode cX4_sums 92 = .ok (.iadd, 1) := by decide +kernel
theorem dX4_sums_93 : decode cX4_sums 93 = .ok (.iastore, 1) := by decide +kernel
theorem dX4_sums_94 : decode cX4_sums 94 = .ok (.aload_n 0, 1) := by decide +kernel
theorem dX4_sums_95 : decode cX4_sums 95 = .ok (.getfield 62, 3) := by decide +kernel
theorem dX4_sums_98 : decode cX4_sums 98 = .ok (.iload_n 1, 1) := by decide +kernel
theorem dX4_sums_99 : decode cX4_sums 99 = .ok (.dup2, 1) := by decide +kernel
theorem dX4_sums_100 : decode cX4_sums 100 = .ok (.iaload, 1) := by decide +kernel
theorem dX4_sums_101 : decode cX4_sums 101 = .ok (.iload 4, 2) := by decide +kernel
theorem dX4_sums_103 : decode cX4_sums 103 = .ok (.ifCond .lt 7, 3) := by decide +kernel
theorem dX4_sums_106 : decode cX4_sums 106 = .ok (.iconst 1, 1) := by decide +kernel
theorem dX4_sums_107 : decode cX4_sums 107 = .ok (.goto 4, 3) := by decide +kernel
theorem dX4_sums_110 : decode cX4_sums 110 = .ok (.iconst 0, 1) := by decide +kernel
theorem dX4_sums_111 : decode cX4_sums 111 = .ok (.iadd, 1) := by decide +kernel
theorem dX4_sums_112 : decode cX4_sums 112 = .ok (.iastore, 1) := by decide +kernel
theorem dX4_sums_113 : decode cX4_sums 113 = .ok (.aload_n 0, 1) := by decide +kernel
theorem dX4_sums_114 : decode cX4_sums 114 = .ok (.getfield 65, 3) := by decide +kernel
theorem dX4_sums_117 : decode cX4_sums 117 = .ok (.iload_n 1, 1) := by decide +kernel
theorem dX4_sums_118 : decode cX4_sums 118 = .ok (.dup2, 1) := by decide +kernel
theorem dX4_sums_119 : decode cX4_sums 119 = .ok (.iaload, 1) := by decide +kernel
theorem dX4_sums_120 : decode cX4_sums 120 = .ok (.iload 4, 2) := by decide +kernel
theorem dX4_sums_122 : decode cX4_sums 122 = .ok (.ifCond .lt 8, 3) := by decide +kernel
theorem dX4_sums_125 : decode cX4_sums 125 = .ok (.iload 4, 2) := by decide +kernel
theorem dX4_sums_127 : decode cX4_sums 127 = .ok (.goto 4, 3) := by decide +kernel
theorem dX4_sums_130 : decode cX4_sums 130 = .ok (.iconst 0, 1) := by decide +kernel
theorem dX4_sums_131 : decode cX4_sums 131 = .ok (.iadd, 1) := by decide +kernel
theorem dX4_sums_132 : decode cX4_sums 132 = .ok (.iastore, 1) := by decide +kernel
theorem dX4_sums_133 : decode cX4_sums 133 = .ok (.iinc 2 1, 3) := by decide +kernel
theorem dX4_sums_136 : decode cX4_sums 136 = .ok (.goto (-106), 3) := by decide +kernel
theorem dX4_sums_139 : decode cX4_sums 139 = .ok (.return_, 1) := by decide +kernel
theorem hd_X4_sums : yX4_sums.cls ≠ "java/lang/invoke/MethodHandle" ∧ yX4_sums.cls ≠ "java/lang/invoke/VarHandle" ∧ (parseMethodDescriptor yX4_sums.desc).map (fun d => d.parameters.length) = some 1 := by decide +kernel
def f_X4_sums_J111 (rc : Int32 → Int32 → vS → Option vS) (x1 : Int32) (x2 : Int32) (x4 : Int32) (k1 : Int32) (k2 : Int32) (k3 : Int32) (S : vS) : Option vS := if inb k1 6 = true then lt (upk S 17 (upd (S 17) (k1.toNatClampNeg) (k2 + k3))) fun S22 => if inb x1 6 = true then if x4 < 0 then lt (upk S22 18 (upd (S22 18) (x1.toNatClampNeg) ((S22 18 (x1.toNatClampNeg)) + (0 : Int32)))) fun S25 => rc x1 (x2 + 1) S25 else lt (upk S22 18 (upd (S22 18) (x1.toNatClampNeg) ((S22 18 (x1.toNatClampNeg)) + x4))) fun S26 => rc x1 (x2 + 1) S26 else none else none
def f_X4_sums_J92 (rc : Int32 → Int32 → vS → Option vS) (x1 : Int32) (x2 : Int32) (x4 : Int32) (k1 : Int32) (k2 : Int32) (k3 : Int32) (S : vS) : Option vS := if inb k1 6 = true then lt (upk S 16 (upd (S 16) (k1.toNatClampNeg) (k2 + k3))) fun S18 => if inb x1 6 = true then if x4 < 0 then f_X4_sums_J111 rc x1 x2 x4 x1 (S18 17 (x1.toNatClampNeg)) (0 : Int32) S18 else f_X4_sums_J111 rc x1 x2 x4 x1 (S18 17 (x1.toNatClampNeg)) (1 : Int32) S18 else none else none
def f_X4_sums_J74 (rc : Int32 → Int32 → vS → Option vS) (x1 : Int32) (x2 : Int32) (x3 : Int32) (x4 : Int32) (k1 : Int32) (k2 : Int32) (k3 : Int32) (S : vS) : Option vS := if inb k1 6 = true then lt (upk S 15 (upd (S 15) (k1.toNatClampNeg) (k2 + k3))) fun S14 => if inb x1 6 = true then if x3 < 0 then f_X4_sums_J92 rc x1 x2 x4 x1 (S14 16 (x1.toNatClampNeg)) (0 : Int32) S14 else f_X4_sums_J92 rc x1 x2 x4 x1 (S14 16 (x1.toNatClampNeg)) x3 S14 else none else none
def f_X4_sums_L30 : Nat → Int32 → Int32 → vS → Option vS
  | 0, _, _, _ => none
  | n + 1, x1, x2, S => if (900 : Int32) ≤ x2 then some S else if inb (((900 : Int32) * x1) + x2) 5400 = true then lt ((S 14 ((((900 : Int32) * x1) + x2).toNatClampNeg))) fun v8 => b1 (f_X4_putPay x1 x2 S) fun r10 => if inb x1 6 = true then if v8 < 0 then f_X4_sums_J74 (f_X4_sums_L30 n) x1 x2 v8 r10 x1 (S 15 (x1.toNatClampNeg)) (0 : Int32) S else f_X4_sums_J74 (f_X4_sums_L30 n) x1 x2 v8 r10 x1 (S 15 (x1.toNatClampNeg)) (1 : Int32) S else none else none
def f_X4_sums (a1 : Int32) (S : vS) : Option vS := if inb a1 6 = true then lt (upk S 15 (upd (S 15) (a1.toNatClampNeg) (0 : Int32))) fun S2 => lt (upk S2 16 (upd (S2 16) (a1.toNatClampNeg) (0 : Int32))) fun S3 => lt (upk S3 17 (upd (S3 17) (a1.toNatClampNeg) (0 : Int32))) fun S4 => lt (upk S4 18 (upd (S4 18) (a1.toNatClampNeg) (0 : Int32))) fun S5 => b1 (f_X4_sums_L30 FU a1 (0 : Int32) S5) fun S27 => some S27 else none
set_option maxHeartbeats 4000000 in
set_option maxRecDepth 20000 in
theorem c_X4_sums (l : Launch) (D : va_G) (cI cO : ClassId) (ad : Nat → Nat) (a1 : Int32) (S : vS) (S9 : vS) (hf : f_X4_sums a1 S = some S9) : CV l yX4_sums cX4_sums 5 ({ frames := 1, cells := 0, slots := 0, locals := 23 }) [.ref (ad 5), .int a1] D cI cO ad S S9 := by
  refine CV.of (r := 0) (by decide +kernel) (Nat.le_of_ble_eq_true rfl) (fun p e s m args below meth c Q ls X hl hw hfin => ?_)
  have hl : lv_has ls 5 [(0, .ref (ad 5)), (1, .int a1)] := hl
  have hx := X.1
  have hb := X.2.1
  have L30 : ∀ (n : Nat) (x1 : Int32) (x2 : Int32) (S : vS) (res : vS), f_X4_sums_L30 n x1 x2 S = some res → (K : ∀  (S2 : vS), some S2 = some res → ∀ (H : Heap) (locs : List Loc) (ls : Array Slot), WD D cI cO ad s S2 H locs → lv_has ls 5 [] → W p l e ({ frames := 1, cells := 0, slots := 0, locals := 23 }) s m args below meth c H locs 0 0 Q (F0 m 139 ls [])) → ∀ (H : Heap) (locs : List Loc) (ls : Array Slot), WD D cI cO ad s S H locs → lv_has ls 5 [(0, .ref (ad 5)), (1, .int x1), (2, .int x2)] → W p l e ({ frames := 1, cells := 0, slots := 0, locals := 23 }) s m args below meth c H locs 0 0 Q (F0 m 30 ls []) := by
    intro n
    induction n with
    | zero => intro x1 x2 S res hf; cases hf
    | succ n ih =>
      intro x1 x2 S res hf K H locs ls hw hl
      have J111 : ∀ (x1 : Int32) (x2 : Int32) (x4 : Int32) (k1 : Int32) (k2 : Int32) (k3 : Int32) (S : vS), f_X4_sums_J111 (f_X4_sums_L30 n) x1 x2 x4 k1 k2 k3 S = some res → ∀ (H : Heap) (locs : List Loc) (ls : Array Slot), WD D cI cO ad s S H locs → lv_has ls 5 [(0, .ref (ad 5)), (1, .int x1), (2, .int x2), (4, .int x4)] → W p l e ({ frames := 1, cells := 0, slots := 0, locals := 23 }) s m args below meth c H locs 0 0 Q (F0 m 111 ls [.int k3, .int k2, .int k1, .ref (ar ad 17)]) := by
        intro x1 x2 x4 k1 k2 k3 S hf H locs ls hw hl
        unfold f_X4_sums_J111 at hf
        refine lv_iadd hx hb dX4_sums_111 ?_
        obtain ⟨h21, hf⟩ := if_s hf
        refine x_iast X hw 17 ⟨Nat.le_of_ble_eq_true rfl, Nat.le_of_ble_eq_true rfl⟩ rfl h21 (k1.toNatClampNeg) rfl dX4_sums_112 (fun S22 eS22 H locs hw => ?_)
        replace hf := lt_e eS22 hf
        refine lv_aload_n hx hb dX4_sums_113 rfl (lv_at hl 0 rfl) ?_
        refine x_get X hw 5 (Nat.le_of_ble_eq_true rfl) ce5 rfl i_X4 21 (by decide) q611 ⟨rfl, rfl, rfl⟩ rfl dX4_sums_114 ?_
        refine lv_iload_n hx hb dX4_sums_117 rfl (lv_at hl 1 rfl) ?_
        refine lv_dup2_11 hx hb dX4_sums_118 rfl rfl ?_
        obtain ⟨h23, hf⟩ := if_s hf
        refine x_iald X hw 18 ⟨Nat.le_of_ble_eq_true rfl, Nat.le_of_ble_eq_true rfl⟩ rfl h23 (x1.toNatClampNeg) rfl dX4_sums_119 ?_
        refine lv_iload hx hb dX4_sums_120 (lv_at hl 3 rfl) ?_
        refine lv_if_lt (tgt := 130) hx hb dX4_sums_122 (by decide) (fun c24 => ?_) (fun c24 => ?_)
        · replace hf := if_t c24 hf
          refine lv_iconst (v := 0) hx hb dX4_sums_130 (by decide) ?_
          refine lv_iadd hx hb dX4_sums_131 ?_
          refine x_iast X hw 18 ⟨Nat.le_of_ble_eq_true rfl, Nat.le_of_ble_eq_true rfl⟩ rfl h23 (x1.toNatClampNeg) rfl dX4_sums_132 (fun S25 eS25 H locs hw => ?_)
          replace hf := lt_e eS25 hf
          refine lv_iinc (v := (x2 + 1)) (lv' := [(2, .int (x2 + 1)), (0, .ref (ad 5)), (1, .int x1), (4, .int x4)]) hx hb dX4_sums_133 hl (k := 2) rfl rfl (by decide) rfl (fun ls hl => ?_)
          refine lv_goto (tgt := 30) hx hb dX4_sums_136 (by decide) ?_
          exact ih x1 (x2 + 1) S25 _ hf K _ _ _ hw (lv_sub hl [1, 2, 0] rfl)
        · replace hf := if_f c24 hf
          refine lv_iload hx hb dX4_sums_125 (lv_at hl 3 rfl) ?_
          refine lv_goto (tgt := 131) hx hb dX4_sums_127 (by decide) ?_
          refine lv_iadd hx hb dX4_sums_131 ?_
          refine x_iast X hw 18 ⟨Nat.le_of_ble_eq_true rfl, Nat.le_of_ble_eq_true rfl⟩ rfl h23 (x1.toNatClampNeg) rfl dX4_sums_132 (fun S26 eS26 H locs hw => ?_)
          replace hf := lt_e eS26 hf
          refine lv_iinc (v := (x2 + 1)) (lv' := [(2, .int (x2 + 1)), (0, .ref (ad 5)), (1, .int x1), (4, .int x4)]) hx hb dX4_sums_133 hl (k := 2) rfl rfl (by decide) rfl (fun ls hl => ?_)
          refine lv_goto (tgt := 30) hx hb dX4_sums_136 (by decide) ?_
          exact ih x1 (x2 + 1) S26 _ hf K _ _ _ hw (lv_sub hl [1, 2, 0] rfl)
      have J92 : ∀ (x1 : Int32) (x2 : Int32) (x4 : Int32) (k1 : Int32) (k2 : Int32) (k3 : Int32) (S : vS), f_X4_sums_J92 (f_X4_sums_L30 n) x1 x2 x4 k1 k2 k3 S = some res → ∀ (H : Heap) (locs : List Loc) (ls : Array Slot), WD D cI cO ad s S H locs → lv_has ls 5 [(0, .ref (ad 5)), (1, .int x1), (2, .int x2), (4, .int x4)] → W p l e ({ frames := 1, cells := 0, slots := 0, locals := 23 }) s m args below meth c H locs 0 0 Q (F0 m 92 ls [.int k3, .int k2, .int k1, .ref (ar ad 16)]) := by
        intro x1 x2 x4 k1 k2 k3 S hf H locs ls hw hl
        unfold f_X4_sums_J92 at hf
        refine lv_iadd hx hb dX4_sums_92 ?_
        obtain ⟨h17, hf⟩ := if_s hf
        refine x_iast X hw 16 ⟨Nat.le_of_ble_eq_true rfl, Nat.le_of_ble_eq_true rfl⟩ rfl h17 (k1.toNatClampNeg) rfl dX4_sums_93 (fun S18 eS18 H locs hw => ?_)
        replace hf := lt_e eS18 hf
        refine lv_aload_n hx hb dX4_sums_94 rfl (lv_at hl 0 rfl) ?_
        refine x_get X hw 5 (Nat.le_of_ble_eq_true rfl) ce5 rfl i_X4 20 (by decide) q610 ⟨rfl, rfl, rfl⟩ rfl dX4_sums_95 ?_
        refine lv_iload_n hx hb dX4_sums_98 rfl (lv_at hl 1 rfl) ?_
        refine lv_dup2_11 hx hb dX4_sums_99 rfl rfl ?_
        obtain ⟨h19, hf⟩ := if_s hf
        refine x_iald X hw 17 ⟨Nat.le_of_ble_eq_true rfl, Nat.le_of_ble_eq_true rfl⟩ rfl h19 (x1.toNatClampNeg) rfl dX4_sums_100 ?_
        refine lv_iload hx hb dX4_sums_101 (lv_at hl 3 rfl) ?_
        refine lv_if_lt (tgt := 110) hx hb dX4_sums_103 (by decide) (fun c20 => ?_) (fun c20 => ?_)
        · replace hf := if_t c20 hf
          refine lv_iconst (v := 0) hx hb dX4_sums_110 (by decide) ?_
          exact J111 x1 x2 x4 x1 (S18 17 (x1.toNatClampNeg)) (0 : Int32) S18 hf _ _ _ hw hl
        · replace hf := if_f c20 hf
          refine lv_iconst (v := 1) hx hb dX4_sums_106 (by decide) ?_
          refine lv_goto (tgt := 111) hx hb dX4_sums_107 (by decide) ?_
          exact J111 x1 x2 x4 x1 (S18 17 (x1.toNatClampNeg)) (1 : Int32) S18 hf _ _ _ hw hl
      have J74 : ∀ (x1 : Int32) (x2 : Int32) (x3 : Int32) (x4 : Int32) (k1 : Int32) (k2 : Int32) (k3 : Int32) (S : vS), f_X4_sums_J74 (f_X4_sums_L30 n) x1 x2 x3 x4 k1 k2 k3 S = some res → ∀ (H : Heap) (locs : List Loc) (ls : Array Slot), WD D cI cO ad s S H locs → lv_has ls 5 [(0, .ref (ad 5)), (1, .int x1), (2, .int x2), (3, .int x3), (4, .int x4)] → W p l e ({ frames := 1, cells := 0, slots := 0, locals := 23 }) s m args below meth c H locs 0 0 Q (F0 m 74 ls [.int k3, .int k2, .int k1, .ref (ar ad 15)]) := by
        intro x1 x2 x3 x4 k1 k2 k3 S hf H locs ls hw hl
        unfold f_X4_sums_J74 at hf
        refine lv_iadd hx hb dX4_sums_74 ?_
        obtain ⟨h13, hf⟩ := if_s hf
        refine x_iast X hw 15 ⟨Nat.le_of_ble_eq_true rfl, Nat.le_of_ble_eq_true rfl⟩ rfl h13 (k1.toNatClampNeg) rfl dX4_sums_75 (fun S14 eS14 H locs hw => ?_)
        replace hf := lt_e eS14 hf
        refine lv_aload_n hx hb dX4_sums_76 rfl (lv_at hl 0 rfl) ?_
        refine x_get X hw 5 (Nat.le_of_ble_eq_true rfl) ce5 rfl i_X4 19 (by decide) q609 ⟨rfl, rfl, rfl⟩ rfl dX4_sums_77 ?_
        refine lv_iload_n hx hb dX4_sums_80 rfl (lv_at hl 1 rfl) ?_
        refine lv_dup2_11 hx hb dX4_sums_81 rfl rfl ?_
        obtain ⟨h15, hf⟩ := if_s hf
        refine x_iald X hw 16 ⟨Nat.le_of_ble_eq_true rfl, Nat.le_of_ble_eq_true rfl⟩ rfl h15 (x1.toNatClampNeg) rfl dX4_sums_82 ?_
        refine lv_iload_n hx hb dX4_sums_83 rfl (lv_at hl 3 rfl) ?_
        refine lv_if_lt (tgt := 91) hx hb dX4_sums_84 (by decide) (fun c16 => ?_) (fun c16 => ?_)
        · replace hf := if_t c16 hf
          refine lv_iconst (v := 0) hx hb dX4_sums_91 (by decide) ?_
          exact J92 x1 x2 x4 x1 (S14 16 (x1.toNatClampNeg)) (0 : Int32) S14 hf _ _ _ hw (lv_sub hl [0, 1, 2, 4] rfl)
        · replace hf := if_f c16 hf
          refine lv_iload_n hx hb dX4_sums_87 rfl (lv_at hl 3 rfl) ?_
          refine lv_goto (tgt := 92) hx hb dX4_sums_88 (by decide) ?_
          exact J92 x1 x2 x4 x1 (S14 16 (x1.toNatClampNeg)) x3 S14 hf _ _ _ hw (lv_sub hl [0, 1, 2, 4] rfl)
      unfold f_X4_sums_L30 at hf
      refine lv_iload_n hx hb dX4_sums_30 rfl (lv_at hl 2 rfl) ?_
      refine lv_sipush (v := 900) hx hb dX4_sums_31 (by decide +kernel) ?_
      refine lv_icmp_ge (tgt := 139) hx hb dX4_sums_34 (by decide) (fun c6 => ?_) (fun c6 => ?_)
      · replace hf := if_t c6 hf
        exact K S hf _ _ _ hw (lv_sub hl [] rfl)
      · replace hf := if_f c6 hf
        refine lv_aload_n hx hb dX4_sums_37 rfl (lv_at hl 0 rfl) ?_
        refine x_get X hw 5 (Nat.le_of_ble_eq_true rfl) ce5 rfl i_X4 17 (by decide) q607 ⟨rfl, rfl, rfl⟩ rfl dX4_sums_38 ?_
        refine lv_sipush (v := 900) hx hb dX4_sums_41 (by decide +kernel) ?_
        refine lv_iload_n hx hb dX4_sums_44 rfl (lv_at hl 1 rfl) ?_
        refine lv_imul hx hb dX4_sums_45 ?_
        refine lv_iload_n hx hb dX4_sums_46 rfl (lv_at hl 2 rfl) ?_
        refine lv_iadd hx hb dX4_sums_47 ?_
        obtain ⟨h7, hf⟩ := if_s hf
        refine x_iald X hw 14 ⟨Nat.le_of_ble_eq_true rfl, Nat.le_of_ble_eq_true rfl⟩ rfl h7 ((((900 : Int32) * x1) + x2).toNatClampNeg) rfl dX4_sums_48 ?_
        refine lv_topi (fun v8 ev8 => ?_)
        replace hf := lt_e ev8 hf
        refine lv_istore_n (lv' := [(3, .int v8), (0, .ref (ad 5)), (1, .int x1), (2, .int x2)]) hx hb dX4_sums_49 rfl hl (by decide) rfl (fun ls hl => ?_)
        refine lv_aload_n hx hb dX4_sums_50 rfl (lv_at hl 1 rfl) ?_
        refine lv_iload_n hx hb dX4_sums_51 rfl (lv_at hl 2 rfl) ?_
        refine lv_iload_n hx hb dX4_sums_52 rfl (lv_at hl 3 rfl) ?_
        obtain ⟨r10, h9, hf⟩ := b1_s hf
        refine kVi X hw (c_X4_putPay l D cI cO ad x1 x2 S r10 h9) (Nat.le_of_ble_eq_true rfl) ce5 rfl ⟨rfl, rfl⟩ q759 q761 q43 q64 q762 hd_X4_putPay ⟨Nat.le_of_ble_eq_true rfl, Nat.le_of_ble_eq_true rfl⟩ rfl hl.1 rfl (Nat.le_of_ble_eq_true rfl) dX4_sums_53 (fun H locs hw => ?_)
        refine lv_istore (lv' := [(4, .int r10), (3, .int v8), (0, .ref (ad 5)), (1, .int x1), (2, .int x2)]) hx hb dX4_sums_56 hl (by decide) rfl (fun ls hl => ?_)
        refine lv_aload_n hx hb dX4_sums_58 rfl (lv_at hl 2 rfl) ?_
        refine x_get X hw 5 (Nat.le_of_ble_eq_true rfl) ce5 rfl i_X4 18 (by decide) q608 ⟨rfl, rfl, rfl⟩ rfl dX4_sums_59 ?_
        refine lv_iload_n hx hb dX4_sums_62 rfl (lv_at hl 3 rfl) ?_
        refine lv_dup2_11 hx hb dX4_sums_63 rfl rfl ?_
        obtain ⟨h11, hf⟩ := if_s hf
        refine x_iald X hw 15 ⟨Nat.le_of_ble_eq_true rfl, Nat.le_of_ble_eq_true rfl⟩ rfl h11 (x1.toNatClampNeg) rfl dX4_sums_64 ?_
        refine lv_iload_n hx hb dX4_sums_65 rfl (lv_at hl 1 rfl) ?_
        refine lv_if_lt (tgt := 73) hx hb dX4_sums_66 (by decide) (fun c12 => ?_) (fun c12 => ?_)
        · replace hf := if_t c12 hf
          refine lv_iconst (v := 0) hx hb dX4_sums_73 (by decide) ?_
          exact J74 x1 x2 v8 r10 x1 (S 15 (x1.toNatClampNeg)) (0 : Int32) S hf _ _ _ hw (lv_sub hl [2, 3, 4, 1, 0] rfl)
        · replace hf := if_f c12 hf
          refine lv_iconst (v := 1) hx hb dX4_sums_69 (by decide) ?_
          refine lv_goto (tgt := 74) hx hb dX4_sums_70 (by decide) ?_
          exact J74 x1 x2 v8 r10 x1 (S 15 (x1.toNatClampNeg)) (1 : Int32) S hf _ _ _ hw (lv_sub hl [2, 3, 4, 1, 0] rfl)
  unfold f_X4_sums at hf
  refine lv_aload_n hx hb dX4_sums_0 rfl (lv_at hl 0 rfl) ?_
  refine x_get X hw 5 (Nat.le_of_ble_eq_true rfl) ce5 rfl i_X4 18 (by decide) q608 ⟨rfl, rfl, rfl⟩ rfl dX4_sums_1 ?_
  refine lv_iload_n hx hb dX4_sums_4 rfl (lv_at hl 1 rfl) ?_
  refine lv_iconst (v := 0) hx hb dX4_sums_5 (by decide) ?_
  obtain ⟨h1, hf⟩ := if_s hf
  refine x_iast X hw 15 ⟨Nat.le_of_ble_eq_true rfl, Nat.le_of_ble_eq_true rfl⟩ rfl h1 (a1.toNatClampNeg) rfl dX4_sums_6 (fun S2 eS2 H locs hw => ?_)
  replace hf := lt_e eS2 hf
  refine lv_aload_n hx hb dX4_sums_7 rfl (lv_at hl 0 rfl) ?_
  refine x_get X hw 5 (Nat.le_of_ble_eq_true rfl) ce5 rfl i_X4 19 (by decide) q609 ⟨rfl, rfl, rfl⟩ rfl dX4_sums_8 ?_
  refine lv_iload_n hx hb dX4_sums_11 rfl (lv_at hl 1 rfl) ?_
  refine lv_iconst (v := 0) hx hb dX4_sums_12 (by decide) ?_
  refine x_iast X hw 16 ⟨Nat.le_of_ble_eq_true rfl, Nat.le_of_ble_eq_true rfl⟩ rfl h1 (a1.toNatClampNeg) rfl dX4_sums_13 (fun S3 eS3 H locs hw => ?_)
  replace hf := lt_e eS3 hf
  refine lv_aload_n hx hb dX4_sums_14 rfl (lv_at hl 0 rfl) ?_
  refine x_get X hw 5 (Nat.le_of_ble_eq_true rfl) ce5 rfl i_X4 20 (by decide) q610 ⟨rfl, rfl, rfl⟩ rfl dX4_sums_15 ?_
  refine lv_iload_n hx hb dX4_sums_18 rfl (lv_at hl 1 rfl) ?_
  refine lv_iconst (v := 0) hx hb dX4_sums_19 (by decide) ?_
  refine x_iast X hw 17 ⟨Nat.le_of_ble_eq_true rfl, Nat.le_of_ble_eq_true rfl⟩ rfl h1 (a1.toNatClampNeg) rfl dX4_sums_20 (fun S4 eS4 H locs hw => ?_)
  replace hf := lt_e eS4 hf
  refine lv_aload_n hx hb dX4_sums_21 rfl (lv_at hl 0 rfl) ?_
  refine x_get X hw 5 (Nat.le_of_ble_eq_true rfl) ce5 rfl i_X4 21 (by decide) q611 ⟨rfl, rfl, rfl⟩ rfl dX4_sums_22 ?_
  refine lv_iload_n hx hb dX4_sums_25 rfl (lv_at hl 1 rfl) ?_
  refine lv_iconst (v := 0) hx hb dX4_sums_26 (by decide) ?_
  refine x_iast X hw 18 ⟨Nat.le_of_ble_eq_true rfl, Nat.le_of_ble_eq_true rfl⟩ rfl h1 (a1.toNatClampNeg) rfl dX4_sums_27 (fun S5 eS5 H locs hw => ?_)
  replace hf := lt_e eS5 hf
  refine lv_iconst (v := 0) hx hb dX4_sums_28 (by decide) ?_
  refine lv_istore_n (lv' := [(2, .int (0 : Int32)), (0, .ref (ad 5)), (1, .int a1)]) hx hb dX4_sums_29 rfl hl (by decide) rfl (fun ls hl => ?_)
  obtain ⟨S27, h28, hf⟩ := b1_s hf
  refine L30 FU a1 (0 : Int32) S5 _ h28 (fun S27' eK H locs ls hw hl => ?_) _ _ _ hw (lv_sub hl [1, 2, 0] rfl)
  cases eK
  exact hfin _ _ 0 _ _ _ hw rfl (Option.some.inj hf) dX4_sums_139
/-- NineLandsModel.findMonths(I)V -/
theorem dX4_findMonths_0 : decode cX4_findMonths 0 = .ok (.iconst 0, 1) := by decide +kernel
theorem dX4_findMonths_1 : decode cX4_findMonths 1 = .ok (.istore_n 2, 1) := by decide +kernel
theorem dX4_findMonths_2 : decode cX4_findMonths 2 = .ok (.iload_n 2, 1) := by decide +kernel
theorem dX4_findMonths_3 : decode cX4_findMonths 3 = .ok (.sipush 5400, 3) := by decide +kernel
theorem dX4_findMonths_6 : decode cX4_findMonths 6 = .ok (.if_icmp .ge 16, 3) := by decide +kernel
theorem dX4_findMonths_9 : decode cX4_findMonths 9 = .ok (.aload_n 0, 1) := by decide +kernel
theorem dX4_findMonths_10 : decode cX4_findMonths 10 = .ok (.getfield 53, 3) := by decide +kernel
theorem dX4_findMonths_13 : decode cX4_findMonths 13 = .ok (.iload_n 2, 1) := by decide +kernel
theorem dX4_findMonths_14 : decode cX4_findMonths 14 = .ok (.iconst (-1), 1) := by decide +kernel
theorem dX4_findMonths_15 : decode cX4_findMonths 15 = .ok (.iastore, 1) := by decide +kernel
theorem dX4_findMonths_16 : decode cX4_findMonths 16 = .ok (.iinc 2 1, 3) := by decide +kernel
theorem dX4_findMonths_19 : decode cX4_findMonths 19 = .ok (.goto (-17), 3) := by decide +kernel
theorem dX4_findMonths_22 : decode cX4_findMonths 22 = .ok (.iconst 0, 1) := by decide +kernel
theorem dX4_findMonths_23 : decode cX4_findMonths 23 = .ok (.istore_n 2, 1) := by decide +kernel
theorem dX4_findMonths_24 : decode cX4_findMonths 24 = .ok (.iload_n 2, 1) := by decide +kernel
theorem dX4_findMonths_25 : decode cX4_findMonths 25 = .ok (.iload_n 1, 1) := by decide +kernel
theorem dX4_findMonths_26 : decode cX4_findMonths 26 = .ok (.if_icmp .ge 128, 3) := by decide +kernel
theorem dX4_findMonths_29 : decode cX4_findMonths 29 = .ok (.iload_n 2, 1) := by decide +kernel
theorem dX4_findMonths_30 : decode cX4_findMonths 30 = .ok (.aload_n 0, 1) := by decide +kernel
theorem dX4_findMonths_31 : decode cX4_findMonths 31 = .ok (.getfield 49, 3) := by decide +kernel
theorem dX4_findMonths_34 : decode cX4_findMonths 34 = .ok (.if_icmp .eq 114, 3) := by decide +kernel
theorem dX4_findMonths_37 : decode cX4_findMonths 37 = .ok (.aload_n 0, 1) := by decide +kernel
theorem dX4_findMonths_38 : decode cX4_findMonths 38 = .ok (.getfield 34, 3) := by decide +kernel
theorem dX4_findMonths_41 : decode cX4_findMonths 41 = .ok (.iload_n 2, 1) := by decide +kernel
theorem dX4_findMonths_42 : decode cX4_findMonths 42 = .ok (.iaload, 1) := by decide +kernel
theorem dX4_findMonths_43 : decode cX4_findMonths 43 = .ok (.ifCond .eq 105, 3) := by decide +kernel
theorem dX4_findMonths_46 : decode cX4_findMonths 46 = .ok (.aload_n 0, 1) := by decide +kernel
theorem dX4_findMonths_47 : decode cX4_findMonths 47 = .ok (.getfield 31, 3) := by decide +kernel
theorem dX4_findMonths_50 : decode cX4_findMonths 50 = .ok (.iload_n 2, 1) := by decide +kernel
theorem dX4_findMonths_51 : decode cX4_findMonths 51 = .ok (.iaload, 1) := by decide +kernel
theorem dX4_findMonths_52 : decode cX4_findMonths 52 = .ok (.ifCond .eq 96, 3) := by decide +kernel
theorem dX4_findMonths_55 : decode cX4_findMonths 55 = .ok (.aload_n 0, 1) := by decide +kernel
theorem dX4_findMonths_56 : decode cX4_findMonths 56 = .ok (.aload_n 0, 1) := by decide +kernel
theorem dX4_findMonths_57 : decode cX4_findMonths 57 = .ok (.getfield 16, 3) := by decide +kernel
theorem dX4_findMonths_60 : decode cX4_findMonths 60 = .ok (.iload_n 2, 1) := by decide +kernel
theorem dX4_findMonths_61 : decode cX4_findMonths 61 = .ok (.iaload, 1) := by decide +kernel
theorem dX4_findMonths_62 : decode cX4_findMonths 62 = .ok (.bipush 8, 2) := by decide +kernel
theorem dX4_findMonths_64 : decode cX4_findMonths 64 = .ok (.invokevirtual 122, 3) := by decide +kernel
theorem dX4_findMonths_67 : decode cX4_findMonths 67 = .ok (.aload_n 0, 1) := by decide +kernel
theorem dX4_findMonths_68 : decode cX4_findMonths 68 = .ok (.getfield 19, 3) := by decide +kernel
theorem dX4_findMonths_71 : decode cX4_findMonths 71 = .ok (.iload_n 2, 1) := by decide +kernel
theorem dX4_findMonths_72 : decode cX4_findMonths 72 = .ok (.iaload, 1) := by decide +kernel
theorem dX4_findMonths_73 : decode cX4_findMonths 73 = .ok (.ishr, 1) := by decide +kernel
theorem dX4_findMonths_74 : decode cX4_findMonths 74 = .ok (.iconst 1, 1) := by decide +kernel
theorem dX4_findMonths_75 : decode cX4_findMonths 75 = .ok (.iand, 1) := by decide +kernel
theorem dX4_findMonths_76 : decode cX4_findMonths 76 = .ok (.ifCond .ne 6, 3) := by decide +kernel
theorem dX4_findMonths_79 : decode cX4_findMonths 79 = .ok (.goto 69, 3) := by decide +kernel
theorem dX4_findMonths_82 : decode cX4_findMonths 82 = .ok (.aload_n 0, 1) := by decide +kernel
theorem dX4_findMonths_83 : decode cX4_findMonths 83 = .ok (.getfield 22, 3) := by decide +kernel
theorem dX4_findMonths_86 : decode cX4_findMonths 86 = .ok (.iload_n 2, 1) := by decide +kernel
theorem dX4_findMonths_87 : decode cX4_findMonths 87 = .ok (.iaload, 1) := by decide +kernel
theorem dX4_findMonths_88 : decode cX4_findMonths 88 = .ok (.istore_n 3, 1) := by decide +kernel
theorem dX4_findMonths_89 : decode cX4_findMonths 89 = .ok (.iload_n 3, 1) := by decide +kernel
theorem dX4_findMonths_90 : decode cX4_findMonths 90 = .ok (.aload_n 0, 1) := by decide +kernel
theorem dX4_findMonths_91 : decode cX4_findMonths 91 = .ok (.getfield 25, 3) := by decide +kernel
theorem dX4_findMonths_94 : decode cX4_findMonths 94 = .ok (.iload_n 2, 1) := by decide +kernel
theorem dX4_findMonths_95 : decode cX4_findMonths 95 = .ok (.iaload, 1) := by decide +kernel
theorem dX4_findMonths_96 : decode cX4_findMonths 96 = .ok (.if_icmp .ge 52, 3) := by decide +kernel
theorem dX4_findMonths_99 : decode cX4_findMonths 99 = .ok (.sipush 900, 3) := by decide +kernel
theorem dX4_findMonths_102 : decode cX4_findMonths 102 = .ok (.aload_n 0, 1) := by decide +kernel
theorem dX4_findMonths_103 : decode cX4_findMonths 103 = .ok (.getfield 16, 3) := by decide +kernel
theorem dX4_findMonths_106 : decode cX4_findMonths 106 = .ok (.iload_n 2, 1) := by decide +kernel
theorem dX4_findMonths_107 : decode cX4_findMonths 107 = .ok (.iaload, 1) := by decide +kernel
theorem dX4_findMonths_108 : decode cX4_findMonths 108 = .ok (.imul, 1) := by decide +kernel
theorem dX4_findMonths_109 : decode cX4_findMonths 109 = .ok (.iload_n 3, 1) := by decide +kernel
theorem dX4_findMonths_110 : decode cX4_findMonths 110 = .ok (.iadd, 1) := by decide +kernel
theorem dX4_findMonths_111 : decode cX4_findMonths 111 = .ok (.istore 4, 2) := by decide +kernel
theorem dX4_findMonths_113 : decode cX4_findMonths 113 = .ok (.aload_n 0, 1) := by decide +kernel
theorem dX4_findMonths_114 : decode cX4_findMonths 114 = .ok (.getfield 28, 3) := by decide +kernel
theorem dX4_findMonths_117 : decode cX4_findMonths 117 = .ok (.iload_n 2, 1) := by decide +kernel
theorem dX4_findMonths_118 : decode cX4_findMonths 118 = .ok (.iaload, 1) := by decide +kernel
theorem dX4_findMonths_119 : decode cX4_findMonths 119 = .ok (.aload_n 0, 1) := by decide +kernel
theorem dX4_findMonths_120 : decode cX4_findMonths 120 = .ok (.getfield 53, 3) := by decide +kernel
theorem dX4_findMonths_123 : decode cX4_findMonths 123 = .ok (.iload 4, 2) := by decide +kernel
theorem dX4_findMonths_125 : decode cX4_findMonths 125 = .ok (.iaload, 1) := by decide +kernel
theorem dX4_findMonths_126 : decode cX4_findMonths 126 = .ok (.if_icmp .le 16, 3) := by decide +kernel
theorem dX4_findMonths_129 : decode cX4_findMonths 129 = .ok (.aload_n 0, 1) := by decide +kernel
theorem dX4_findMonths_130 : decode cX4_findMonths 130 = .ok (.getfield 53, 3) := by decide +kernel
theorem dX4_findMonths_133 : decode cX4_findMonths 133 = .ok (.iload 4, 2) := by decide +kernel
theorem dX4_findMonths_135 : decode cX4_findMonths 135 = .ok (.aload_n 0, 1) := by decide +kernel
theorem dX4_findMonths_136 : decode cX4_findMonths 136 = .ok (.getfield 28, 3) := by decide +kernel
theorem dX4_findMonths_139 : decode cX4_findMonths 139 = .ok (.iload_n 2, 1) := by decide +kernel
theorem dX4_findMonths_140 : decode cX4_findMonths 140 = .ok (.iaload, 1) := by decide +kernel
theorem dX4_findMonths_141 : decode cX4_findMonths 141 = .ok (.iastore, 1) := by decide +kernel
theorem dX4_findMonths_142 : decode cX4_findMonths 142 = .ok (.iinc 3 1, 3) := by decide +kernel
theorem dX4_findMonths_145 : decode cX4_findMonths 145 = .ok (.goto (-56), 3) := by decide +kernel
theorem dX4_findMonths_148 : decode cX4_findMonths 148 = .ok (.iinc 2 1, 3) := by decide +kernel
theorem dX4_findMonths_151 : decode cX4_findMonths 151 = .ok (.goto (-127), 3) := by decide +kernel
theorem dX4_findMonths_154 : decode cX4_findMonths 154 = .ok (.iconst 0, 1) := by decide +kernel
theorem dX4_findMonths_155 : decode cX4_findMonths 155 = .ok (.istore_n 2, 1) := by decide +kernel
theorem dX4_findMonths_156 : decode cX4_findMonths 156 = .ok (.iload_n 2, 1) := by decide +kernel
theorem dX4_findMonths_157 : decode cX4_findMonths 157 = .ok (.bipush 6, 2) := by decide +kernel
theorem dX4_findMonths_159 : decode cX4_findMonths 159 = .ok (.if_icmp .ge 14, 3) := by decide +kernel
theorem dX4_findMonths_162 : decode cX4_findMonths 162 = .ok (.aload_n 0, 1) := by decide +kernel
theorem dX4_findMonths_163 : decode cX4_findMonths 163 = .ok (.iload_n 2, 1) := by decide +kernel
theorem dX4_findMonths_164 : decode cX4_findMonths 164 = .ok (.invokevirtual 126, 3) := by decide +kernel
theorem dX4_findMonths_167 : decode cX4_findMonths 167 = .ok (.iinc 2 1, 3) := by decide +kernel
theorem dX4_findMonths_170 : decode cX4_findMonths 170 = .ok (.goto (-14), 3) := by decide +kernel
theorem dX4_findMonths_173 : decode cX4_findMonths 173 = .ok (.return_, 1) := by decide +kernel
theorem hd_X4_findMonths : yX4_findMonths.cls ≠ "java/lang/invoke/MethodHandle" ∧ yX4_findMonths.cls ≠ "java/lang/invoke/VarHandle" ∧ (parseMethodDescriptor yX4_findMonths.desc).map (fun d => d.parameters.length) = some 1 := by decide +kernel
def f_X4_findMonths_L2 : Nat → Int32 → Int32 → vS → Option vS
  | 0, _, _, _ => none
  | n + 1, x1, x2, S => if (5400 : Int32) ≤ x2 then some S else if inb x2 5400 = true then lt (upk S 14 (upd (S 14) (x2.toNatClampNeg) (-1 : Int32))) fun S3 => (f_X4_findMonths_L2 n) x1 (x2 + 1) S3 else none
def f_X4_findMonths_L89 : Nat → Int32 → Int32 → Int32 → vS → Option vS
  | 0, _, _, _, _ => none
  | n + 1, x1, x2, x3, S => if inb x2 21 = true then if (S 6 (x2.toNatClampNeg)) ≤ x3 then some S else lt ((((900 : Int32) * (S 3 (x2.toNatClampNeg))) + x3)) fun v15 => if inb v15 5400 = true then if (S 7 (x2.toNatClampNeg)) ≤ (S 14 (v15.toNatClampNeg)) then (f_X4_findMonths_L89 n) x1 x2 (x3 + 1) S else lt (upk S 14 (upd (S 14) (v15.toNatClampNeg) (S 7 (x2.toNatClampNeg)))) fun S18 => (f_X4_findMonths_L89 n) x1 x2 (x3 + 1) S18 else none else none
def f_X4_findMonths_L24 : Nat → Int32 → Int32 → vS → Option vS
  | 0, _, _, _ => none
  | n + 1, x1, x2, S => if x1 ≤ x2 then some S else if x2 = (S 0 3) then (f_X4_findMonths_L24 n) x1 (x2 + 1) S else if inb x2 21 = true then if (S 9 (x2.toNatClampNeg)) = 0 then (f_X4_findMonths_L24 n) x1 (x2 + 1) S else if (S 8 (x2.toNatClampNeg)) = 0 then (f_X4_findMonths_L24 n) x1 (x2 + 1) S else b1 (f_X4_lawOf (S 3 (x2.toNatClampNeg)) (8 : Int32) S) fun r11 => if ((r11 >>> ((S 4 (x2.toNatClampNeg)) &&& 31)) &&& (1 : Int32)) = 0 then (f_X4_findMonths_L24 n) x1 (x2 + 1) S else b1 (f_X4_findMonths_L89 FU x1 x2 (S 5 (x2.toNatClampNeg)) S) fun S19 => (f_X4_findMonths_L24 n) x1 (x2 + 1) S19 else none
def f_X4_findMonths_L156 : Nat → Int32 → vS → Option vS
  | 0, _, _ => none
  | n + 1, x2, S => if (6 : Int32) ≤ x2 then some S else b1 (f_X4_sums x2 S) fun S24 => (f_X4_findMonths_L156 n) (x2 + 1) S24
def f_X4_findMonths (a1 : Int32) (S : vS) : Option vS := b1 (f_X4_findMonths_L2 FU a1 (0 : Int32) S) fun S4 => b1 (f_X4_findMonths_L24 FU a1 (0 : Int32) S4) fun S21 => b1 (f_X4_findMonths_L156 FU (0 : Int32) S21) fun S25 => some S25
set_option maxHeartbeats 4000000 in
set_option maxRecDepth 20000 in
theorem c_X4_findMonths (l : Launch) (D : va_G) (cI cO : ClassId) (ad : Nat → Nat) (a1 : Int32) (S : vS) (S9 : vS) (hf : f_X4_findMonths a1 S = some S9) : CV l yX4_findMonths cX4_findMonths 5 ({ frames := 2, cells := 0, slots := 0, locals := 47 }) [.ref (ad 5), .int a1] D cI cO ad S S9 := by
  refine CV.of (r := 0) (by decide +kernel) (Nat.le_of_ble_eq_true rfl) (fun p e s m args below meth c Q ls X hl hw hfin => ?_)
  have hl : lv_has ls 5 [(0, .ref (ad 5)), (1, .int a1)] := hl
  have hx := X.1
  have hb := X.2.1
  have L2 : ∀ (n : Nat) (x1 : Int32) (x2 : Int32) (S : vS) (res : vS), f_X4_findMonths_L2 n x1 x2 S = some res → (K : ∀  (S2 : vS), some S2 = some res → ∀ (H : Heap) (locs : List Loc) (ls : Array Slot), WD D cI cO ad s S2 H locs → lv_has ls 5 [(0, .ref (ad 5)), (1, .int x1)] → W p l e ({ frames := 2, cells := 0, slots := 0, locals := 47 }) s m args below meth c H locs 0 0 Q (F0 m 22 ls [])) → ∀ (H : Heap) (locs : List Loc) (ls : Array Slot), WD D cI cO ad s S H locs → lv_has ls 5 [(0, .ref (ad 5)), (1, .int x1), (2, .int x2)] → W p l e ({ frames := 2, cells := 0, slots := 0, locals := 47 }) s m args below meth c H locs 0 0 Q (F0 m 2 ls []) := by
    intro n
    induction n with
    | zero => intro x1 x2 S res hf; cases hf
    | succ n ih =>
      intro x1 x2 S res hf K H locs ls hw hl
      unfold f_X4_findMonths_L2 at hf
      refine lv_iload_n hx hb dX4_findMonths_2 rfl (lv_at hl 2 rfl) ?_
      refine lv_sipush (v := 5400) hx hb dX4_findMonths_3 (by decide +kernel) ?_
      refine lv_icmp_ge (tgt := 22) hx hb dX4_findMonths_6 (by decide) (fun c1 => ?_) (fun c1 => ?_)
      · replace hf := if_t c1 hf
        exact K S hf _ _ _ hw (lv_sub hl [0, 1] rfl)
      · replace hf := if_f c1 hf
        refine lv_aload_n hx hb dX4_findMonths_9 rfl (lv_at hl 0 rfl) ?_
        refine x_get X hw 5 (Nat.le_of_ble_eq_true rfl) ce5 rfl i_X4 17 (by decide) q607 ⟨rfl, rfl, rfl⟩ rfl dX4_findMonths_10 ?_
        refine lv_iload_n hx hb dX4_findMonths_13 rfl (lv_at hl 2 rfl) ?_
        refine lv_iconst (v := -1) hx hb dX4_findMonths_14 (by decide) ?_
        obtain ⟨h2, hf⟩ := if_s hf
        refine x_iast X hw 14 ⟨Nat.le_of_ble_eq_true rfl, Nat.le_of_ble_eq_true rfl⟩ rfl h2 (x2.toNatClampNeg) rfl dX4_findMonths_15 (fun S3 eS3 H locs hw => ?_)
        replace hf := lt_e eS3 hf
        refine lv_iinc (v := (x2 + 1)) (lv' := [(2, .int (x2 + 1)), (0, .ref (ad 5)), (1, .int x1)]) hx hb dX4_findMonths_16 hl (k := 2) rfl rfl (by decide) rfl (fun ls hl => ?_)
        refine lv_goto (tgt := 2) hx hb dX4_findMonths_19 (by decide) ?_
        exact ih x1 (x2 + 1) S3 _ hf K _ _ _ hw (lv_sub hl [1, 2, 0] rfl)
  have L89 : ∀ (n : Nat) (x1 : Int32) (x2 : Int32) (x3 : Int32) (S : vS) (res : vS), f_X4_findMonths_L89 n x1 x2 x3 S = some res → (K : ∀  (S2 : vS), some S2 = some res → ∀ (H : Heap) (locs : List Loc) (ls : Array Slot), WD D cI cO ad s S2 H locs → lv_has ls 5 [(0, .ref (ad 5)), (1, .int x1), (2, .int x2)] → W p l e ({ frames := 2, cells := 0, slots := 0, locals := 47 }) s m args below meth c H locs 0 0 Q (F0 m 148 ls [])) → ∀ (H : Heap) (locs : List Loc) (ls : Array Slot), WD D cI cO ad s S H locs → lv_has ls 5 [(0, .ref (ad 5)), (1, .int x1), (2, .int x2), (3, .int x3)] → W p l e ({ frames := 2, cells := 0, slots := 0, locals := 47 }) s m args below meth c H locs 0 0 Q (F0 m 89 ls []) := by
    intro n
    induction n with
    | zero => intro x1 x2 x3 S res hf; cases hf
    | succ n ih =>
      intro x1 x2 x3 S res hf K H locs ls hw hl
      unfold f_X4_findMonths_L89 at hf
      refine lv_iload_n hx hb dX4_findMonths_89 rfl (lv_at hl 3 rfl) ?_
      refine lv_aload_n hx hb dX4_findMonths_90 rfl (lv_at hl 0 rfl) ?_
      refine x_get X hw 5 (Nat.le_of_ble_eq_true rfl) ce5 rfl i_X4 5 (by decide) q595 ⟨rfl, rfl, rfl⟩ rfl dX4_findMonths_91 ?_
      refine lv_iload_n hx hb dX4_findMonths_94 rfl (lv_at hl 2 rfl) ?_
      obtain ⟨h13, hf⟩ := if_s hf
      refine x_iald X hw 6 ⟨Nat.le_of_ble_eq_true rfl, Nat.le_of_ble_eq_true rfl⟩ rfl h13 (x2.toNatClampNeg) rfl dX4_findMonths_95 ?_
      refine lv_icmp_ge (tgt := 148) hx hb dX4_findMonths_96 (by decide) (fun c14 => ?_) (fun c14 => ?_)
      · replace hf := if_t c14 hf
        exact K S hf _ _ _ hw (lv_sub hl [0, 1, 2] rfl)
      · replace hf := if_f c14 hf
        refine lv_sipush (v := 900) hx hb dX4_findMonths_99 (by decide +kernel) ?_
        refine lv_aload_n hx hb dX4_findMonths_102 rfl (lv_at hl 0 rfl) ?_
        refine x_get X hw 5 (Nat.le_of_ble_eq_true rfl) ce5 rfl i_X4 2 (by decide) q592 ⟨rfl, rfl, rfl⟩ rfl dX4_findMonths_103 ?_
        refine lv_iload_n hx hb dX4_findMonths_106 rfl (lv_at hl 2 rfl) ?_
        refine x_iald X hw 3 ⟨Nat.le_of_ble_eq_true rfl, Nat.le_of_ble_eq_true rfl⟩ rfl h13 (x2.toNatClampNeg) rfl dX4_findMonths_107 ?_
        refine lv_imul hx hb dX4_findMonths_108 ?_
        refine lv_iload_n hx hb dX4_findMonths_109 rfl (lv_at hl 3 rfl) ?_
        refine lv_iadd hx hb dX4_findMonths_110 ?_
        refine lv_topi (fun v15 ev15 => ?_)
        replace hf := lt_e ev15 hf
        refine lv_istore (lv' := [(4, .int v15), (0, .ref (ad 5)), (1, .int x1), (2, .int x2), (3, .int x3)]) hx hb dX4_findMonths_111 hl (by decide) rfl (fun ls hl => ?_)
        refine lv_aload_n hx hb dX4_findMonths_113 rfl (lv_at hl 1 rfl) ?_
        refine x_get X hw 5 (Nat.le_of_ble_eq_true rfl) ce5 rfl i_X4 6 (by decide) q596 ⟨rfl, rfl, rfl⟩ rfl dX4_findMonths_114 ?_
        refine lv_iload_n hx hb dX4_findMonths_117 rfl (lv_at hl 3 rfl) ?_
        refine x_iald X hw 7 ⟨Nat.le_of_ble_eq_true rfl, Nat.le_of_ble_eq_true rfl⟩ rfl h13 (x2.toNatClampNeg) rfl dX4_findMonths_118 ?_
        refine lv_aload_n hx hb dX4_findMonths_119 rfl (lv_at hl 1 rfl) ?_
        refine x_get X hw 5 (Nat.le_of_ble_eq_true rfl) ce5 rfl i_X4 17 (by decide) q607 ⟨rfl, rfl, rfl⟩ rfl dX4_findMonths_120 ?_
        refine lv_iload hx hb dX4_findMonths_123 (lv_at hl 0 rfl) ?_
        obtain ⟨h16, hf⟩ := if_s hf
        refine x_iald X hw 14 ⟨Nat.le_of_ble_eq_true rfl, Nat.le_of_ble_eq_true rfl⟩ rfl h16 (v15.toNatClampNeg) rfl dX4_findMonths_125 ?_
        refine lv_icmp_le (tgt := 142) hx hb dX4_findMonths_126 (by decide) (fun c17 => ?_) (fun c17 => ?_)
        · replace hf := if_t c17 hf
          refine lv_iinc (v := (x3 + 1)) (lv' := [(3, .int (x3 + 1)), (4, .int v15), (0, .ref (ad 5)), (1, .int x1), (2, .int x2)]) hx hb dX4_findMonths_142 hl (k := 4) rfl rfl (by decide) rfl (fun ls hl => ?_)
          refine lv_goto (tgt := 89) hx hb dX4_findMonths_145 (by decide) ?_
          exact ih x1 x2 (x3 + 1) S _ hf K _ _ _ hw (lv_sub hl [2, 3, 4, 0] rfl)
        · replace hf := if_f c17 hf
          refine lv_aload_n hx hb dX4_findMonths_129 rfl (lv_at hl 1 rfl) ?_
          refine x_get X hw 5 (Nat.le_of_ble_eq_true rfl) ce5 rfl i_X4 17 (by decide) q607 ⟨rfl, rfl, rfl⟩ rfl dX4_findMonths_130 ?_
          refine lv_iload hx hb dX4_findMonths_133 (lv_at hl 0 rfl) ?_
          refine lv_aload_n hx hb dX4_findMonths_135 rfl (lv_at hl 1 rfl) ?_
          refine x_get X hw 5 (Nat.le_of_ble_eq_true rfl) ce5 rfl i_X4 6 (by decide) q596 ⟨rfl, rfl, rfl⟩ rfl dX4_findMonths_136 ?_
          refine lv_iload_n hx hb dX4_findMonths_139 rfl (lv_at hl 3 rfl) ?_
          refine x_iald X hw 7 ⟨Nat.le_of_ble_eq_true rfl, Nat.le_of_ble_eq_true rfl⟩ rfl h13 (x2.toNatClampNeg) rfl dX4_findMonths_140 ?_
          refine x_iast X hw 14 ⟨Nat.le_of_ble_eq_true rfl, Nat.le_of_ble_eq_true rfl⟩ rfl h16 (v15.toNatClampNeg) rfl dX4_findMonths_141 (fun S18 eS18 H locs hw => ?_)
          replace hf := lt_e eS18 hf
          refine lv_iinc (v := (x3 + 1)) (lv' := [(3, .int (x3 + 1)), (4, .int v15), (0, .ref (ad 5)), (1, .int x1), (2, .int x2)]) hx hb dX4_findMonths_142 hl (k := 4) rfl rfl (by decide) rfl (fun ls hl => ?_)
          refine lv_goto (tgt := 89) hx hb dX4_findMonths_145 (by decide) ?_
          exact ih x1 x2 (x3 + 1) S18 _ hf K _ _ _ hw (lv_sub hl [2, 3, 4, 0] rfl)
  have L24 : ∀ (n : Nat) (x1 : Int32) (x2 : Int32) (S : vS) (res : vS), f_X4_findMonths_L24 n x1 x2 S = some res → (K : ∀  (S2 : vS), some S2 = some res → ∀ (H : Heap) (locs : List Loc) (ls : Array Slot), WD D cI cO ad s S2 H locs → lv_has ls 5 [(0, .ref (ad 5))] → W p l e ({ frames := 2, cells := 0, slots := 0, locals := 47 }) s m args below meth c H locs 0 0 Q (F0 m 154 ls [])) → ∀ (H : Heap) (locs : List Loc) (ls : Array Slot), WD D cI cO ad s S H locs → lv_has ls 5 [(0, .ref (ad 5)), (1, .int x1), (2, .int x2)] → W p l e ({ frames := 2, cells := 0, slots := 0, locals := 47 }) s m args below meth c H locs 0 0 Q (F0 m 24 ls []) := by
    intro n
    induction n with
    | zero => intro x1 x2 S res hf; cases hf
    | succ n ih =>
      intro x1 x2 S res hf K H locs ls hw hl
      unfold f_X4_findMonths_L24 at hf
      refine lv_iload_n hx hb dX4_findMonths_24 rfl (lv_at hl 2 rfl) ?_
      refine lv_iload_n hx hb dX4_findMonths_25 rfl (lv_at hl 1 rfl) ?_
      refine lv_icmp_ge (tgt := 154) hx hb dX4_findMonths_26 (by decide) (fun c5 => ?_) (fun c5 => ?_)
      · replace hf := if_t c5 hf
        exact K S hf _ _ _ hw (lv_sub hl [0] rfl)
      · replace hf := if_f c5 hf
        refine lv_iload_n hx hb dX4_findMonths_29 rfl (lv_at hl 2 rfl) ?_
        refine lv_aload_n hx hb dX4_findMonths_30 rfl (lv_at hl 0 rfl) ?_
        refine x_get X hw 5 (Nat.le_of_ble_eq_true rfl) ce5 rfl i_X4 16 (by decide) q606 ⟨rfl, rfl, rfl⟩ rfl dX4_findMonths_31 ?_
        refine lv_icmp_eq (tgt := 148) hx hb dX4_findMonths_34 (by decide) (fun c6 => ?_) (fun c6 => ?_)
        · replace hf := if_t c6 hf
          refine lv_iinc (v := (x2 + 1)) (lv' := [(2, .int (x2 + 1)), (0, .ref (ad 5)), (1, .int x1)]) hx hb dX4_findMonths_148 hl (k := 2) rfl rfl (by decide) rfl (fun ls hl => ?_)
          refine lv_goto (tgt := 24) hx hb dX4_findMonths_151 (by decide) ?_
          exact ih x1 (x2 + 1) S _ hf K _ _ _ hw (lv_sub hl [1, 2, 0] rfl)
        · replace hf := if_f c6 hf
          refine lv_aload_n hx hb dX4_findMonths_37 rfl (lv_at hl 0 rfl) ?_
          refine x_get X hw 5 (Nat.le_of_ble_eq_true rfl) ce5 rfl i_X4 8 (by decide) q598 ⟨rfl, rfl, rfl⟩ rfl dX4_findMonths_38 ?_
          refine lv_iload_n hx hb dX4_findMonths_41 rfl (lv_at hl 2 rfl) ?_
          obtain ⟨h7, hf⟩ := if_s hf
          refine x_iald X hw 9 ⟨Nat.le_of_ble_eq_true rfl, Nat.le_of_ble_eq_true rfl⟩ rfl h7 (x2.toNatClampNeg) rfl dX4_findMonths_42 ?_
          refine lv_if_eq (tgt := 148) hx hb dX4_findMonths_43 (by decide) (fun c8 => ?_) (fun c8 => ?_)
          · replace hf := if_t c8 hf
            refine lv_iinc (v := (x2 + 1)) (lv' := [(2, .int (x2 + 1)), (0, .ref (ad 5)), (1, .int x1)]) hx hb dX4_findMonths_148 hl (k := 2) rfl rfl (by decide) rfl (fun ls hl => ?_)
            refine lv_goto (tgt := 24) hx hb dX4_findMonths_151 (by decide) ?_
            exact ih x1 (x2 + 1) S _ hf K _ _ _ hw (lv_sub hl [1, 2, 0] rfl)
          · replace hf := if_f c8 hf
            refine lv_aload_n hx hb dX4_findMonths_46 rfl (lv_at hl 0 rfl) ?_
            refine x_get X hw 5 (Nat.le_of_ble_eq_true rfl) ce5 rfl i_X4 7 (by decide) q597 ⟨rfl, rfl, rfl⟩ rfl dX4_findMonths_47 ?_
            refine lv_iload_n hx hb dX4_findMonths_50 rfl (lv_at hl 2 rfl) ?_
            refine x_iald X hw 8 ⟨Nat.le_of_ble_eq_true rfl, Nat.le_of_ble_eq_true rfl⟩ rfl h7 (x2.toNatClampNeg) rfl dX4_findMonths_51 ?_
            refine lv_if_eq (tgt := 148) hx hb dX4_findMonths_52 (by decide) (fun c9 => ?_) (fun c9 => ?_)
            · replace hf := if_t c9 hf
              refine lv_iinc (v := (x2 + 1)) (lv' := [(2, .int (x2 + 1)), (0, .ref (ad 5)), (1, .int x1)]) hx hb dX4_findMonths_148 hl (k := 2) rfl rfl (by decide) rfl (fun ls hl => ?_)
              refine lv_goto (tgt := 24) hx hb dX4_findMonths_151 (by decide) ?_
              exact ih x1 (x2 + 1) S _ hf K _ _ _ hw (lv_sub hl [1, 2, 0] rfl)
            · replace hf := if_f c9 hf
              refine lv_aload_n hx hb dX4_findMonths_55 rfl (lv_at hl 0 rfl) ?_
              refine lv_aload_n hx hb dX4_findMonths_56 rfl (lv_at hl 0 rfl) ?_
              refine x_get X hw 5 (Nat.le_of_ble_eq_true rfl) ce5 rfl i_X4 2 (by decide) q592 ⟨rfl, rfl, rfl⟩ rfl dX4_findMonths_57 ?_
              refine lv_iload_n hx hb dX4_findMonths_60 rfl (lv_at hl 2 rfl) ?_
              refine x_iald X hw 3 ⟨Nat.le_of_ble_eq_true rfl, Nat.le_of_ble_eq_true rfl⟩ rfl h7 (x2.toNatClampNeg) rfl dX4_findMonths_61 ?_
              refine lv_bipush (v := 8) hx hb dX4_findMonths_62 (by decide +kernel) ?_
              obtain ⟨r11, h10, hf⟩ := b1_s hf
              refine kVi X hw (c_X4_lawOf l D cI cO ad (S 3 (x2.toNatClampNeg)) (8 : Int32) S r11 h10) (Nat.le_of_ble_eq_true rfl) ce5 rfl ⟨rfl, rfl⟩ q751 q753 q41 q64 q754 hd_X4_lawOf ⟨Nat.le_of_ble_eq_true rfl, Nat.le_of_ble_eq_true rfl⟩ rfl hl.1 rfl (Nat.le_of_ble_eq_true rfl) dX4_findMonths_64 (fun H locs hw => ?_)
              refine lv_aload_n hx hb dX4_findMonths_67 rfl (lv_at hl 0 rfl) ?_
              refine x_get X hw 5 (Nat.le_of_ble_eq_true rfl) ce5 rfl i_X4 3 (by decide) q593 ⟨rfl, rfl, rfl⟩ rfl dX4_findMonths_68 ?_
              refine lv_iload_n hx hb dX4_findMonths_71 rfl (lv_at hl 2 rfl) ?_
              refine x_iald X hw 4 ⟨Nat.le_of_ble_eq_true rfl, Nat.le_of_ble_eq_true rfl⟩ rfl h7 (x2.toNatClampNeg) rfl dX4_findMonths_72 ?_
              refine lv_ishr hx hb dX4_findMonths_73 ?_
              refine lv_iconst (v := 1) hx hb dX4_findMonths_74 (by decide) ?_
              refine lv_iand hx hb dX4_findMonths_75 ?_
              refine lv_if_ne (tgt := 82) hx hb dX4_findMonths_76 (by decide) (fun c12 => ?_) (fun c12 => ?_)
              · replace hf := if_f c12 hf
                refine lv_aload_n hx hb dX4_findMonths_82 rfl (lv_at hl 0 rfl) ?_
                refine x_get X hw 5 (Nat.le_of_ble_eq_true rfl) ce5 rfl i_X4 4 (by decide) q594 ⟨rfl, rfl, rfl⟩ rfl dX4_findMonths_83 ?_
                refine lv_iload_n hx hb dX4_findMonths_86 rfl (lv_at hl 2 rfl) ?_
                refine x_iald X hw 5 ⟨Nat.le_of_ble_eq_true rfl, Nat.le_of_ble_eq_true rfl⟩ rfl h7 (x2.toNatClampNeg) rfl dX4_findMonths_87 ?_
                refine lv_istore_n (lv' := [(3, .int (S 5 (x2.toNatClampNeg))), (0, .ref (ad 5)), (1, .int x1), (2, .int x2)]) hx hb dX4_findMonths_88 rfl hl (by decide) rfl (fun ls hl => ?_)
                obtain ⟨S19, h20, hf⟩ := b1_s hf
                refine L89 FU x1 x2 (S 5 (x2.toNatClampNeg)) S _ h20 (fun S19' eK H locs ls hw hl => ?_) _ _ _ hw (lv_sub hl [1, 2, 3, 0] rfl)
                cases eK
                refine lv_iinc (v := (x2 + 1)) (lv' := [(2, .int (x2 + 1)), (0, .ref (ad 5)), (1, .int x1)]) hx hb dX4_findMonths_148 hl (k := 2) rfl rfl (by decide) rfl (fun ls hl => ?_)
                refine lv_goto (tgt := 24) hx hb dX4_findMonths_151 (by decide) ?_
                exact ih x1 (x2 + 1) S19 _ hf K _ _ _ hw (lv_sub hl [1, 2, 0] rfl)
              · replace hf := if_t c12 hf
                refine lv_goto (tgt := 148) hx hb dX4_findMonths_79 (by decide) ?_
                refine lv_iinc (v := (x2 + 1)) (lv' := [(2, .int (x2 + 1)), (0, .ref (ad 5)), (1, .int x1)]) hx hb dX4_findMonths_148 hl (k := 2) rfl rfl (by decide) rfl (fun ls hl => ?_)
                refine lv_goto (tgt := 24) hx hb dX4_findMonths_151 (by decide) ?_
                exact ih x1 (x2 + 1) S _ hf K _ _ _ hw (lv_sub hl [1, 2, 0] rfl)
  have L156 : ∀ (n : Nat) (x2 : Int32) (S : vS) (res : vS), f_X4_findMonths_L156 n x2 S = some res → (K : ∀  (S2 : vS), some S2 = some res → ∀ (H : Heap) (locs : List Loc) (ls : Array Slot), WD D cI cO ad s S2 H locs → lv_has ls 5 [] → W p l e ({ frames := 2, cells := 0, slots := 0, locals := 47 }) s m args below meth c H locs 0 0 Q (F0 m 173 ls [])) → ∀ (H : Heap) (locs : List Loc) (ls : Array Slot), WD D cI cO ad s S H locs → lv_has ls 5 [(0, .ref (ad 5)), (2, .int x2)] → W p l e ({ frames := 2, cells := 0, slots := 0, locals := 47 }) s m args below meth c H locs 0 0 Q (F0 m 156 ls []) := by
    intro n
    induction n with
    | zero => intro x2 S res hf; cases hf
    | succ n ih =>
      intro x2 S res hf K H locs ls hw hl
      unfold f_X4_findMonths_L156 at hf
      refine lv_iload_n hx hb dX4_findMonths_156 rfl (lv_at hl 1 rfl) ?_
      refine lv_bipush (v := 6) hx hb dX4_findMonths_157 (by decide +kernel) ?_
      refine lv_icmp_ge (tgt := 173) hx hb dX4_findMonths_159 (by decide) (fun c22 => ?_) (fun c22 => ?_)
      · replace hf := if_t c22 hf
        exact K S hf _ _ _ hw (lv_sub hl [] rfl)
      · replace hf := if_f c22 hf
        refine lv_aload_n hx hb dX4_findMonths_162 rfl (lv_at hl 0 rfl) ?_
        refine lv_iload_n hx hb dX4_findMonths_163 rfl (lv_at hl 1 rfl) ?_
        obtain ⟨S24, h23, hf⟩ := b1_s hf
        refine kVv X hw (c_X4_sums l D cI cO ad x2 S S24 h23) (Nat.le_of_ble_eq_true rfl) ce5 rfl ⟨rfl, rfl⟩ q755 q757 q42 q64 q758 hd_X4_sums ⟨Nat.le_of_ble_eq_true rfl, Nat.le_of_ble_eq_true rfl⟩ rfl hl.1 rfl (Nat.le_of_ble_eq_true rfl) dX4_findMonths_164 (fun H locs hw => ?_)
        refine lv_iinc (v := (x2 + 1)) (lv' := [(2, .int (x2 + 1)), (0, .ref (ad 5))]) hx hb dX4_findMonths_167 hl (k := 1) rfl rfl (by decide) rfl (fun ls hl => ?_)
        refine lv_goto (tgt := 156) hx hb dX4_findMonths_170 (by decide) ?_
        exact ih (x2 + 1) S24 _ hf K _ _ _ hw (lv_sub hl [1, 0] rfl)
  unfold f_X4_findMonths at hf
  refine lv_iconst (v := 0) hx hb dX4_findMonths_0 (by decide) ?_
  refine lv_istore_n (lv' := [(2, .int (0 : Int32)), (0, .ref (ad 5)), (1, .int a1)]) hx hb dX4_findMonths_1 rfl hl (by decide) rfl (fun ls hl => ?_)
  obtain ⟨S4, h28, hf⟩ := b1_s hf
  refine L2 FU a1 (0 : Int32) S _ h28 (fun S4' eK H locs ls hw hl => ?_) _ _ _ hw (lv_sub hl [1, 2, 0] rfl)
  cases eK
  refine lv_iconst (v := 0) hx hb dX4_findMonths_22 (by decide) ?_
  refine lv_istore_n (lv' := [(2, .int (0 : Int32)), (0, .ref (ad 5)), (1, .int a1)]) hx hb dX4_findMonths_23 rfl hl (by decide) rfl (fun ls hl => ?_)
  obtain ⟨S21, h27, hf⟩ := b1_s hf
  refine L24 FU a1 (0 : Int32) S4 _ h27 (fun S21' eK H locs ls hw hl => ?_) _ _ _ hw (lv_sub hl [1, 2, 0] rfl)
  cases eK
  refine lv_iconst (v := 0) hx hb dX4_findMonths_154 (by decide) ?_
  refine lv_istore_n (lv' := [(2, .int (0 : Int32)), (0, .ref (ad 5))]) hx hb dX4_findMonths_155 rfl hl (by decide) rfl (fun ls hl => ?_)
  obtain ⟨S25, h26, hf⟩ := b1_s hf
  refine L156 FU (0 : Int32) S21 _ h26 (fun S25' eK H locs ls hw hl => ?_) _ _ _ hw (lv_sub hl [1, 0] rfl)
  cases eK
  exact hfin _ _ 0 _ _ _ hw rfl (Option.some.inj hf) dX4_findMonths_173
/-- NineLandsModel.counts(II)I -/
theorem dX4_counts_0 : decode cX4_counts 0 = .ok (.iload_n 1, 1) := by decide +kernel
theorem dX4_counts_1 : decode cX4_counts 1 = .ok (.invokestatic 105, 3) := by decide +kernel
theorem dX4_counts_4 : decode cX4_counts 4 = .ok (.ifCond .ne 9, 3) := by decide +kernel
theorem dX4_counts_7 : decode cX4_counts 7 = .ok (.aload_n 0, 1) := by decide +kernel
theorem dX4_counts_8 : decode cX4_counts 8 = .ok (.iconst (-1), 1) := by decide +kernel
theorem dX4_counts_9 : decode cX4_counts 9 = .ok (.invokevirtual 85, 3) := by decide +kernel
theorem dX4_counts_12 : decode cX4_counts 12 = .ok (.ireturn, 1) := by decide +kernel
theorem dX4_counts_13 : decode cX4_counts 13 = .ok (.iload_n 2, 1) := by decide +kernel
theorem dX4_counts_14 : decode cX4_counts 14 = .ok (.iconst 0, 1) := by decide +kernel
theorem dX4_counts_15 : decode cX4_counts 15 = .ok (.iconst 3, 1) := by decide +kernel
theorem dX4_counts_16 : decode cX4_counts 16 = .ok (.invokestatic 98, 3) := by decide +kernel
theorem dX4_counts_19 : decode cX4_counts 19 = .ok (.ifCond .ne 10, 3) := by decide +kernel
theorem dX4_counts_22 : decode cX4_counts 22 = .ok (.aload_n 0, 1) := by decide +kernel
theorem dX4_counts_23 : decode cX4_counts 23 = .ok (.bipush (-2), 2) := by decide +kernel
theorem dX4_counts_25 : decode cX4_counts 25 = .ok (.invokevirtual 85, 3) := by decide +kernel
theorem dX4_counts_28 : decode cX4_counts 28 = .ok (.ireturn, 1) := by decide +kernel
theorem dX4_counts_29 : decode cX4_counts 29 = .ok (.aload_n 0, 1) := by decide +kernel
theorem dX4_counts_30 : decode cX4_counts 30 = .ok (.aload_n 0, 1) := by decide +kernel
theorem dX4_counts_31 : decode cX4_counts 31 = .ok (.getfield 102, 3) := by decide +kernel
theorem dX4_counts_34 : decode cX4_counts 34 = .ok (.invokevirtual 133, 3) := by decide +kernel
theorem dX4_counts_37 : decode cX4_counts 37 = .ok (.iload_n 2, 1) := by decide +kernel
theorem dX4_counts_38 : decode cX4_counts 38 = .ok (.ifCond .ne 12, 3) := by decide +kernel
theorem dX4_counts_41 : decode cX4_counts 41 = .ok (.aload_n 0, 1) := by decide +kernel
theorem dX4_counts_42 : decode cX4_counts 42 = .ok (.getfield 56, 3) := by decide +kernel
theorem dX4_counts_45 : decode cX4_counts 45 = .ok (.iload_n 1, 1) := by decide +kernel
theorem dX4_counts_46 : decode cX4_counts 46 = .ok (.iaload, 1) := by decide +kernel
theorem dX4_counts_47 : decode cX4_counts 47 = .ok (.goto 37, 3) := by decide +kernel
theorem dX4_counts_50 : decode cX4_counts 50 = .ok (.iload_n 2, 1) := by decide +kernel
theorem dX4_counts_51 : decode cX4_counts 51 = .ok (.iconst 1, 1) := by decide +kernel
theorem dX4_counts_52 : decode cX4_counts 52 = .ok (.if_icmp .ne 12, 3) := by decide +kernel
theorem dX4_counts_55 : decode cX4_counts 55 = .ok (.aload_n 0, 1) := by decide +kernel
theorem dX4_counts_56 : decode cX4_counts 56 = .ok (.getfield 59, 3) := by decide +kernel
theorem dX4_counts_59 : decode cX4_counts 59 = .ok (.iload_n 1, 1) := by decide +kernel
theorem dX4_counts_60 : decode cX4_counts 60 = .ok (.iaload, 1) := by decide +kernel
theorem dX4_counts_61 : decode cX4_counts 61 = .ok (.goto 23, 3) := by decide +kernel
theorem dX4_counts_64 : decode cX4_counts 64 = .ok (.iload_n 2, 1) := by decide +kernel
theorem dX4_counts_65 : decode cX4_counts 65 = .ok (.iconst 2, 1) := by decide +kernel
theorem dX4_counts_66 : decode cX4_counts 66 = .ok (.if_icmp .ne 12, 3) := by decide +kernel
theorem dX4_counts_69 : decode cX4_counts 69 = .ok (.aload_n 0, 1) := by decide +kernel
theorem dX4_counts_70 : decode cX4_counts 70 = .ok (.getfield 62, 3) := by decide +kernel
theorem dX4_counts_73 : decode cX4_counts 73 = .ok (.iload_n 1, 1) := by decide +kernel
theorem dX4_counts_74 : decode cX4_counts 74 = .ok (.iaload, 1) := by decide +kernel
theorem dX4_counts_75 : decode cX4_counts 75 = .ok (.goto 9, 3) := by decide +kernel
theorem dX4_counts_78 : decode cX4_counts 78 = .ok (.aload_n 0, 1) := by decide +kernel
theorem dX4_counts_79 : decode cX4_counts 79 = .ok (.getfield 65, 3) := by decide +kernel
theorem dX4_counts_82 : decode cX4_counts 82 = .ok (.iload_n 1, 1) := by decide +kernel
theorem dX4_counts_83 : decode cX4_counts 83 = .ok (.iaload, 1) := by decide +kernel
theorem dX4_counts_84 : decode cX4_counts 84 = .ok (.ireturn, 1) := by decide +kernel
theorem hd_X4_counts : yX4_counts.cls ≠ "java/lang/invoke/MethodHandle" ∧ yX4_counts.cls ≠ "java/lang/invoke/VarHandle" ∧ (parseMethodDescriptor yX4_counts.desc).map (fun d => d.parameters.length) = some 2 := by decide +kernel
def f_X4_counts (a1 : Int32) (a2 : Int32) (S : vS) : Option (Int32 × vS) := b1 (f_X4_isLand a1 S) fun r2 => if r2 = 0 then b2 (f_X4_no (-1 : Int32) S) fun r21 S20 => some (r21, S20) else b1 (f_X4_isIn a2 (0 : Int32) (3 : Int32) S) fun r5 => if r5 = 0 then b2 (f_X4_no (-2 : Int32) S) fun r18 S17 => some (r18, S17) else b1 (f_X4_findMonths (S 0 2) S) fun S8 => if a2 = 0 then if inb a1 6 = true then some ((S8 15 (a1.toNatClampNeg)), S8) else none else if a2 = (1 : Int32) then if inb a1 6 = true then some ((S8 16 (a1.toNatClampNeg)), S8) else none else if a2 = (2 : Int32) then if inb a1 6 = true then some ((S8 17 (a1.toNatClampNeg)), S8) else none else if inb a1 6 = true then some ((S8 18 (a1.toNatClampNeg)), S8) else none
set_option maxHeartbeats 4000000 in
set_option maxRecDepth 20000 in
theorem c_X4_counts (l : Launch) (D : va_G) (cI cO : ClassId) (ad : Nat → Nat) (a1 : Int32) (a2 : Int32) (S : vS) (R9 : Int32) (S9 : vS) (hf : f_X4_counts a1 a2 S = some (R9, S9)) : CI l yX4_counts cX4_counts 3 .int ({ frames := 3, cells := 0, slots := 0, locals := 71 }) [.ref (ad 5), .int a1, .int a2] D cI cO ad S R9 S9 := by
  refine CI.of (by decide +kernel) (Nat.le_of_ble_eq_true rfl) (fun p e s m args below meth c Q ls X hl hw hfin => ?_)
  have hl : lv_has ls 3 [(0, .ref (ad 5)), (1, .int a1), (2, .int a2)] := hl
  have hx := X.1
  have hb := X.2.1
  unfold f_X4_counts at hf
  refine lv_iload_n hx hb dX4_counts_0 rfl (lv_at hl 1 rfl) ?_
  obtain ⟨r2, h1, hf⟩ := b1_s hf
  refine kSi X hw (c_X4_isLand l D cI cO ad a1 S r2 h1) ⟨rfl, rfl⟩ q705 q706 q64 q707 hd_X4_isLand ⟨Nat.le_of_ble_eq_true rfl, Nat.le_of_ble_eq_true rfl⟩ rfl hl.1 rfl (Nat.le_of_ble_eq_true rfl) dX4_counts_1 (fun H locs hw => ?_)
  refine lv_if_ne (tgt := 13) hx hb dX4_counts_4 (by decide) (fun c3 => ?_) (fun c3 => ?_)
  · replace hf := if_f c3 hf
    refine lv_iload_n hx hb dX4_counts_13 rfl (lv_at hl 2 rfl) ?_
    refine lv_iconst (v := 0) hx hb dX4_counts_14 (by decide) ?_
    refine lv_iconst (v := 3) hx hb dX4_counts_15 (by decide) ?_
    obtain ⟨r5, h4, hf⟩ := b1_s hf
    refine kSi X hw (c_X4_isIn l D cI cO ad a2 (0 : Int32) (3 : Int32) S r5 h4) ⟨rfl, rfl⟩ q712 q713 q64 q714 hd_X4_isIn ⟨Nat.le_of_ble_eq_true rfl, Nat.le_of_ble_eq_true rfl⟩ rfl hl.1 rfl (Nat.le_of_ble_eq_true rfl) dX4_counts_16 (fun H locs hw => ?_)
    refine lv_if_ne (tgt := 29) hx hb dX4_counts_19 (by decide) (fun c6 => ?_) (fun c6 => ?_)
    · replace hf := if_f c6 hf
      refine lv_aload_n hx hb dX4_counts_29 rfl (lv_at hl 0 rfl) ?_
      refine lv_aload_n hx hb dX4_counts_30 rfl (lv_at hl 0 rfl) ?_
      refine x_get X hw 5 (Nat.le_of_ble_eq_true rfl) ce5 rfl i_X4 15 (by decide) q605 ⟨rfl, rfl, rfl⟩ rfl dX4_counts_31 ?_
      obtain ⟨S8, h7, hf⟩ := b1_s hf
      refine kVv X hw (c_X4_findMonths l D cI cO ad (S 0 2) S S8 h7) (Nat.le_of_ble_eq_true rfl) ce5 rfl ⟨rfl, rfl⟩ q747 q749 q40 q64 q750 hd_X4_findMonths ⟨Nat.le_of_ble_eq_true rfl, Nat.le_of_ble_eq_true rfl⟩ rfl hl.1 rfl (Nat.le_of_ble_eq_true rfl) dX4_counts_34 (fun H locs hw => ?_)
      refine lv_iload_n hx hb dX4_counts_37 rfl (lv_at hl 2 rfl) ?_
      refine lv_if_ne (tgt := 50) hx hb dX4_counts_38 (by decide) (fun c9 => ?_) (fun c9 => ?_)
      · replace hf := if_f c9 hf
        refine lv_iload_n hx hb dX4_counts_50 rfl (lv_at hl 2 rfl) ?_
        refine lv_iconst (v := 1) hx hb dX4_counts_51 (by decide) ?_
        refine lv_icmp_ne (tgt := 64) hx hb dX4_counts_52 (by decide) (fun c10 => ?_) (fun c10 => ?_)
        · replace hf := if_f c10 hf
          refine lv_iload_n hx hb dX4_counts_64 rfl (lv_at hl 2 rfl) ?_
          refine lv_iconst (v := 2) hx hb dX4_counts_65 (by decide) ?_
          refine lv_icmp_ne (tgt := 78) hx hb dX4_counts_66 (by decide) (fun c11 => ?_) (fun c11 => ?_)
          · replace hf := if_f c11 hf
            refine lv_aload_n hx hb dX4_counts_78 rfl (lv_at hl 0 rfl) ?_
            refine x_get X hw 5 (Nat.le_of_ble_eq_true rfl) ce5 rfl i_X4 21 (by decide) q611 ⟨rfl, rfl, rfl⟩ rfl dX4_counts_79 ?_
            refine lv_iload_n hx hb dX4_counts_82 rfl (lv_at hl 1 rfl) ?_
            obtain ⟨h12, hf⟩ := if_s hf
            refine x_iald X hw 18 ⟨Nat.le_of_ble_eq_true rfl, Nat.le_of_ble_eq_true rfl⟩ rfl h12 (a1.toNatClampNeg) rfl dX4_counts_83 ?_
            exact hfin _ _ _ _ _ _ hw (s2a hf) (s2b hf) (narI _) dX4_counts_84
          · replace hf := if_t c11 hf
            refine lv_aload_n hx hb dX4_counts_69 rfl (lv_at hl 0 rfl) ?_
            refine x_get X hw 5 (Nat.le_of_ble_eq_true rfl) ce5 rfl i_X4 20 (by decide) q610 ⟨rfl, rfl, rfl⟩ rfl dX4_counts_70 ?_
            refine lv_iload_n hx hb dX4_counts_73 rfl (lv_at hl 1 rfl) ?_
            obtain ⟨h13, hf⟩ := if_s hf
            refine x_iald X hw 17 ⟨Nat.le_of_ble_eq_true rfl, Nat.le_of_ble_eq_true rfl⟩ rfl h13 (a1.toNatClampNeg) rfl dX4_counts_74 ?_
            refine lv_goto (tgt := 84) hx hb dX4_counts_75 (by decide) ?_
            exact hfin _ _ _ _ _ _ hw (s2a hf) (s2b hf) (narI _) dX4_counts_84
        · replace hf := if_t c10 hf
          refine lv_aload_n hx hb dX4_counts_55 rfl (lv_at hl 0 rfl) ?_
          refine x_get X hw 5 (Nat.le_of_ble_eq_true rfl) ce5 rfl i_X4 19 (by decide) q609 ⟨rfl, rfl, rfl⟩ rfl dX4_counts_56 ?_
          refine lv_iload_n hx hb dX4_counts_59 rfl (lv_at hl 1 rfl) ?_
          obtain ⟨h14, hf⟩ := if_s hf
          refine x_iald X hw 16 ⟨Nat.le_of_ble_eq_true rfl, Nat.le_of_ble_eq_true rfl⟩ rfl h14 (a1.toNatClampNeg) rfl dX4_counts_60 ?_
          refine lv_goto (tgt := 84) hx hb dX4_counts_61 (by decide) ?_
          exact hfin _ _ _ _ _ _ hw (s2a hf) (s2b hf) (narI _) dX4_counts_84
      · replace hf := if_t c9 hf
        refine lv_aload_n hx hb dX4_counts_41 rfl (lv_at hl 0 rfl) ?_
        refine x_get X hw 5 (Nat.le_of_ble_eq_true rfl) ce5 rfl i_X4 18 (by decide) q608 ⟨rfl, rfl, rfl⟩ rfl dX4_counts_42 ?_
        refine lv_iload_n hx hb dX4_counts_45 rfl (lv_at hl 1 rfl) ?_
        obtain ⟨h15, hf⟩ := if_s hf
        refine x_iald X hw 15 ⟨Nat.le_of_ble_eq_true rfl, Nat.le_of_ble_eq_true rfl⟩ rfl h15 (a1.toNatClampNeg) rfl dX4_counts_46 ?_
        refine lv_goto (tgt := 84) hx hb dX4_counts_47 (by decide) ?_
        exact hfin _ _ _ _ _ _ hw (s2a hf) (s2b hf) (narI _) dX4_counts_84
    · replace hf := if_t c6 hf
      refine lv_aload_n hx hb dX4_counts_22 rfl (lv_at hl 0 rfl) ?_
      refine lv_bipush (v := -2) hx hb dX4_counts_23 (by decide +kernel) ?_
      obtain ⟨r18, S17, h16, hf⟩ := b2_s hf
      refine kVi X hw (c_X4_no l D cI cO ad (-2 : Int32) S r18 S17 h16) (Nat.le_of_ble_eq_true rfl) ce5 rfl ⟨rfl, rfl⟩ q688 q690 q34 q64 q691 hd_X4_no ⟨Nat.le_of_ble_eq_true rfl, Nat.le_of_ble_eq_true rfl⟩ rfl hl.1 rfl (Nat.le_of_ble_eq_true rfl) dX4_counts_25 (fun H locs hw => ?_)
      exact hfin _ _ _ _ _ _ hw (s2a hf) (s2b hf) (narI _) dX4_counts_28
  · replace hf := if_t c3 hf
    refine lv_aload_n hx hb dX4_counts_7 rfl (lv_at hl 0 rfl) ?_
    refine lv_iconst (v := -1) hx hb dX4_counts_8 (by decide) ?_
    obtain ⟨r21, S20, h19, hf⟩ := b2_s hf
    refine kVi X hw (c_X4_no l D cI cO ad (-1 : Int32) S r21 S20 h19) (Nat.le_of_ble_eq_true rfl) ce5 rfl ⟨rfl, rfl⟩ q688 q690 q34 q64 q691 hd_X4_no ⟨Nat.le_of_ble_eq_true rfl, Nat.le_of_ble_eq_true rfl⟩ rfl hl.1 rfl (Nat.le_of_ble_eq_true rfl) dX4_counts_9 (fun H locs hw => ?_)
    exact hfin _ _ _ _ _ _ hw (s2a hf) (s2b hf) (narI _) dX4_counts_12
/-- NineLandsModel.month(II)I -/
theorem dX4_month_0 : decode cX4_month 0 = .ok (.iload_n 1, 1) := by decide +kernel
theorem dX4_month_1 : decode cX4_month 1 = .ok (.invokestatic 105, 3) := by decide +kernel
theorem dX4_month_4 : decode cX4_month 4 = .ok (.ifCond .ne 9, 3) := by decide +kernel
theorem dX4_month_7 : decode cX4_month 7 = .ok (.aload_n 0, 1) := by decide +kernel
theorem dX4_month_8 : decode cX4_month 8 = .ok (.iconst (-1), 1) := by decide +kernel
theorem dX4_month_9 : decode cX4_month 9 = .ok (.invokevirtual 85, 3) := by decide +kernel
theorem dX4_month_12 : decode cX4_month 12 = .ok (.ireturn, 1) := by decide +kernel
theorem dX4_month_13 : decode cX4_month 13 = .ok (.iload_n 2, 1) := by decide +kernel
theorem dX4_month_14 : decode cX4_month 14 = .ok (.iconst 0, 1) := by decide +kernel
theorem dX4_month_15 : decode cX4_month 15 = .ok (.sipush 899, 3) := by decide +kernel
theorem dX4_month_18 : decode cX4_month 18 = .ok (.invokestatic 78, 3) := by decide +kernel
theorem dX4_month_21 : decode cX4_month 21 = .ok (.istore_n 3, 1) := by decide +kernel
theorem dX4_month_22 : decode cX4_month 22 = .ok (.iload_n 3, 1) := by decide +kernel
theorem dX4_month_23 : decode cX4_month 23 = .ok (.ifCond .eq 9, 3) := by decide +kernel
theorem dX4_month_26 : decode cX4_month 26 = .ok (.aload_n 0, 1) := by decide +kernel
theorem dX4_month_27 : decode cX4_month 27 = .ok (.iload_n 3, 1) := by decide +kernel
theorem dX4_month_28 : decode cX4_month 28 = .ok (.invokevirtual 85, 3) := by decide +kernel
theorem dX4_month_31 : decode cX4_month 31 = .ok (.ireturn, 1) := by decide +kernel
theorem dX4_month_32 : decode cX4_month 32 = .ok (.aload_n 0, 1) := by decide +kernel
theorem dX4_month_33 : decode cX4_month 33 = .ok (.aload_n 0, 1) := by decide +kernel
theorem dX4_month_34 : decode cX4_month 34 = .ok (.getfield 102, 3) := by decide +kernel
theorem dX4_month_37 : decode cX4_month 37 = .ok (.invokevirtual 133, 3) := by decide +kernel
theorem dX4_month_40 : decode cX4_month 40 = .ok (.aload_n 0, 1) := by decide +kernel
theorem dX4_month_41 : decode cX4_month 41 = .ok (.getfield 53, 3) := by decide +kernel
theorem dX4_month_44 : decode cX4_month 44 = .ok (.sipush 900, 3) := by decide +kernel
theorem dX4_month_47 : decode cX4_month 47 = .ok (.iload_n 1, 1) := by decide +kernel
theorem dX4_month_48 : decode cX4_month 48 = .ok (.imul, 1) := by decide +kernel
theorem dX4_month_49 : decode cX4_month 49 = .ok (.iload_n 2, 1) := by decide +kernel
theorem dX4_month_50 : decode cX4_month 50 = .ok (.iadd, 1) := by decide +kernel
theorem dX4_month_51 : decode cX4_month 51 = .ok (.iaload, 1) := by decide +kernel
theorem dX4_month_52 : decode cX4_month 52 = .ok (.istore 4, 2) := by decide +kernel
theorem dX4_month_54 : decode cX4_month 54 = .ok (.iload 4, 2) := by decide +kernel
theorem dX4_month_56 : decode cX4_month 56 = .ok (.ifCond .ge 8, 3) := by decide +kernel
theorem dX4_month_59 : decode cX4_month 59 = .ok (.bipush (-9), 2) := by decide +kernel
theorem dX4_month_61 : decode cX4_month 61 = .ok (.goto 5, 3) := by decide +kernel
theorem dX4_month_64 : decode cX4_month 64 = .ok (.iload 4, 2) := by decide +kernel
theorem dX4_month_66 : decode cX4_month 66 = .ok (.ireturn, 1) := by decide +kernel
theorem hd_X4_month : yX4_month.cls ≠ "java/lang/invoke/MethodHandle" ∧ yX4_month.cls ≠ "java/lang/invoke/VarHandle" ∧ (parseMethodDescriptor yX4_month.desc).map (fun d => d.parameters.length) = some 2 := by decide +kernel
def f_X4_month (a1 : Int32) (a2 : Int32) (S : vS) : Option (Int32 × vS) := b1 (f_X4_isLand a1 S) fun r2 => if r2 = 0 then b2 (f_X4_no (-1 : Int32) S) fun r17 S16 => some (r17, S16) else b1 (f_X4_out a2 (0 : Int32) (899 : Int32) S) fun r5 => if r5 = 0 then b1 (f_X4_findMonths (S 0 2) S) fun S8 => if inb (((900 : Int32) * a1) + a2) 5400 = true then lt ((S8 14 ((((900 : Int32) * a1) + a2).toNatClampNeg))) fun v10 => if 0 ≤ v10 then some (v10, S8) else some ((-9 : Int32), S8) else none else b2 (f_X4_no r5 S) fun r14 S13 => some (r14, S13)
set_option maxHeartbeats 4000000 in
set_option maxRecDepth 20000 in
theorem c_X4_month (l : Launch) (D : va_G) (cI cO : ClassId) (ad : Nat → Nat) (a1 : Int32) (a2 : Int32) (S : vS) (R9 : Int32) (S9 : vS) (hf : f_X4_month a1 a2 S = some (R9, S9)) : CI l yX4_month cX4_month 5 .int ({ frames := 3, cells := 0, slots := 0, locals := 71 }) [.ref (ad 5), .int a1, .int a2] D cI cO ad S R9 S9 := by
  refine CI.of (by decide +kernel) (Nat.le_of_ble_eq_true rfl) (fun p e s m args below meth c Q ls X hl hw hfin => ?_)
  have hl : lv_has ls 5 [(0, .ref (ad 5)), (1, .int a1), (2, .int a2)] := hl
  have hx := X.1
  have hb := X.2.1
  unfold f_X4_month at hf
  refine lv_iload_n hx hb dX4_month_0 rfl (lv_at hl 1 rfl) ?_
  obtain ⟨r2, h1, hf⟩ := b1_s hf
  refine kSi X hw (c_X4_isLand l D cI cO ad a1 S r2 h1) ⟨rfl, rfl⟩ q705 q706 q64 q707 hd_X4_isLand ⟨Nat.le_of_ble_eq_true rfl, Nat.le_of_ble_eq_true rfl⟩ rfl hl.1 rfl (Nat.le_of_ble_eq_true rfl) dX4_month_1 (fun H locs hw => ?_)
  refine lv_if_ne (tgt := 13) hx hb dX4_month_4 (by decide) (fun c3 => ?_) (fun c3 => ?_)
  · replace hf := if_f c3 hf
    refine lv_iload_n hx hb dX4_month_13 rfl (lv_at hl 2 rfl) ?_
    refine lv_iconst (v := 0) hx hb dX4_month_14 (by decide) ?_
    refine lv_sipush (v := 899) hx hb dX4_month_15 (by decide +kernel) ?_
    obtain ⟨r5, h4, hf⟩ := b1_s hf
    refine kSi X hw (c_X4_out l D cI cO ad a2 (0 : Int32) (899 : Int32) S r5 h4) ⟨rfl, rfl⟩ q685 q686 q64 q687 hd_X4_out ⟨Nat.le_of_ble_eq_true rfl, Nat.le_of_ble_eq_true rfl⟩ rfl hl.1 rfl (Nat.le_of_ble_eq_true rfl) dX4_month_18 (fun H locs hw => ?_)
    refine lv_istore_n (lv' := [(3, .int r5), (0, .ref (ad 5)), (1, .int a1), (2, .int a2)]) hx hb dX4_month_21 rfl hl (by decide) rfl (fun ls hl => ?_)
    refine lv_iload_n hx hb dX4_month_22 rfl (lv_at hl 0 rfl) ?_
    refine lv_if_eq (tgt := 32) hx hb dX4_month_23 (by decide) (fun c6 => ?_) (fun c6 => ?_)
    · replace hf := if_t c6 hf
      refine lv_aload_n hx hb dX4_month_32 rfl (lv_at hl 1 rfl) ?_
      refine lv_aload_n hx hb dX4_month_33 rfl (lv_at hl 1 rfl) ?_
      refine x_get X hw 5 (Nat.le_of_ble_eq_true rfl) ce5 rfl i_X4 15 (by decide) q605 ⟨rfl, rfl, rfl⟩ rfl dX4_month_34 ?_
      obtain ⟨S8, h7, hf⟩ := b1_s hf
      refine kVv X hw (c_X4_findMonths l D cI cO ad (S 0 2) S S8 h7) (Nat.le_of_ble_eq_true rfl) ce5 rfl ⟨rfl, rfl⟩ q747 q749 q40 q64 q750 hd_X4_findMonths ⟨Nat.le_of_ble_eq_true rfl, Nat.le_of_ble_eq_true rfl⟩ rfl hl.1 rfl (Nat.le_of_ble_eq_true rfl) dX4_month_37 (fun H locs hw => ?_)
      refine lv_aload_n hx hb dX4_month_40 rfl (lv_at hl 1 rfl) ?_
      refine x_get X hw 5 (Nat.le_of_ble_eq_true rfl) ce5 rfl i_X4 17 (by decide) q607 ⟨rfl, rfl, rfl⟩ rfl dX4_month_41 ?_
      refine lv_sipush (v := 900) hx hb dX4_month_44 (by decide +kernel) ?_
      refine lv_iload_n hx hb dX4_month_47 rfl (lv_at hl 2 rfl) ?_
      refine lv_imul hx hb dX4_month_48 ?_
      refine lv_iload_n hx hb dX4_month_49 rfl (lv_at hl 3 rfl) ?_
      refine lv_iadd hx hb dX4_month_50 ?_
      obtain ⟨h9, hf⟩ := if_s hf
      refine x_iald X hw 14 ⟨Nat.le_of_ble_eq_true rfl, Nat.le_of_ble_eq_true rfl⟩ rfl h9 ((((900 : Int32) * a1) + a2).toNatClampNeg) rfl dX4_month_51 ?_
      refine lv_topi (fun v10 ev10 => ?_)
      replace hf := lt_e ev10 hf
      refine lv_istore (lv' := [(4, .int v10), (3, .int r5), (0, .ref (ad 5)), (1, .int a1), (2, .int a2)]) hx hb dX4_month_52 hl (by decide) rfl (fun ls hl => ?_)
      refine lv_iload hx hb dX4_month_54 (lv_at hl 0 rfl) ?_
      refine lv_if_ge (tgt := 64) hx hb dX4_month_56 (by decide) (fun c11 => ?_) (fun c11 => ?_)
      · replace hf := if_t c11 hf
        refine lv_iload hx hb dX4_month_64 (lv_at hl 0 rfl) ?_
        exact hfin _ _ _ _ _ _ hw (s2a hf) (s2b hf) (narI _) dX4_month_66
      · replace hf := if_f c11 hf
        refine lv_bipush (v := -9) hx hb dX4_month_59 (by decide +kernel) ?_
        refine lv_goto (tgt := 66) hx hb dX4_month_61 (by decide) ?_
        exact hfin _ _ _ _ _ _ hw (s2a hf) (s2b hf) (narI _) dX4_month_66
    · replace hf := if_f c6 hf
      refine lv_aload_n hx hb dX4_month_26 rfl (lv_at hl 1 rfl) ?_
      refine lv_iload_n hx hb dX4_month_27 rfl (lv_at hl 0 rfl) ?_
      obtain ⟨r14, S13, h12, hf⟩ := b2_s hf
      refine kVi X hw (c_X4_no l D cI cO ad r5 S r14 S13 h12) (Nat.le_of_ble_eq_true rfl) ce5 rfl ⟨rfl, rfl⟩ q688 q690 q34 q64 q691 hd_X4_no ⟨Nat.le_of_ble_eq_true rfl, Nat.le_of_ble_eq_true rfl⟩ rfl hl.1 rfl (Nat.le_of_ble_eq_true rfl) dX4_month_28 (fun H locs hw => ?_)
      exact hfin _ _ _ _ _ _ hw (s2a hf) (s2b hf) (narI _) dX4_month_31
  · replace hf := if_t c3 hf
    refine lv_aload_n hx hb dX4_month_7 rfl (lv_at hl 0 rfl) ?_
    refine lv_iconst (v := -1) hx hb dX4_month_8 (by decide) ?_
    obtain ⟨r17, S16, h15, hf⟩ := b2_s hf
    refine kVi X hw (c_X4_no l D cI cO ad (-1 : Int32) S r17 S16 h15) (Nat.le_of_ble_eq_true rfl) ce5 rfl ⟨rfl, rfl⟩ q688 q690 q34 q64 q691 hd_X4_no ⟨Nat.le_of_ble_eq_true rfl, Nat.le_of_ble_eq_true rfl⟩ rfl hl.1 rfl (Nat.le_of_ble_eq_true rfl) dX4_month_9 (fun H locs hw => ?_)
    exact hfin _ _ _ _ _ _ hw (s2a hf) (s2b hf) (narI _) dX4_month_12
/-- NineLandsModel.over(I)I -/
theorem dX4_over_0 : decode cX4_over 0 = .ok (.iload_n 1, 1) := by decide +kernel
theorem dX4_over_1 : decode cX4_over 1 = .ok (.iconst 0, 1) := by decide +kernel
theorem dX4_over_2 : decode cX4_over 2 = .ok (.iconst 1, 1) := by decide +kernel
theorem dX4_over_3 : decode cX4_over 3 = .ok (.invokestatic 98, 3) := by decide +kernel
theorem dX4_over_6 : decode cX4_over 6 = .ok (.ifCond .ne 10, 3) := by decide +kernel
theorem dX4_over_9 : decode cX4_over 9 = .ok (.aload_n 0, 1) := by decide +kernel
theorem dX4_over_10 : decode cX4_over 10 = .ok (.bipush (-2), 2) := by decide +kernel
theorem dX4_over_12 : decode cX4_over 12 = .ok (.invokevirtual 85, 3) := by decide +kernel
theorem dX4_over_15 : decode cX4_over 15 = .ok (.ireturn, 1) := by decide +kernel
theorem dX4_over_16 : decode cX4_over 16 = .ok (.iconst 0, 1) := by decide +kernel
theorem dX4_over_17 : decode cX4_over 17 = .ok (.istore_n 2, 1) := by decide +kernel
theorem dX4_over_18 : decode cX4_over 18 = .ok (.bipush (-9), 2) := by decide +kernel
theorem dX4_over_20 : decode cX4_over 20 = .ok (.istore_n 3, 1) := by decide +kernel
theorem dX4_over_21 : decode cX4_over 21 = .ok (.sipush 899, 3) := by decide +kernel
theorem dX4_over_24 : decode cX4_over 24 = .ok (.istore 4, 2) := by decide +kernel
theorem dX4_over_26 : decode cX4_over 26 = .ok (.iload 4, 2) := by decide +kernel
theorem dX4_over_28 : decode cX4_over 28 = .ok (.ifCond .lt 90, 3) := by decide +kernel
theorem dX4_over_31 : decode cX4_over 31 = .ok (.iconst 0, 1) := by decide +kernel
theorem dX4_over_32 : decode cX4_over 32 = .ok (.istore 5, 2) := by decide +kernel
theorem dX4_over_34 : decode cX4_over 34 = .ok (.iconst 0, 1) := by decide +kernel
theorem dX4_over_35 : decode cX4_over 35 = .ok (.istore 6, 2) := by decide +kernel
theorem dX4_over_37 : decode cX4_over 37 = .ok (.iload 6, 2) := by decide +kernel
theorem dX4_over_39 : decode cX4_over 39 = .ok (.aload_n 0, 1) := by decide +kernel
theorem dX4_over_40 : decode cX4_over 40 = .ok (.getfield 102, 3) := by decide +kernel
theorem dX4_over_43 : decode cX4_over 43 = .ok (.if_icmp .ge 54, 3) := by decide +kernel
theorem dX4_over_46 : decode cX4_over 46 = .ok (.iload 5, 2) := by decide +kernel
theorem dX4_over_48 : decode cX4_over 48 = .ok (.aload_n 0, 1) := by decide +kernel
theorem dX4_over_49 : decode cX4_over 49 = .ok (.getfield 34, 3) := by decide +kernel
theorem dX4_over_52 : decode cX4_over 52 = .ok (.iload 6, 2) := by decide +kernel
theorem dX4_over_54 : decode cX4_over 54 = .ok (.iaload, 1) := by decide +kernel
theorem dX4_over_55 : decode cX4_over 55 = .ok (.iconst 1, 1) := by decide +kernel
theorem dX4_over_56 : decode cX4_over 56 = .ok (.if_icmp .ne 31, 3) := by decide +kernel
theorem dX4_over_59 : decode cX4_over 59 = .ok (.aload_n 0, 1) := by decide +kernel
theorem dX4_over_60 : decode cX4_over 60 = .ok (.getfield 22, 3) := by decide +kernel
theorem dX4_over_63 : decode cX4_over 63 = .ok (.iload 6, 2) := by decide +kernel
theorem dX4_over_65 : decode cX4_over 65 = .ok (.iaload, 1) := by decide +kernel
theorem dX4_over_66 : decode cX4_over 66 = .ok (.iload 4, 2) := by decide +kernel
theorem dX4_over_68 : decode cX4_over 68 = .ok (.if_icmp .gt 19, 3) := by decide +kernel
theorem dX4_over_71 : decode cX4_over 71 = .ok (.iload 4, 2) := by decide +kernel
theorem dX4_over_73 : decode cX4_over 73 = .ok (.aload_n 0, 1) := by decide +kernel
theorem dX4_over_74 : decode cX4_over 74 = .ok (.getfield 25, 3) := by decide +kernel
theorem dX4_over_77 : decode cX4_over 77 = .ok (.iload 6, 2) := by decide +kernel
theorem dX4_over_79 : decode cX4_over 79 = .ok (.iaload, 1) := by decide +kernel
theorem dX4_over_80 : decode cX4_over 80 = .ok (.if_icmp .ge 7, 3) := by decide +kernel
theorem dX4_over_83 : decode cX4_over 83 = .ok (.iconst 1, 1) := by decide +kernel
theorem dX4_over_84 : decode cX4_over 84 = .ok (.goto 4, 3) := by decide +kernel
theorem dX4_over_87 : decode cX4_over 87 = .ok (.iconst 0, 1) := by decide +kernel
theorem dX4_over_88 : decode cX4_over 88 = .ok (.iadd, 1) := by decide +kernel
theorem dX4_over_89 : decode cX4_over 89 = .ok (.istore 5, 2) := by decide +kernel
theorem dX4_over_91 : decode cX4_over 91 = .ok (.iinc 6 1, 3) := by decide +kernel
theorem dX4_over_94 : decode cX4_over 94 = .ok (.goto (-57), 3) := by decide +kernel
theorem dX4_over_97 : decode cX4_over 97 = .ok (.iload 5, 2) := by decide +kernel
theorem dX4_over_99 : decode cX4_over 99 = .ok (.iconst 2, 1) := by decide +kernel
theorem dX4_over_100 : decode cX4_over 100 = .ok (.if_icmp .ge 6, 3) := by decide +kernel
theorem dX4_over_103 : decode cX4_over 103 = .ok (.goto 9, 3) := by decide +kernel
theorem dX4_over_106 : decode cX4_over 106 = .ok (.iinc 2 1, 3) := by decide +kernel
theorem dX4_over_109 : decode cX4_over 109 = .ok (.iload 4, 2) := by decide +kernel
theorem dX4_over_111 : decode cX4_over 111 = .ok (.istore_n 3, 1) := by decide +kernel
theorem dX4_over_112 : decode cX4_over 112 = .ok (.iinc 4 (-1), 3) := by decide +kernel
theorem dX4_over_115 : decode cX4_over 115 = .ok (.goto (-89), 3) := by decide +kernel
theorem dX4_over_118 : decode cX4_over 118 = .ok (.iload_n 1, 1) := by decide +kernel
theorem dX4_over_119 : decode cX4_over 119 = .ok (.ifCond .ne 7, 3) := by decide +kernel
theorem dX4_over_122 : decode cX4_over 122 = .ok (.iload_n 2, 1) := by decide +kernel
theorem dX4_over_123 : decode cX4_over 123 = .ok (.goto 4, 3) := by decide +kernel
theorem dX4_over_126 : decode cX4_over 126 = .ok (.iload_n 3, 1) := by decide +kernel
theorem dX4_over_127 : decode cX4_over 127 = .ok (.ireturn, 1) := by decide +kernel
theorem hd_X4_over : yX4_over.cls ≠ "java/lang/invoke/MethodHandle" ∧ yX4_over.cls ≠ "java/lang/invoke/VarHandle" ∧ (parseMethodDescriptor yX4_over.desc).map (fun d => d.parameters.length) = some 1 := by decide +kernel
def f_X4_over_L37 (S : vS) : Nat → Int32 → Int32 → Int32 → Int32 → Int32 → Int32 →  Option Int32
  | 0, _, _, _, _, _, _ => none
  | n + 1, x1, x2, x3, x4, x5, x6 => if (S 0 2) ≤ x6 then some x5 else if inb x6 21 = true then if (S 9 (x6.toNatClampNeg)) = (1 : Int32) then if x4 < (S 5 (x6.toNatClampNeg)) then (f_X4_over_L37 S n) x1 x2 x3 x4 (x5 + (0 : Int32)) (x6 + 1) else if (S 6 (x6.toNatClampNeg)) ≤ x4 then (f_X4_over_L37 S n) x1 x2 x3 x4 (x5 + (0 : Int32)) (x6 + 1) else (f_X4_over_L37 S n) x1 x2 x3 x4 (x5 + (1 : Int32)) (x6 + 1) else (f_X4_over_L37 S n) x1 x2 x3 x4 (x5 + (0 : Int32)) (x6 + 1) else none
def f_X4_over_L26 (S : vS) : Nat → Int32 → Int32 → Int32 → Int32 →  Option (Int32 × Int32)
  | 0, _, _, _, _ => none
  | n + 1, x1, x2, x3, x4 => if x4 < 0 then some (x2, x3) else b1 (f_X4_over_L37 S FU x1 x2 x3 x4 (0 : Int32) (0 : Int32)) fun y10 => if (2 : Int32) ≤ y10 then (f_X4_over_L26 S n) x1 (x2 + 1) x4 (x4 + (-1)) else (f_X4_over_L26 S n) x1 x2 x3 (x4 + (-1))
def f_X4_over (a1 : Int32) (S : vS) : Option (Int32 × vS) := b1 (f_X4_isIn a1 (0 : Int32) (1 : Int32) S) fun r2 => if r2 = 0 then b2 (f_X4_no (-2 : Int32) S) fun r19 S18 => some (r19, S18) else b2 (f_X4_over_L26 S FU a1 (0 : Int32) (-9 : Int32) (899 : Int32)) fun y13 y14 => if a1 = 0 then some (y13, S) else some (y14, S)
set_option maxHeartbeats 4000000 in
set_option maxRecDepth 20000 in
theorem c_X4_over (l : Launch) (D : va_G) (cI cO : ClassId) (ad : Nat → Nat) (a1 : Int32) (S : vS) (R9 : Int32) (S9 : vS) (hf : f_X4_over a1 S = some (R9, S9)) : CI l yX4_over cX4_over 7 .int ({ frames := 1, cells := 0, slots := 0, locals := 22 }) [.ref (ad 5), .int a1] D cI cO ad S R9 S9 := by
  refine CI.of (by decide +kernel) (Nat.le_of_ble_eq_true rfl) (fun p e s m args below meth c Q ls X hl hw hfin => ?_)
  have hl : lv_has ls 7 [(0, .ref (ad 5)), (1, .int a1)] := hl
  have hx := X.1
  have hb := X.2.1
  have L37 : ∀ (S : vS) (n : Nat) (x1 : Int32) (x2 : Int32) (x3 : Int32) (x4 : Int32) (x5 : Int32) (x6 : Int32) (res : Int32), f_X4_over_L37 S n x1 x2 x3 x4 x5 x6 = some res → (K : ∀ (y5 : Int32), some y5 = some res → ∀ (H : Heap) (locs : List Loc) (ls : Array Slot), WD D cI cO ad s S H locs → lv_has ls 7 [(0, .ref (ad 5)), (1, .int x1), (2, .int x2), (3, .int x3), (4, .int x4), (5, .int y5)] → W p l e ({ frames := 1, cells := 0, slots := 0, locals := 22 }) s m args below meth c H locs 0 0 Q (F0 m 97 ls [])) → ∀ (H : Heap) (locs : List Loc) (ls : Array Slot), WD D cI cO ad s S H locs → lv_has ls 7 [(0, .ref (ad 5)), (1, .int x1), (2, .int x2), (3, .int x3), (4, .int x4), (5, .int x5), (6, .int x6)] → W p l e ({ frames := 1, cells := 0, slots := 0, locals := 22 }) s m args below meth c H locs 0 0 Q (F0 m 37 ls []) := by
    intro S n
    induction n with
    | zero => intro x1 x2 x3 x4 x5 x6 res hf; cases hf
    | succ n ih =>
      intro x1 x2 x3 x4 x5 x6 res hf K H locs ls hw hl
      unfold f_X4_over_L37 at hf
      refine lv_iload hx hb dX4_over_37 (lv_at hl 6 rfl) ?_
      refine lv_aload_n hx hb dX4_over_39 rfl (lv_at hl 0 rfl) ?_
      refine x_get X hw 5 (Nat.le_of_ble_eq_true rfl) ce5 rfl i_X4 15 (by decide) q605 ⟨rfl, rfl, rfl⟩ rfl dX4_over_40 ?_
      refine lv_icmp_ge (tgt := 97) hx hb dX4_over_43 (by decide) (fun c5 => ?_) (fun c5 => ?_)
      · replace hf := if_t c5 hf
        exact K x5 hf _ _ _ hw (lv_sub hl [0, 1, 2, 3, 4, 5] rfl)
      · replace hf := if_f c5 hf
        refine lv_iload hx hb dX4_over_46 (lv_at hl 5 rfl) ?_
        refine lv_aload_n hx hb dX4_over_48 rfl (lv_at hl 0 rfl) ?_
        refine x_get X hw 5 (Nat.le_of_ble_eq_true rfl) ce5 rfl i_X4 8 (by decide) q598 ⟨rfl, rfl, rfl⟩ rfl dX4_over_49 ?_
        refine lv_iload hx hb dX4_over_52 (lv_at hl 6 rfl) ?_
        obtain ⟨h6, hf⟩ := if_s hf
        refine x_iald X hw 9 ⟨Nat.le_of_ble_eq_true rfl, Nat.le_of_ble_eq_true rfl⟩ rfl h6 (x6.toNatClampNeg) rfl dX4_over_54 ?_
        refine lv_iconst (v := 1) hx hb dX4_over_55 (by decide) ?_
        refine lv_icmp_ne (tgt := 87) hx hb dX4_over_56 (by decide) (fun c7 => ?_) (fun c7 => ?_)
        · replace hf := if_f c7 hf
          refine lv_iconst (v := 0) hx hb dX4_over_87 (by decide) ?_
          refine lv_iadd hx hb dX4_over_88 ?_
          refine lv_istore (lv' := [(5, .int (x5 + (0 : Int32))), (0, .ref (ad 5)), (1, .int x1), (2, .int x2), (3, .int x3), (4, .int x4), (6, .int x6)]) hx hb dX4_over_89 hl (by decide) rfl (fun ls hl => ?_)
          refine lv_iinc (v := (x6 + 1)) (lv' := [(6, .int (x6 + 1)), (5, .int (x5 + (0 : Int32))), (0, .ref (ad 5)), (1, .int x1), (2, .int x2), (3, .int x3), (4, .int x4)]) hx hb dX4_over_91 hl (k := 6) rfl rfl (by decide) rfl (fun ls hl => ?_)
          refine lv_goto (tgt := 37) hx hb dX4_over_94 (by decide) ?_
          exact ih x1 x2 x3 x4 (x5 + (0 : Int32)) (x6 + 1) _ hf K _ _ _ hw (lv_sub hl [2, 3, 4, 5, 6, 1, 0] rfl)
        · replace hf := if_t c7 hf
          refine lv_aload_n hx hb dX4_over_59 rfl (lv_at hl 0 rfl) ?_
          refine x_get X hw 5 (Nat.le_of_ble_eq_true rfl) ce5 rfl i_X4 4 (by decide) q594 ⟨rfl, rfl, rfl⟩ rfl dX4_over_60 ?_
          refine lv_iload hx hb dX4_over_63 (lv_at hl 6 rfl) ?_
          refine x_iald X hw 5 ⟨Nat.le_of_ble_eq_true rfl, Nat.le_of_ble_eq_true rfl⟩ rfl h6 (x6.toNatClampNeg) rfl dX4_over_65 ?_
          refine lv_iload hx hb dX4_over_66 (lv_at hl 4 rfl) ?_
          refine lv_icmp_gt (tgt := 87) hx hb dX4_over_68 (by decide) (fun c8 => ?_) (fun c8 => ?_)
          · replace hf := if_t c8 hf
            refine lv_iconst (v := 0) hx hb dX4_over_87 (by decide) ?_
            refine lv_iadd hx hb dX4_over_88 ?_
            refine lv_istore (lv' := [(5, .int (x5 + (0 : Int32))), (0, .ref (ad 5)), (1, .int x1), (2, .int x2), (3, .int x3), (4, .int x4), (6, .int x6)]) hx hb dX4_over_89 hl (by decide) rfl (fun ls hl => ?_)
            refine lv_iinc (v := (x6 + 1)) (lv' := [(6, .int (x6 + 1)), (5, .int (x5 + (0 : Int32))), (0, .ref (ad 5)), (1, .int x1), (2, .int x2), (3, .int x3), (4, .int x4)]) hx hb dX4_over_91 hl (k := 6) rfl rfl (by decide) rfl (fun ls hl => ?_)
            refine lv_goto (tgt := 37) hx hb dX4_over_94 (by decide) ?_
            exact ih x1 x2 x3 x4 (x5 + (0 : Int32)) (x6 + 1) _ hf K _ _ _ hw (lv_sub hl [2, 3, 4, 5, 6, 1, 0] rfl)
          · replace hf := if_f c8 hf
            refine lv_iload hx hb dX4_over_71 (lv_at hl 4 rfl) ?_
            refine lv_aload_n hx hb dX4_over_73 rfl (lv_at hl 0 rfl) ?_
            refine x_get X hw 5 (Nat.le_of_ble_eq_true rfl) ce5 rfl i_X4 5 (by decide) q595 ⟨rfl, rfl, rfl⟩ rfl dX4_over_74 ?_
            refine lv_iload hx hb dX4_over_77 (lv_at hl 6 rfl) ?_
            refine x_iald X hw 6 ⟨Nat.le_of_ble_eq_true rfl, Nat.le_of_ble_eq_true rfl⟩ rfl h6 (x6.toNatClampNeg) rfl dX4_over_79 ?_
            refine lv_icmp_ge (tgt := 87) hx hb dX4_over_80 (by decide) (fun c9 => ?_) (fun c9 => ?_)
            · replace hf := if_t c9 hf
              refine lv_iconst (v := 0) hx hb dX4_over_87 (by decide) ?_
              refine lv_iadd hx hb dX4_over_88 ?_
              refine lv_istore (lv' := [(5, .int (x5 + (0 : Int32))), (0, .ref (ad 5)), (1, .int x1), (2, .int x2), (3, .int x3), (4, .int x4), (6, .int x6)]) hx hb dX4_over_89 hl (by decide) rfl (fun ls hl => ?_)
              refine lv_iinc (v := (x6 + 1)) (lv' := [(6, .int (x6 + 1)), (5, .int (x5 + (0 : Int32))), (0, .ref (ad 5)), (1, .int x1), (2, .int x2), (3, .int x3), (4, .int x4)]) hx hb dX4_over_91 hl (k := 6) rfl rfl (by decide) rfl (fun ls hl => ?_)
              refine lv_goto (tgt := 37) hx hb dX4_over_94 (by decide) ?_
              exact ih x1 x2 x3 x4 (x5 + (0 : Int32)) (x6 + 1) _ hf K _ _ _ hw (lv_sub hl [2, 3, 4, 5, 6, 1, 0] rfl)
            · replace hf := if_f c9 hf
              refine lv_iconst (v := 1) hx hb dX4_over_83 (by decide) ?_
              refine lv_goto (tgt := 88) hx hb dX4_over_84 (by decide) ?_
              refine lv_iadd hx hb dX4_over_88 ?_
              refine lv_istore (lv' := [(5, .int (x5 + (1 : Int32))), (0, .ref (ad 5)), (1, .int x1), (2, .int x2), (3, .int x3), (4, .int x4), (6, .int x6)]) hx hb dX4_over_89 hl (by decide) rfl (fun ls hl => ?_)
              refine lv_iinc (v := (x6 + 1)) (lv' := [(6, .int (x6 + 1)), (5, .int (x5 + (1 : Int32))), (0, .ref (ad 5)), (1, .int x1), (2, .int x2), (3, .int x3), (4, .int x4)]) hx hb dX4_over_91 hl (k := 6) rfl rfl (by decide) rfl (fun ls hl => ?_)
              refine lv_goto (tgt := 37) hx hb dX4_over_94 (by decide) ?_
              exact ih x1 x2 x3 x4 (x5 + (1 : Int32)) (x6 + 1) _ hf K _ _ _ hw (lv_sub hl [2, 3, 4, 5, 6, 1, 0] rfl)
  have L26 : ∀ (S : vS) (n : Nat) (x1 : Int32) (x2 : Int32) (x3 : Int32) (x4 : Int32) (res : (Int32 × Int32)), f_X4_over_L26 S n x1 x2 x3 x4 = some res → (K : ∀ (y2 : Int32) (y3 : Int32), some (y2, y3) = some res → ∀ (H : Heap) (locs : List Loc) (ls : Array Slot), WD D cI cO ad s S H locs → lv_has ls 7 [(1, .int x1), (2, .int y2), (3, .int y3)] → W p l e ({ frames := 1, cells := 0, slots := 0, locals := 22 }) s m args below meth c H locs 0 0 Q (F0 m 118 ls [])) → ∀ (H : Heap) (locs : List Loc) (ls : Array Slot), WD D cI cO ad s S H locs → lv_has ls 7 [(0, .ref (ad 5)), (1, .int x1), (2, .int x2), (3, .int x3), (4, .int x4)] → W p l e ({ frames := 1, cells := 0, slots := 0, locals := 22 }) s m args below meth c H locs 0 0 Q (F0 m 26 ls []) := by
    intro S n
    induction n with
    | zero => intro x1 x2 x3 x4 res hf; cases hf
    | succ n ih =>
      intro x1 x2 x3 x4 res hf K H locs ls hw hl
      unfold f_X4_over_L26 at hf
      refine lv_iload hx hb dX4_over_26 (lv_at hl 4 rfl) ?_
      refine lv_if_lt (tgt := 118) hx hb dX4_over_28 (by decide) (fun c4 => ?_) (fun c4 => ?_)
      · replace hf := if_t c4 hf
        exact K x2 x3 hf _ _ _ hw (lv_sub hl [1, 2, 3] rfl)
      · replace hf := if_f c4 hf
        refine lv_iconst (v := 0) hx hb dX4_over_31 (by decide) ?_
        refine lv_istore (lv' := [(5, .int (0 : Int32)), (0, .ref (ad 5)), (1, .int x1), (2, .int x2), (3, .int x3), (4, .int x4)]) hx hb dX4_over_32 hl (by decide) rfl (fun ls hl => ?_)
        refine lv_iconst (v := 0) hx hb dX4_over_34 (by decide) ?_
        refine lv_istore (lv' := [(6, .int (0 : Int32)), (5, .int (0 : Int32)), (0, .ref (ad 5)), (1, .int x1), (2, .int x2), (3, .int x3), (4, .int x4)]) hx hb dX4_over_35 hl (by decide) rfl (fun ls hl => ?_)
        obtain ⟨y10, h12, hf⟩ := b1_s hf
        refine L37 S FU x1 x2 x3 x4 (0 : Int32) (0 : Int32) _ h12 (fun y10' eK H locs ls hw hl => ?_) _ _ _ hw (lv_sub hl [2, 3, 4, 5, 6, 1, 0] rfl)
        cases eK
        refine lv_iload hx hb dX4_over_97 (lv_at hl 5 rfl) ?_
        refine lv_iconst (v := 2) hx hb dX4_over_99 (by decide) ?_
        refine lv_icmp_ge (tgt := 106) hx hb dX4_over_100 (by decide) (fun c11 => ?_) (fun c11 => ?_)
        · replace hf := if_t c11 hf
          refine lv_iinc (v := (x2 + 1)) (lv' := [(2, .int (x2 + 1)), (0, .ref (ad 5)), (1, .int x1), (3, .int x3), (4, .int x4), (5, .int y10)]) hx hb dX4_over_106 hl (k := 2) rfl rfl (by decide) rfl (fun ls hl => ?_)
          refine lv_iload hx hb dX4_over_109 (lv_at hl 4 rfl) ?_
          refine lv_istore_n (lv' := [(3, .int x4), (2, .int (x2 + 1)), (0, .ref (ad 5)), (1, .int x1), (4, .int x4), (5, .int y10)]) hx hb dX4_over_111 rfl hl (by decide) rfl (fun ls hl => ?_)
          refine lv_iinc (v := (x4 + (-1))) (lv' := [(4, .int (x4 + (-1))), (3, .int x4), (2, .int (x2 + 1)), (0, .ref (ad 5)), (1, .int x1), (5, .int y10)]) hx hb dX4_over_112 hl (k := 4) rfl rfl (by decide) rfl (fun ls hl => ?_)
          refine lv_goto (tgt := 26) hx hb dX4_over_115 (by decide) ?_
          exact ih x1 (x2 + 1) x4 (x4 + (-1)) _ hf K _ _ _ hw (lv_sub hl [3, 4, 2, 1, 0] rfl)
        · replace hf := if_f c11 hf
          refine lv_goto (tgt := 112) hx hb dX4_over_103 (by decide) ?_
          refine lv_iinc (v := (x4 + (-1))) (lv' := [(4, .int (x4 + (-1))), (0, .ref (ad 5)), (1, .int x1), (2, .int x2), (3, .int x3), (5, .int y10)]) hx hb dX4_over_112 hl (k := 4) rfl rfl (by decide) rfl (fun ls hl => ?_)
          refine lv_goto (tgt := 26) hx hb dX4_over_115 (by decide) ?_
          exact ih x1 x2 x3 (x4 + (-1)) _ hf K _ _ _ hw (lv_sub hl [1, 2, 3, 4, 0] rfl)
  unfold f_X4_over at hf
  refine lv_iload_n hx hb dX4_over_0 rfl (lv_at hl 1 rfl) ?_
  refine lv_iconst (v := 0) hx hb dX4_over_1 (by decide) ?_
  refine lv_iconst (v := 1) hx hb dX4_over_2 (by decide) ?_
  obtain ⟨r2, h1, hf⟩ := b1_s hf
  refine kSi X hw (c_X4_isIn l D cI cO ad a1 (0 : Int32) (1 : Int32) S r2 h1) ⟨rfl, rfl⟩ q712 q713 q64 q714 hd_X4_isIn ⟨Nat.le_of_ble_eq_true rfl, Nat.le_of_ble_eq_true rfl⟩ rfl hl.1 rfl (Nat.le_of_ble_eq_true rfl) dX4_over_3 (fun H locs hw => ?_)
  refine lv_if_ne (tgt := 16) hx hb dX4_over_6 (by decide) (fun c3 => ?_) (fun c3 => ?_)
  · replace hf := if_f c3 hf
    refine lv_iconst (v := 0) hx hb dX4_over_16 (by decide) ?_
    refine lv_istore_n (lv' := [(2, .int (0 : Int32)), (0, .ref (ad 5)), (1, .int a1)]) hx hb dX4_over_17 rfl hl (by decide) rfl (fun ls hl => ?_)
    refine lv_bipush (v := -9) hx hb dX4_over_18 (by decide +kernel) ?_
    refine lv_istore_n (lv' := [(3, .int (-9 : Int32)), (2, .int (0 : Int32)), (0, .ref (ad 5)), (1, .int a1)]) hx hb dX4_over_20 rfl hl (by decide) rfl (fun ls hl => ?_)
    refine lv_sipush (v := 899) hx hb dX4_over_21 (by decide +kernel) ?_
    refine lv_istore (lv' := [(4, .int (899 : Int32)), (3, .int (-9 : Int32)), (2, .int (0 : Int32)), (0, .ref (ad 5)), (1, .int a1)]) hx hb dX4_over_24 hl (by decide) rfl (fun ls hl => ?_)
    obtain ⟨y13, y14, h16, hf⟩ := b2_s hf
    refine L26 S FU a1 (0 : Int32) (-9 : Int32) (899 : Int32) _ h16 (fun y13' y14' eK H locs ls hw hl => ?_) _ _ _ hw (lv_sub hl [3, 4, 2, 1, 0] rfl)
    cases eK
    refine lv_iload_n hx hb dX4_over_118 rfl (lv_at hl 0 rfl) ?_
    refine lv_if_ne (tgt := 126) hx hb dX4_over_119 (by decide) (fun c15 => ?_) (fun c15 => ?_)
    · replace hf := if_f c15 hf
      refine lv_iload_n hx hb dX4_over_126 rfl (lv_at hl 2 rfl) ?_
      exact hfin _ _ _ _ _ _ hw (s2a hf) (s2b hf) (narI _) dX4_over_127
    · replace hf := if_t c15 hf
      refine lv_iload_n hx hb dX4_over_122 rfl (lv_at hl 1 rfl) ?_
      refine lv_goto (tgt := 127) hx hb dX4_over_123 (by decide) ?_
      exact hfin _ _ _ _ _ _ hw (s2a hf) (s2b hf) (narI _) dX4_over_127
  · replace hf := if_t c3 hf
    refine lv_aload_n hx hb dX4_over_9 rfl (lv_at hl 0 rfl) ?_
    refine lv_bipush (v := -2) hx hb dX4_over_10 (by decide +kernel) ?_
    obtain ⟨r19, S18, h17, hf⟩ := b2_s hf
    refine kVi X hw (c_X4_no l D cI cO ad (-2 : Int32) S r19 S18 h17) (Nat.le_of_ble_eq_true rfl) ce5 rfl ⟨rfl, rfl⟩ q688 q690 q34 q64 q691 hd_X4_no ⟨Nat.le_of_ble_eq_true rfl, Nat.le_of_ble_eq_true rfl⟩ rfl hl.1 rfl (Nat.le_of_ble_eq_true rfl) dX4_over_12 (fun H locs hw => ?_)
    exact hfin _ _ _ _ _ _ hw (s2a hf) (s2b hf) (narI _) dX4_over_15
/-- NineLandsModel.greater(II)I -/
theorem dX4_greater_0 : decode cX4_greater 0 = .ok (.iload_n 0, 1) := by decide +kernel
theorem dX4_greater_1 : decode cX4_greater 1 = .ok (.iload_n 1, 1) := by decide +kernel
theorem dX4_greater_2 : decode cX4_greater 2 = .ok (.if_icmp .le 7, 3) := by decide +kernel
theorem dX4_greater_5 : decode cX4_greater 5 = .ok (.iload_n 0, 1) := by decide +kernel
theorem dX4_greater_6 : decode cX4_greater 6 = .ok (.goto 4, 3) := by decide +kernel
theorem dX4_greater_9 : decode cX4_greater 9 = .ok (.iload_n 1, 1) := by decide +kernel
theorem dX4_greater_10 : decode cX4_greater 10 = .ok (.ireturn, 1) := by decide +kernel
theorem hd_X4_greater : yX4_greater.cls ≠ "java/lang/invoke/MethodHandle" ∧ yX4_greater.cls ≠ "java/lang/invoke/VarHandle" ∧ (parseMethodDescriptor yX4_greater.desc).map (fun d => d.parameters.length) = some 2 := by decide +kernel
def f_X4_greater (a0 : Int32) (a1 : Int32) (S : vS) : Option Int32 := if a0 ≤ a1 then some a1 else some a0
set_option maxHeartbeats 4000000 in
set_option maxRecDepth 20000 in
theorem c_X4_greater (l : Launch) (D : va_G) (cI cO : ClassId) (ad : Nat → Nat) (a0 : Int32) (a1 : Int32) (S : vS) (R9 : Int32) (hf : f_X4_greater a0 a1 S = some R9) : CI l yX4_greater cX4_greater 2 .int ({ frames := 0, cells := 0, slots := 0, locals := 0 }) [.int a0, .int a1] D cI cO ad S R9 S := by
  refine CI.of (by decide +kernel) (Nat.le_of_ble_eq_true rfl) (fun p e s m args below meth c Q ls X hl hw hfin => ?_)
  have hl : lv_has ls 2 [(0, .int a0), (1, .int a1)] := hl
  have hx := X.1
  have hb := X.2.1
  unfold f_X4_greater at hf
  refine lv_iload_n hx hb dX4_greater_0 rfl (lv_at hl 0 rfl) ?_
  refine lv_iload_n hx hb dX4_greater_1 rfl (lv_at hl 1 rfl) ?_
  refine lv_icmp_le (tgt := 9) hx hb dX4_greater_2 (by decide) (fun c1 => ?_) (fun c1 => ?_)
  · replace hf := if_t c1 hf
    refine lv_iload_n hx hb dX4_greater_9 rfl (lv_at hl 1 rfl) ?_
    exact hfin _ _ _ _ _ _ hw (Option.some.inj hf) rfl (narI _) dX4_greater_10
  · replace hf := if_f c1 hf
    refine lv_iload_n hx hb dX4_greater_5 rfl (lv_at hl 0 rfl) ?_
    refine lv_goto (tgt := 10) hx hb dX4_greater_6 (by decide) ?_
    exact hfin _ _ _ _ _ _ hw (Option.some.inj hf) rfl (narI _) dX4_greater_10
/-- NineLandsModel.isRight(II)Z -/
theorem dX4_isRight_0 : decode cX4_isRight 0 = .ok (.iload_n 2, 1) := by decide +kernel
theorem dX4_isRight_1 : decode cX4_isRight 1 = .ok (.iconst 1, 1) := by decide +kernel
theorem dX4_isRight_2 : decode cX4_isRight 2 = .ok (.if_icmp .lt 17, 3) := by decide +kernel
theorem dX4_isRight_5 : decode cX4_isRight 5 = .ok (.iload_n 2, 1) := by decide +kernel
theorem dX4_isRight_6 : decode cX4_isRight 6 = .ok (.aload_n 0, 1) := by decide +kernel
theorem dX4_isRight_7 : decode cX4_isRight 7 = .ok (.iload_n 1, 1) := by decide +kernel
theorem dX4_isRight_8 : decode cX4_isRight 8 = .ok (.iconst 0, 1) := by decide +kernel
theorem dX4_isRight_9 : decode cX4_isRight 9 = .ok (.invokevirtual 122, 3) := by decide +kernel
theorem dX4_isRight_12 : decode cX4_isRight 12 = .ok (.if_icmp .lt 7, 3) := by decide +kernel
theorem dX4_isRight_15 : decode cX4_isRight 15 = .ok (.iconst 1, 1) := by decide +kernel
theorem dX4_isRight_16 : decode cX4_isRight 16 = .ok (.goto 4, 3) := by decide +kernel
theorem dX4_isRight_19 : decode cX4_isRight 19 = .ok (.iconst 0, 1) := by decide +kernel
theorem dX4_isRight_20 : decode cX4_isRight 20 = .ok (.ireturn, 1) := by decide +kernel
theorem hd_X4_isRight : yX4_isRight.cls ≠ "java/lang/invoke/MethodHandle" ∧ yX4_isRight.cls ≠ "java/lang/invoke/VarHandle" ∧ (parseMethodDescriptor yX4_isRight.desc).map (fun d => d.parameters.length) = some 2 := by decide +kernel
def f_X4_isRight (a1 : Int32) (a2 : Int32) (S : vS) : Option Int32 := if a2 < (1 : Int32) then some (0 : Int32) else b1 (f_X4_lawOf a1 (0 : Int32) S) fun r3 => if a2 < r3 then some (0 : Int32) else some (1 : Int32)
set_option maxHeartbeats 4000000 in
set_option maxRecDepth 20000 in
theorem c_X4_isRight (l : Launch) (D : va_G) (cI cO : ClassId) (ad : Nat → Nat) (a1 : Int32) (a2 : Int32) (S : vS) (R9 : Int32) (hf : f_X4_isRight a1 a2 S = some R9) : CI l yX4_isRight cX4_isRight 3 .boolean ({ frames := 1, cells := 0, slots := 0, locals := 22 }) [.ref (ad 5), .int a1, .int a2] D cI cO ad S R9 S := by
  refine CI.of (by decide +kernel) (Nat.le_of_ble_eq_true rfl) (fun p e s m args below meth c Q ls X hl hw hfin => ?_)
  have hl : lv_has ls 3 [(0, .ref (ad 5)), (1, .int a1), (2, .int a2)] := hl
  have hx := X.1
  have hb := X.2.1
  unfold f_X4_isRight at hf
  refine lv_iload_n hx hb dX4_isRight_0 rfl (lv_at hl 2 rfl) ?_
  refine lv_iconst (v := 1) hx hb dX4_isRight_1 (by decide) ?_
  refine lv_icmp_lt (tgt := 19) hx hb dX4_isRight_2 (by decide) (fun c1 => ?_) (fun c1 => ?_)
  · replace hf := if_t c1 hf
    refine lv_iconst (v := 0) hx hb dX4_isRight_19 (by decide) ?_
    exact hfin _ _ _ _ _ _ hw (Option.some.inj hf) rfl rfl dX4_isRight_20
  · replace hf := if_f c1 hf
    refine lv_iload_n hx hb dX4_isRight_5 rfl (lv_at hl 2 rfl) ?_
    refine lv_aload_n hx hb dX4_isRight_6 rfl (lv_at hl 0 rfl) ?_
    refine lv_iload_n hx hb dX4_isRight_7 rfl (lv_at hl 1 rfl) ?_
    refine lv_iconst (v := 0) hx hb dX4_isRight_8 (by decide) ?_
    obtain ⟨r3, h2, hf⟩ := b1_s hf
    refine kVi X hw (c_X4_lawOf l D cI cO ad a1 (0 : Int32) S r3 h2) (Nat.le_of_ble_eq_true rfl) ce5 rfl ⟨rfl, rfl⟩ q751 q753 q41 q64 q754 hd_X4_lawOf ⟨Nat.le_of_ble_eq_true rfl, Nat.le_of_ble_eq_true rfl⟩ rfl hl.1 rfl (Nat.le_of_ble_eq_true rfl) dX4_isRight_9 (fun H locs hw => ?_)
    refine lv_icmp_lt (tgt := 19) hx hb dX4_isRight_12 (by decide) (fun c4 => ?_) (fun c4 => ?_)
    · replace hf := if_t c4 hf
      refine lv_iconst (v := 0) hx hb dX4_isRight_19 (by decide) ?_
      exact hfin _ _ _ _ _ _ hw (Option.some.inj hf) rfl rfl dX4_isRight_20
    · replace hf := if_f c4 hf
      refine lv_iconst (v := 1) hx hb dX4_isRight_15 (by decide) ?_
      refine lv_goto (tgt := 20) hx hb dX4_isRight_16 (by decide) ?_
      exact hfin _ _ _ _ _ _ hw (Option.some.inj hf) rfl rfl dX4_isRight_20
/-- NineLandsModel.byRate(II)I -/
theorem dX4_byRate_0 : decode cX4_byRate 0 = .ok (.aload_n 0, 1) := by decide +kernel
theorem dX4_byRate_1 : decode cX4_byRate 1 = .ok (.iload_n 1, 1) := by decide +kernel
theorem dX4_byRate_2 : decode cX4_byRate 2 = .ok (.iconst 2, 1) := by decide +kernel
theorem dX4_byRate_3 : decode cX4_byRate 3 = .ok (.invokevirtual 122, 3) := by decide +kernel
theorem dX4_byRate_6 : decode cX4_byRate 6 = .ok (.iload_n 2, 1) := by decide +kernel
theorem dX4_byRate_7 : decode cX4_byRate 7 = .ok (.imul, 1) := by decide +kernel
theorem dX4_byRate_8 : decode cX4_byRate 8 = .ok (.bipush 100, 2) := by decide +kernel
theorem dX4_byRate_10 : decode cX4_byRate 10 = .ok (.idiv, 1) := by decide +kernel
theorem dX4_byRate_11 : decode cX4_byRate 11 = .ok (.istore_n 3, 1) := by decide +kernel
theorem dX4_byRate_12 : decode cX4_byRate 12 = .ok (.iload_n 3, 1) := by decide +kernel
theorem dX4_byRate_13 : decode cX4_byRate 13 = .ok (.aload_n 0, 1) := by decide +kernel
theorem dX4_byRate_14 : decode cX4_byRate 14 = .ok (.iload_n 1, 1) := by decide +kernel
theorem dX4_byRate_15 : decode cX4_byRate 15 = .ok (.iconst 4, 1) := by decide +kernel
theorem dX4_byRate_16 : decode cX4_byRate 16 = .ok (.invokevirtual 122, 3) := by decide +kernel
theorem dX4_byRate_19 : decode cX4_byRate 19 = .ok (.if_icmp .ge 7, 3) := by decide +kernel
theorem dX4_byRate_22 : decode cX4_byRate 22 = .ok (.iload_n 3, 1) := by decide +kernel
theorem dX4_byRate_23 : decode cX4_byRate 23 = .ok (.goto 9, 3) := by decide +kernel
theorem dX4_byRate_26 : decode cX4_byRate 26 = .ok (.aload_n 0, 1) := by decide +kernel
theorem dX4_byRate_27 : decode cX4_byRate 27 = .ok (.iload_n 1, 1) := by decide +kernel
theorem dX4_byRate_28 : decode cX4_byRate 28 = .ok (.iconst 4, 1) := by decide +kernel
theorem dX4_byRate_29 : decode cX4_byRate 29 = .ok (.invokevirtual 122, 3) := by decide +kernel
theorem dX4_byRate_32 : decode cX4_byRate 32 = .ok (.ireturn, 1) := by decide +kernel
theorem hd_X4_byRate : yX4_byRate.cls ≠ "java/lang/invoke/MethodHandle" ∧ yX4_byRate.cls ≠ "java/lang/invoke/VarHandle" ∧ (parseMethodDescriptor yX4_byRate.desc).map (fun d => d.parameters.length) = some 2 := by decide +kernel
def f_X4_byRate (a1 : Int32) (a2 : Int32) (S : vS) : Option Int32 := b1 (f_X4_lawOf a1 (2 : Int32) S) fun r2 => lt (((r2 * a2) / (100 : Int32))) fun v3 => b1 (f_X4_lawOf a1 (4 : Int32) S) fun r5 => if r5 ≤ v3 then b1 (f_X4_lawOf a1 (4 : Int32) S) fun r8 => some r8 else some v3
set_option maxHeartbeats 4000000 in
set_option maxRecDepth 20000 in
theorem c_X4_byRate (l : Launch) (D : va_G) (cI cO : ClassId) (ad : Nat → Nat) (a1 : Int32) (a2 : Int32) (S : vS) (R9 : Int32) (hf : f_X4_byRate a1 a2 S = some R9) : CI l yX4_byRate cX4_byRate 4 .int ({ frames := 1, cells := 0, slots := 0, locals := 22 }) [.ref (ad 5), .int a1, .int a2] D cI cO ad S R9 S := by
  refine CI.of (by decide +kernel) (Nat.le_of_ble_eq_true rfl) (fun p e s m args below meth c Q ls X hl hw hfin => ?_)
  have hl : lv_has ls 4 [(0, .ref (ad 5)), (1, .int a1), (2, .int a2)] := hl
  have hx := X.1
  have hb := X.2.1
  unfold f_X4_byRate at hf
  refine lv_aload_n hx hb dX4_byRate_0 rfl (lv_at hl 0 rfl) ?_
  refine lv_iload_n hx hb dX4_byRate_1 rfl (lv_at hl 1 rfl) ?_
  refine lv_iconst (v := 2) hx hb dX4_byRate_2 (by decide) ?_
  obtain ⟨r2, h1, hf⟩ := b1_s hf
  refine kVi X hw (c_X4_lawOf l D cI cO ad a1 (2 : Int32) S r2 h1) (Nat.le_of_ble_eq_true rfl) ce5 rfl ⟨rfl, rfl⟩ q751 q753 q41 q64 q754 hd_X4_lawOf ⟨Nat.le_of_ble_eq_true rfl, Nat.le_of_ble_eq_true rfl⟩ rfl hl.1 rfl (Nat.le_of_ble_eq_true rfl) dX4_byRate_3 (fun H locs hw => ?_)
  refine lv_iload_n hx hb dX4_byRate_6 rfl (lv_at hl 2 rfl) ?_
  refine lv_imul hx hb dX4_byRate_7 ?_
  refine lv_bipush (v := 100) hx hb dX4_byRate_8 (by decide +kernel) ?_
  refine lv_idiv hx hb dX4_byRate_10 (by decide) ?_
  refine lv_topi (fun v3 ev3 => ?_)
  replace hf := lt_e ev3 hf
  refine lv_istore_n (lv' := [(3, .int v3), (0, .ref (ad 5)), (1, .int a1), (2, .int a2)]) hx hb dX4_byRate_11 rfl hl (by decide) rfl (fun ls hl => ?_)
  refine lv_iload_n hx hb dX4_byRate_12 rfl (lv_at hl 0 rfl) ?_
  refine lv_aload_n hx hb dX4_byRate_13 rfl (lv_at hl 1 rfl) ?_
  refine lv_iload_n hx hb dX4_byRate_14 rfl (lv_at hl 2 rfl) ?_
  refine lv_iconst (v := 4) hx hb dX4_byRate_15 (by decide) ?_
  obtain ⟨r5, h4, hf⟩ := b1_s hf
  refine kVi X hw (c_X4_lawOf l D cI cO ad a1 (4 : Int32) S r5 h4) (Nat.le_of_ble_eq_true rfl) ce5 rfl ⟨rfl, rfl⟩ q751 q753 q41 q64 q754 hd_X4_lawOf ⟨Nat.le_of_ble_eq_true rfl, Nat.le_of_ble_eq_true rfl⟩ rfl hl.1 rfl (Nat.le_of_ble_eq_true rfl) dX4_byRate_16 (fun H locs hw => ?_)
  refine lv_icmp_ge (tgt := 26) hx hb dX4_byRate_19 (by decide) (fun c6 => ?_) (fun c6 => ?_)
  · replace hf := if_t c6 hf
    refine lv_aload_n hx hb dX4_byRate_26 rfl (lv_at hl 1 rfl) ?_
    refine lv_iload_n hx hb dX4_byRate_27 rfl (lv_at hl 2 rfl) ?_
    refine lv_iconst (v := 4) hx hb dX4_byRate_28 (by decide) ?_
    obtain ⟨r8, h7, hf⟩ := b1_s hf
    refine kVi X hw (c_X4_lawOf l D cI cO ad a1 (4 : Int32) S r8 h7) (Nat.le_of_ble_eq_true rfl) ce5 rfl ⟨rfl, rfl⟩ q751 q753 q41 q64 q754 hd_X4_lawOf ⟨Nat.le_of_ble_eq_true rfl, Nat.le_of_ble_eq_true rfl⟩ rfl hl.1 rfl (Nat.le_of_ble_eq_true rfl) dX4_byRate_29 (fun H locs hw => ?_)
    exact hfin _ _ _ _ _ _ hw (Option.some.inj hf) rfl (narI _) dX4_byRate_32
  · replace hf := if_f c6 hf
    refine lv_iload_n hx hb dX4_byRate_22 rfl (lv_at hl 0 rfl) ?_
    refine lv_goto (tgt := 32) hx hb dX4_byRate_23 (by decide) ?_
    exact hfin _ _ _ _ _ _ hw (Option.some.inj hf) rfl (narI _) dX4_byRate_32
/-- NineLandsModel.leastOf(I)I -/
theorem dX4_leastOf_0 : decode cX4_leastOf 0 = .ok (.aload_n 0, 1) := by decide +kernel
theorem dX4_leastOf_1 : decode cX4_leastOf 1 = .ok (.iload_n 1, 1) := by decide +kernel
theorem dX4_leastOf_2 : decode cX4_leastOf 2 = .ok (.aload_n 0, 1) := by decide +kernel
theorem dX4_leastOf_3 : decode cX4_leastOf 3 = .ok (.getfield 56, 3) := by decide +kernel
theorem dX4_leastOf_6 : decode cX4_leastOf 6 = .ok (.iload_n 1, 1) := by decide +kernel
theorem dX4_leastOf_7 : decode cX4_leastOf 7 = .ok (.iaload, 1) := by decide +kernel
theorem dX4_leastOf_8 : decode cX4_leastOf 8 = .ok (.invokevirtual 136, 3) := by decide +kernel
theorem dX4_leastOf_11 : decode cX4_leastOf 11 = .ok (.ifCond .eq 26, 3) := by decide +kernel
theorem dX4_leastOf_14 : decode cX4_leastOf 14 = .ok (.aload_n 0, 1) := by decide +kernel
theorem dX4_leastOf_15 : decode cX4_leastOf 15 = .ok (.iload_n 1, 1) := by decide +kernel
theorem dX4_leastOf_16 : decode cX4_leastOf 16 = .ok (.aload_n 0, 1) := by decide +kernel
theorem dX4_leastOf_17 : decode cX4_leastOf 17 = .ok (.getfield 59, 3) := by decide +kernel
theorem dX4_leastOf_20 : decode cX4_leastOf 20 = .ok (.iload_n 1, 1) := by decide +kernel
theorem dX4_leastOf_21 : decode cX4_leastOf 21 = .ok (.iaload, 1) := by decide +kernel
theorem dX4_leastOf_22 : decode cX4_leastOf 22 = .ok (.invokevirtual 140, 3) := by decide +kernel
theorem dX4_leastOf_25 : decode cX4_leastOf 25 = .ok (.aload_n 0, 1) := by decide +kernel
theorem dX4_leastOf_26 : decode cX4_leastOf 26 = .ok (.iload_n 1, 1) := by decide +kernel
theorem dX4_leastOf_27 : decode cX4_leastOf 27 = .ok (.iconst 3, 1) := by decide +kernel
theorem dX4_leastOf_28 : decode cX4_leastOf 28 = .ok (.invokevirtual 122, 3) := by decide +kernel
theorem dX4_leastOf_31 : decode cX4_leastOf 31 = .ok (.invokestatic 143, 3) := by decide +kernel
theorem dX4_leastOf_34 : decode cX4_leastOf 34 = .ok (.goto 4, 3) := by decide +kernel
theorem dX4_leastOf_37 : decode cX4_leastOf 37 = .ok (.iconst 0, 1) := by decide +kernel
theorem dX4_leastOf_38 : decode cX4_leastOf 38 = .ok (.ireturn, 1) := by decide +kernel
theorem hd_X4_leastOf : yX4_leastOf.cls ≠ "java/lang/invoke/MethodHandle" ∧ yX4_leastOf.cls ≠ "java/lang/invoke/VarHandle" ∧ (parseMethodDescriptor yX4_leastOf.desc).map (fun d => d.parameters.length) = some 1 := by decide +kernel
def f_X4_leastOf (a1 : Int32) (S : vS) : Option Int32 := if inb a1 6 = true then b1 (f_X4_isRight a1 (S 15 (a1.toNatClampNeg)) S) fun r3 => if r3 = 0 then some (0 : Int32) else b1 (f_X4_byRate a1 (S 16 (a1.toNatClampNeg)) S) fun r6 => b1 (f_X4_lawOf a1 (3 : Int32) S) fun r8 => b1 (f_X4_greater r6 r8 S) fun r10 => some r10 else none
set_option maxHeartbeats 4000000 in
set_option maxRecDepth 20000 in
theorem c_X4_leastOf (l : Launch) (D : va_G) (cI cO : ClassId) (ad : Nat → Nat) (a1 : Int32) (S : vS) (R9 : Int32) (hf : f_X4_leastOf a1 S = some R9) : CI l yX4_leastOf cX4_leastOf 2 .int ({ frames := 2, cells := 0, slots := 0, locals := 45 }) [.ref (ad 5), .int a1] D cI cO ad S R9 S := by
  refine CI.of (by decide +kernel) (Nat.le_of_ble_eq_true rfl) (fun p e s m args below meth c Q ls X hl hw hfin => ?_)
  have hl : lv_has ls 2 [(0, .ref (ad 5)), (1, .int a1)] := hl
  have hx := X.1
  have hb := X.2.1
  unfold f_X4_leastOf at hf
  refine lv_aload_n hx hb dX4_leastOf_0 rfl (lv_at hl 0 rfl) ?_
  refine lv_iload_n hx hb dX4_leastOf_1 rfl (lv_at hl 1 rfl) ?_
  refine lv_aload_n hx hb dX4_leastOf_2 rfl (lv_at hl 0 rfl) ?_
  refine x_get X hw 5 (Nat.le_of_ble_eq_true rfl) ce5 rfl i_X4 18 (by decide) q608 ⟨rfl, rfl, rfl⟩ rfl dX4_leastOf_3 ?_
  refine lv_iload_n hx hb dX4_leastOf_6 rfl (lv_at hl 1 rfl) ?_
  obtain ⟨h1, hf⟩ := if_s hf
  refine x_iald X hw 15 ⟨Nat.le_of_ble_eq_true rfl, Nat.le_of_ble_eq_true rfl⟩ rfl h1 (a1.toNatClampNeg) rfl dX4_leastOf_7 ?_
  obtain ⟨r3, h2, hf⟩ := b1_s hf
  refine kVi X hw (c_X4_isRight l D cI cO ad a1 (S 15 (a1.toNatClampNeg)) S r3 h2) (Nat.le_of_ble_eq_true rfl) ce5 rfl ⟨rfl, rfl⟩ q779 q781 q45 q64 q782 hd_X4_isRight ⟨Nat.le_of_ble_eq_true rfl, Nat.le_of_ble_eq_true rfl⟩ rfl hl.1 rfl (Nat.le_of_ble_eq_true rfl) dX4_leastOf_8 (fun H locs hw => ?_)
  refine lv_if_eq (tgt := 37) hx hb dX4_leastOf_11 (by decide) (fun c4 => ?_) (fun c4 => ?_)
  · replace hf := if_t c4 hf
    refine lv_iconst (v := 0) hx hb dX4_leastOf_37 (by decide) ?_
    exact hfin _ _ _ _ _ _ hw (Option.some.inj hf) rfl (narI _) dX4_leastOf_38
  · replace hf := if_f c4 hf
    refine lv_aload_n hx hb dX4_leastOf_14 rfl (lv_at hl 0 rfl) ?_
    refine lv_iload_n hx hb dX4_leastOf_15 rfl (lv_at hl 1 rfl) ?_
    refine lv_aload_n hx hb dX4_leastOf_16 rfl (lv_at hl 0 rfl) ?_
    refine x_get X hw 5 (Nat.le_of_ble_eq_true rfl) ce5 rfl i_X4 19 (by decide) q609 ⟨rfl, rfl, rfl⟩ rfl dX4_leastOf_17 ?_
    refine lv_iload_n hx hb dX4_leastOf_20 rfl (lv_at hl 1 rfl) ?_
    refine x_iald X hw 16 ⟨Nat.le_of_ble_eq_true rfl, Nat.le_of_ble_eq_true rfl⟩ rfl h1 (a1.toNatClampNeg) rfl dX4_leastOf_21 ?_
    obtain ⟨r6, h5, hf⟩ := b1_s hf
    refine kVi X hw (c_X4_byRate l D cI cO ad a1 (S 16 (a1.toNatClampNeg)) S r6 h5) (Nat.le_of_ble_eq_true rfl) ce5 rfl ⟨rfl, rfl⟩ q783 q785 q46 q64 q786 hd_X4_byRate ⟨Nat.le_of_ble_eq_true rfl, Nat.le_of_ble_eq_true rfl⟩ rfl hl.1 rfl (Nat.le_of_ble_eq_true rfl) dX4_leastOf_22 (fun H locs hw => ?_)
    refine lv_aload_n hx hb dX4_leastOf_25 rfl (lv_at hl 0 rfl) ?_
    refine lv_iload_n hx hb dX4_leastOf_26 rfl (lv_at hl 1 rfl) ?_
    refine lv_iconst (v := 3) hx hb dX4_leastOf_27 (by decide) ?_
    obtain ⟨r8, h7, hf⟩ := b1_s hf
    refine kVi X hw (c_X4_lawOf l D cI cO ad a1 (3 : Int32) S r8 h7) (Nat.le_of_ble_eq_true rfl) ce5 rfl ⟨rfl, rfl⟩ q751 q753 q41 q64 q754 hd_X4_lawOf ⟨Nat.le_of_ble_eq_true rfl, Nat.le_of_ble_eq_true rfl⟩ rfl hl.1 rfl (Nat.le_of_ble_eq_true rfl) dX4_leastOf_28 (fun H locs hw => ?_)
    obtain ⟨r10, h9, hf⟩ := b1_s hf
    refine kSi X hw (c_X4_greater l D cI cO ad r6 r8 S r10 h9) ⟨rfl, rfl⟩ q791 q792 q64 q793 hd_X4_greater ⟨Nat.le_of_ble_eq_true rfl, Nat.le_of_ble_eq_true rfl⟩ rfl hl.1 rfl (Nat.le_of_ble_eq_true rfl) dX4_leastOf_31 (fun H locs hw => ?_)
    refine lv_goto (tgt := 38) hx hb dX4_leastOf_34 (by decide) ?_
    exact hfin _ _ _ _ _ _ hw (Option.some.inj hf) rfl (narI _) dX4_leastOf_38
/-- NineLandsModel.putOf(I)I -/
theorem dX4_putOf_0 : decode cX4_putOf 0 = .ok (.aload_n 0, 1) := by decide +kernel
theorem dX4_putOf_1 : decode cX4_putOf 1 = .ok (.iload_n 1, 1) := by decide +kernel
theorem dX4_putOf_2 : decode cX4_putOf 2 = .ok (.aload_n 0, 1) := by decide +kernel
theorem dX4_putOf_3 : decode cX4_putOf 3 = .ok (.getfield 62, 3) := by decide +kernel
theorem dX4_putOf_6 : decode cX4_putOf 6 = .ok (.iload_n 1, 1) := by decide +kernel
theorem dX4_putOf_7 : decode cX4_putOf 7 = .ok (.iaload, 1) := by decide +kernel
theorem dX4_putOf_8 : decode cX4_putOf 8 = .ok (.invokevirtual 136, 3) := by decide +kernel
theorem dX4_putOf_11 : decode cX4_putOf 11 = .ok (.ifCond .ne 5, 3) := by decide +kernel
theorem dX4_putOf_14 : decode cX4_putOf 14 = .ok (.iconst 0, 1) := by decide +kernel
theorem dX4_putOf_15 : decode cX4_putOf 15 = .ok (.ireturn, 1) := by decide +kernel
theorem dX4_putOf_16 : decode cX4_putOf 16 = .ok (.aload_n 0, 1) := by decide +kernel
theorem dX4_putOf_17 : decode cX4_putOf 17 = .ok (.iload_n 1, 1) := by decide +kernel
theorem dX4_putOf_18 : decode cX4_putOf 18 = .ok (.aload_n 0, 1) := by decide +kernel
theorem dX4_putOf_19 : decode cX4_putOf 19 = .ok (.getfield 65, 3) := by decide +kernel
theorem dX4_putOf_22 : decode cX4_putOf 22 = .ok (.iload_n 1, 1) := by decide +kernel
theorem dX4_putOf_23 : decode cX4_putOf 23 = .ok (.iaload, 1) := by decide +kernel
theorem dX4_putOf_24 : decode cX4_putOf 24 = .ok (.invokevirtual 140, 3) := by decide +kernel
theorem dX4_putOf_27 : decode cX4_putOf 27 = .ok (.aload_n 0, 1) := by decide +kernel
theorem dX4_putOf_28 : decode cX4_putOf 28 = .ok (.iload_n 1, 1) := by decide +kernel
theorem dX4_putOf_29 : decode cX4_putOf 29 = .ok (.iconst 3, 1) := by decide +kernel
theorem dX4_putOf_30 : decode cX4_putOf 30 = .ok (.invokevirtual 122, 3) := by decide +kernel
theorem dX4_putOf_33 : decode cX4_putOf 33 = .ok (.invokestatic 143, 3) := by decide +kernel
theorem dX4_putOf_36 : decode cX4_putOf 36 = .ok (.aload_n 0, 1) := by decide +kernel
theorem dX4_putOf_37 : decode cX4_putOf 37 = .ok (.getfield 56, 3) := by decide +kernel
theorem dX4_putOf_40 : decode cX4_putOf 40 = .ok (.iload_n 1, 1) := by decide +kernel
theorem dX4_putOf_41 : decode cX4_putOf 41 = .ok (.iaload, 1) := by decide +kernel
theorem dX4_putOf_42 : decode cX4_putOf 42 = .ok (.imul, 1) := by decide +kernel
theorem dX4_putOf_43 : decode cX4_putOf 43 = .ok (.aload_n 0, 1) := by decide +kernel
theorem dX4_putOf_44 : decode cX4_putOf 44 = .ok (.getfield 62, 3) := by decide +kernel
theorem dX4_putOf_47 : decode cX4_putOf 47 = .ok (.iload_n 1, 1) := by decide +kernel
theorem dX4_putOf_48 : decode cX4_putOf 48 = .ok (.iaload, 1) := by decide +kernel
theorem dX4_putOf_49 : decode cX4_putOf 49 = .ok (.idiv, 1) := by decide +kernel
theorem dX4_putOf_50 : decode cX4_putOf 50 = .ok (.ireturn, 1) := by decide +kernel
theorem hd_X4_putOf : yX4_putOf.cls ≠ "java/lang/invoke/MethodHandle" ∧ yX4_putOf.cls ≠ "java/lang/invoke/VarHandle" ∧ (parseMethodDescriptor yX4_putOf.desc).map (fun d => d.parameters.length) = some 1 := by decide +kernel
def f_X4_putOf (a1 : Int32) (S : vS) : Option Int32 := if inb a1 6 = true then b1 (f_X4_isRight a1 (S 17 (a1.toNatClampNeg)) S) fun r3 => if r3 = 0 then some (0 : Int32) else b1 (f_X4_byRate a1 (S 18 (a1.toNatClampNeg)) S) fun r6 => b1 (f_X4_lawOf a1 (3 : Int32) S) fun r8 => b1 (f_X4_greater r6 r8 S) fun r10 => if ¬ (S 17 (a1.toNatClampNeg)) = 0 then some ((r10 * (S 15 (a1.toNatClampNeg))) / (S 17 (a1.toNatClampNeg))) else none else none
set_option maxHeartbeats 4000000 in
set_option maxRecDepth 20000 in
theorem c_X4_putOf (l : Launch) (D : va_G) (cI cO : ClassId) (ad : Nat → Nat) (a1 : Int32) (S : vS) (R9 : Int32) (hf : f_X4_putOf a1 S = some R9) : CI l yX4_putOf cX4_putOf 2 .int ({ frames := 2, cells := 0, slots := 0, locals := 45 }) [.ref (ad 5), .int a1] D cI cO ad S R9 S := by
  refine CI.of (by decide +kernel) (Nat.le_of_ble_eq_true rfl) (fun p e s m args below meth c Q ls X hl hw hfin => ?_)
  have hl : lv_has ls 2 [(0, .ref (ad 5)), (1, .int a1)] := hl
  have hx := X.1
  have hb := X.2.1
  unfold f_X4_putOf at hf
  refine lv_aload_n hx hb dX4_putOf_0 rfl (lv_at hl 0 rfl) ?_
  refine lv_iload_n hx hb dX4_putOf_1 rfl (lv_at hl 1 rfl) ?_
  refine lv_aload_n hx hb dX4_putOf_2 rfl (lv_at hl 0 rfl) ?_
  refine x_get X hw 5 (Nat.le_of_ble_eq_true rfl) ce5 rfl i_X4 20 (by decide) q610 ⟨rfl, rfl, rfl⟩ rfl dX4_putOf_3 ?_
  refine lv_iload_n hx hb dX4_putOf_6 rfl (lv_at hl 1 rfl) ?_
  obtain ⟨h1, hf⟩ := if_s hf
  refine x_iald X hw 17 ⟨Nat.le_of_ble_eq_true rfl, Nat.le_of_ble_eq_true rfl⟩ rfl h1 (a1.toNatClampNeg) rfl dX4_putOf_7 ?_
  obtain ⟨r3, h2, hf⟩ := b1_s hf
  refine kVi X hw (c_X4_isRight l D cI cO ad a1 (S 17 (a1.toNatClampNeg)) S r3 h2) (Nat.le_of_ble_eq_true rfl) ce5 rfl ⟨rfl, rfl⟩ q779 q781 q45 q64 q782 hd_X4_isRight ⟨Nat.le_of_ble_eq_true rfl, Nat.le_of_ble_eq_true rfl⟩ rfl hl.1 rfl (Nat.le_of_ble_eq_true rfl) dX4_putOf_8 (fun H locs hw => ?_)
  refine lv_if_ne (tgt := 16) hx hb dX4_putOf_11 (by decide) (fun c4 => ?_) (fun c4 => ?_)
  · replace hf := if_f c4 hf
    refine lv_aload_n hx hb dX4_putOf_16 rfl (lv_at hl 0 rfl) ?_
    refine lv_iload_n hx hb dX4_putOf_17 rfl (lv_at hl 1 rfl) ?_
    refine lv_aload_n hx hb dX4_putOf_18 rfl (lv_at hl 0 rfl) ?_
    refine x_get X hw 5 (Nat.le_of_ble_eq_true rfl) ce5 rfl i_X4 21 (by decide) q611 ⟨rfl, rfl, rfl⟩ rfl dX4_putOf_19 ?_
    refine lv_iload_n hx hb dX4_putOf_22 rfl (lv_at hl 1 rfl) ?_
    refine x_iald X hw 18 ⟨Nat.le_of_ble_eq_true rfl, Nat.le_of_ble_eq_true rfl⟩ rfl h1 (a1.toNatClampNeg) rfl dX4_putOf_23 ?_
    obtain ⟨r6, h5, hf⟩ := b1_s hf
    refine kVi X hw (c_X4_byRate l D cI cO ad a1 (S 18 (a1.toNatClampNeg)) S r6 h5) (Nat.le_of_ble_eq_true rfl) ce5 rfl ⟨rfl, rfl⟩ q783 q785 q46 q64 q786 hd_X4_byRate ⟨Nat.le_of_ble_eq_true rfl, Nat.le_of_ble_eq_true rfl⟩ rfl hl.1 rfl (Nat.le_of_ble_eq_true rfl) dX4_putOf_24 (fun H locs hw => ?_)
    refine lv_aload_n hx hb dX4_putOf_27 rfl (lv_at hl 0 rfl) ?_
    refine lv_iload_n hx hb dX4_putOf_28 rfl (lv_at hl 1 rfl) ?_
    refine lv_iconst (v := 3) hx hb dX4_putOf_29 (by decide) ?_
    obtain ⟨r8, h7, hf⟩ := b1_s hf
    refine kVi X hw (c_X4_lawOf l D cI cO ad a1 (3 : Int32) S r8 h7) (Nat.le_of_ble_eq_true rfl) ce5 rfl ⟨rfl, rfl⟩ q751 q753 q41 q64 q754 hd_X4_lawOf ⟨Nat.le_of_ble_eq_true rfl, Nat.le_of_ble_eq_true rfl⟩ rfl hl.1 rfl (Nat.le_of_ble_eq_true rfl) dX4_putOf_30 (fun H locs hw => ?_)
    obtain ⟨r10, h9, hf⟩ := b1_s hf
    refine kSi X hw (c_X4_greater l D cI cO ad r6 r8 S r10 h9) ⟨rfl, rfl⟩ q791 q792 q64 q793 hd_X4_greater ⟨Nat.le_of_ble_eq_true rfl, Nat.le_of_ble_eq_true rfl⟩ rfl hl.1 rfl (Nat.le_of_ble_eq_true rfl) dX4_putOf_33 (fun H locs hw => ?_)
    refine lv_aload_n hx hb dX4_putOf_36 rfl (lv_at hl 0 rfl) ?_
    refine x_get X hw 5 (Nat.le_of_ble_eq_true rfl) ce5 rfl i_X4 18 (by decide) q608 ⟨rfl, rfl, rfl⟩ rfl dX4_putOf_37 ?_
    refine lv_iload_n hx hb dX4_putOf_40 rfl (lv_at hl 1 rfl) ?_
    refine x_iald X hw 15 ⟨Nat.le_of_ble_eq_true rfl, Nat.le_of_ble_eq_true rfl⟩ rfl h1 (a1.toNatClampNeg) rfl dX4_putOf_41 ?_
    refine lv_imul hx hb dX4_putOf_42 ?_
    refine lv_aload_n hx hb dX4_putOf_43 rfl (lv_at hl 0 rfl) ?_
    refine x_get X hw 5 (Nat.le_of_ble_eq_true rfl) ce5 rfl i_X4 20 (by decide) q610 ⟨rfl, rfl, rfl⟩ rfl dX4_putOf_44 ?_
    refine lv_iload_n hx hb dX4_putOf_47 rfl (lv_at hl 1 rfl) ?_
    refine x_iald X hw 17 ⟨Nat.le_of_ble_eq_true rfl, Nat.le_of_ble_eq_true rfl⟩ rfl h1 (a1.toNatClampNeg) rfl dX4_putOf_48 ?_
    obtain ⟨h11, hf⟩ := if_s hf
    refine lv_idiv hx hb dX4_putOf_49 h11 ?_
    exact hfin _ _ _ _ _ _ hw (Option.some.inj hf) rfl (narI _) dX4_putOf_50
  · replace hf := if_t c4 hf
    refine lv_iconst (v := 0) hx hb dX4_putOf_14 (by decide) ?_
    exact hfin _ _ _ _ _ _ hw (Option.some.inj hf) rfl (narI _) dX4_putOf_15
/-- NineLandsModel.says(III)I -/
theorem dX4_says_0 : decode cX4_says 0 = .ok (.aload_n 0, 1) := by decide +kernel
theorem dX4_says_1 : decode cX4_says 1 = .ok (.iload_n 1, 1) := by decide +kernel
theorem dX4_says_2 : decode cX4_says 2 = .ok (.iconst 5, 1) := by decide +kernel
theorem dX4_says_3 : decode cX4_says 3 = .ok (.invokevirtual 122, 3) := by decide +kernel
theorem dX4_says_6 : decode cX4_says 6 = .ok (.iload_n 3, 1) := by decide +kernel
theorem dX4_says_7 : decode cX4_says 7 = .ok (.imul, 1) := by decide +kernel
theorem dX4_says_8 : decode cX4_says 8 = .ok (.bipush 100, 2) := by decide +kernel
theorem dX4_says_10 : decode cX4_says 10 = .ok (.idiv, 1) := by decide +kernel
theorem dX4_says_11 : decode cX4_says 11 = .ok (.istore 4, 2) := by decide +kernel
theorem dX4_says_13 : decode cX4_says 13 = .ok (.iload_n 2, 1) := by decide +kernel
theorem dX4_says_14 : decode cX4_says 14 = .ok (.tableswitch 103 0 4 #[34, 64, 70, 76, 90], 34) := by decide +kernel
theorem dX4_says_48 : decode cX4_says 48 = .ok (.aload_n 0, 1) := by decide +kernel
theorem dX4_says_49 : decode cX4_says 49 = .ok (.iload_n 1, 1) := by decide +kernel
theorem dX4_says_50 : decode cX4_says 50 = .ok (.aload_n 0, 1) := by decide +kernel
theorem dX4_says_51 : decode cX4_says 51 = .ok (.getfield 56, 3) := by decide +kernel
theorem dX4_says_54 : decode cX4_says 54 = .ok (.iload_n 1, 1) := by decide +kernel
theorem dX4_says_55 : decode cX4_says 55 = .ok (.iaload, 1) := by decide +kernel
theorem dX4_says_56 : decode cX4_says 56 = .ok (.invokevirtual 136, 3) := by decide +kernel
theorem dX4_says_59 : decode cX4_says 59 = .ok (.ifCond .eq 17, 3) := by decide +kernel
theorem dX4_says_62 : decode cX4_says 62 = .ok (.aload_n 0, 1) := by decide +kernel
theorem dX4_says_63 : decode cX4_says 63 = .ok (.iload_n 1, 1) := by decide +kernel
theorem dX4_says_64 : decode cX4_says 64 = .ok (.aload_n 0, 1) := by decide +kernel
theorem dX4_says_65 : decode cX4_says 65 = .ok (.getfield 59, 3) := by decide +kernel
theorem dX4_says_68 : decode cX4_says 68 = .ok (.iload_n 1, 1) := by decide +kernel
theorem dX4_says_69 : decode cX4_says 69 = .ok (.iaload, 1) := by decide +kernel
theorem dX4_says_70 : decode cX4_says 70 = .ok (.invokevirtual 140, 3) := by decide +kernel
theorem dX4_says_73 : decode cX4_says 73 = .ok (.goto 4, 3) := by decide +kernel
theorem dX4_says_76 : decode cX4_says 76 = .ok (.iconst 0, 1) := by decide +kernel
theorem dX4_says_77 : decode cX4_says 77 = .ok (.ireturn, 1) := by decide +kernel
theorem dX4_says_78 : decode cX4_says 78 = .ok (.aload_n 0, 1) := by decide +kernel
theorem dX4_says_79 : decode cX4_says 79 = .ok (.iload_n 1, 1) := by decide +kernel
theorem dX4_says_80 : decode cX4_says 80 = .ok (.invokevirtual 146, 3) := by decide +kernel
theorem dX4_says_83 : decode cX4_says 83 = .ok (.ireturn, 1) := by decide +kernel
theorem dX4_says_84 : decode cX4_says 84 = .ok (.aload_n 0, 1) := by decide +kernel
theorem dX4_says_85 : decode cX4_says 85 = .ok (.iload_n 1, 1) := by decide +kernel
theorem dX4_says_86 : decode cX4_says 86 = .ok (.invokevirtual 149, 3) := by decide +kernel
theorem dX4_says_89 : decode cX4_says 89 = .ok (.ireturn, 1) := by decide +kernel
theorem dX4_says_90 : decode cX4_says 90 = .ok (.aload_n 0, 1) := by decide +kernel
theorem dX4_says_91 : decode cX4_says 91 = .ok (.iload_n 1, 1) := by decide +kernel
theorem dX4_says_92 : decode cX4_says 92 = .ok (.invokevirtual 149, 3) := by decide +kernel
theorem dX4_says_95 : decode cX4_says 95 = .ok (.aload_n 0, 1) := by decide +kernel
theorem dX4_says_96 : decode cX4_says 96 = .ok (.iload_n 1, 1) := by decide +kernel
theorem dX4_says_97 : decode cX4_says 97 = .ok (.invokevirtual 146, 3) := by decide +kernel
theorem dX4_says_100 : decode cX4_says 100 = .ok (.invokestatic 143, 3) := by decide +kernel
theorem dX4_says_103 : decode cX4_says 103 = .ok (.ireturn, 1) := by decide +kernel
theorem dX4_says_104 : decode cX4_says 104 = .ok (.aload_n 0, 1) := by decide +kernel
theorem dX4_says_105 : decode cX4_says 105 = .ok (.iload_n 1, 1) := by decide +kernel
theorem dX4_says_106 : decode cX4_says 106 = .ok (.invokevirtual 146, 3) := by decide +kernel
theorem dX4_says_109 : decode cX4_says 109 = .ok (.iload 4, 2) := by decide +kernel
theorem dX4_says_111 : decode cX4_says 111 = .ok (.isub, 1) := by decide +kernel
theorem dX4_says_112 : decode cX4_says 112 = .ok (.iconst 0, 1) := by decide +kernel
theorem dX4_says_113 : decode cX4_says 113 = .ok (.invokestatic 143, 3) := by decide +kernel
theorem dX4_says_116 : decode cX4_says 116 = .ok (.ireturn, 1) := by decide +kernel
theorem dX4_says_117 : decode cX4_says 117 = .ok (.aload_n 0, 1) := by decide +kernel
theorem dX4_says_118 : decode cX4_says 118 = .ok (.iload_n 1, 1) := by decide +kernel
theorem dX4_says_119 : decode cX4_says 119 = .ok (.invokevirtual 149, 3) := by decide +kernel
theorem dX4_says_122 : decode cX4_says 122 = .ok (.aload_n 0, 1) := by decide +kernel
theorem dX4_says_123 : decode cX4_says 123 = .ok (.iload_n 1, 1) := by decide +kernel
theorem dX4_says_124 : decode cX4_says 124 = .ok (.invokevirtual 146, 3) := by decide +kernel
theorem dX4_says_127 : decode cX4_says 127 = .ok (.invokestatic 143, 3) := by decide +kernel
theorem dX4_says_130 : decode cX4_says 130 = .ok (.iload 4, 2) := by decide +kernel
theorem dX4_says_132 : decode cX4_says 132 = .ok (.isub, 1) := by decide +kernel
theorem dX4_says_133 : decode cX4_says 133 = .ok (.iconst 0, 1) := by decide +kernel
theorem dX4_says_134 : decode cX4_says 134 = .ok (.invokestatic 143, 3) := by decide +kernel
theorem dX4_says_137 : decode cX4_says 137 = .ok (.ireturn, 1) := by decide +kernel
theorem hd_X4_says : yX4_says.cls ≠ "java/lang/invoke/MethodHandle" ∧ yX4_says.cls ≠ "java/lang/invoke/VarHandle" ∧ (parseMethodDescriptor yX4_says.desc).map (fun d => d.parameters.length) = some 3 := by decide +kernel
def f_X4_says (a1 : Int32) (a2 : Int32) (a3 : Int32) (S : vS) : Option Int32 := b1 (f_X4_lawOf a1 (5 : Int32) S) fun r2 => lt (((r2 * a3) / (100 : Int32))) fun v3 => if a2 = (0 : Int32) then if inb a1 6 = true then b1 (f_X4_isRight a1 (S 15 (a1.toNatClampNeg)) S) fun r7 => if r7 = 0 then some (0 : Int32) else b1 (f_X4_byRate a1 (S 16 (a1.toNatClampNeg)) S) fun r10 => some r10 else none else if a2 = (1 : Int32) then b1 (f_X4_leastOf a1 S) fun r13 => some r13 else if a2 = (2 : Int32) then b1 (f_X4_putOf a1 S) fun r16 => some r16 else if a2 = (3 : Int32) then b1 (f_X4_putOf a1 S) fun r19 => b1 (f_X4_leastOf a1 S) fun r21 => b1 (f_X4_greater r19 r21 S) fun r23 => some r23 else if a2 = (4 : Int32) then b1 (f_X4_leastOf a1 S) fun r26 => b1 (f_X4_greater (r26 - v3) (0 : Int32) S) fun r28 => some r28 else b1 (f_X4_putOf a1 S) fun r30 => b1 (f_X4_leastOf a1 S) fun r32 => b1 (f_X4_greater r30 r32 S) fun r34 => b1 (f_X4_greater (r34 - v3) (0 : Int32) S) fun r36 => some r36
set_option maxHeartbeats 4000000 in
set_option maxRecDepth 20000 in
theorem c_X4_says (l : Launch) (D : va_G) (cI cO : ClassId) (ad : Nat → Nat) (a1 : Int32) (a2 : Int32) (a3 : Int32) (S : vS) (R9 : Int32) (hf : f_X4_says a1 a2 a3 S = some R9) : CI l yX4_says cX4_says 5 .int ({ frames := 3, cells := 0, slots := 0, locals := 66 }) [.ref (ad 5), .int a1, .int a2, .int a3] D cI cO ad S R9 S := by
  refine CI.of (by decide +kernel) (Nat.le_of_ble_eq_true rfl) (fun p e s m args below meth c Q ls X hl hw hfin => ?_)
  have hl : lv_has ls 5 [(0, .ref (ad 5)), (1, .int a1), (2, .int a2), (3, .int a3)] := hl
  have hx := X.1
  have hb := X.2.1
  unfold f_X4_says at hf
  refine lv_aload_n hx hb dX4_says_0 rfl (lv_at hl 0 rfl) ?_
  refine lv_iload_n hx hb dX4_says_1 rfl (lv_at hl 1 rfl) ?_
  refine lv_iconst (v := 5) hx hb dX4_says_2 (by decide) ?_
  obtain ⟨r2, h1, hf⟩ := b1_s hf
  refine kVi X hw (c_X4_lawOf l D cI cO ad a1 (5 : Int32) S r2 h1) (Nat.le_of_ble_eq_true rfl) ce5 rfl ⟨rfl, rfl⟩ q751 q753 q41 q64 q754 hd_X4_lawOf ⟨Nat.le_of_ble_eq_true rfl, Nat.le_of_ble_eq_true rfl⟩ rfl hl.1 rfl (Nat.le_of_ble_eq_true rfl) dX4_says_3 (fun H locs hw => ?_)
  refine lv_iload_n hx hb dX4_says_6 rfl (lv_at hl 3 rfl) ?_
  refine lv_imul hx hb dX4_says_7 ?_
  refine lv_bipush (v := 100) hx hb dX4_says_8 (by decide +kernel) ?_
  refine lv_idiv hx hb dX4_says_10 (by decide) ?_
  refine lv_topi (fun v3 ev3 => ?_)
  replace hf := lt_e ev3 hf
  refine lv_istore (lv' := [(4, .int v3), (0, .ref (ad 5)), (1, .int a1), (2, .int a2), (3, .int a3)]) hx hb dX4_says_11 hl (by decide) rfl (fun ls hl => ?_)
  refine lv_iload_n hx hb dX4_says_13 rfl (lv_at hl 3 rfl) ?_
  by_cases c4 : a2 = (0 : Int32)
  · replace hf := if_t c4 hf
    refine lv_tableIn (off := 34) (tgt := 48) hx hb dX4_says_14 (by rw [c4]; decide) (by rw [c4]; decide) (by rw [c4]; rfl) (by decide) ?_
    refine lv_aload_n hx hb dX4_says_48 rfl (lv_at hl 1 rfl) ?_
    refine lv_iload_n hx hb dX4_says_49 rfl (lv_at hl 2 rfl) ?_
    refine lv_aload_n hx hb dX4_says_50 rfl (lv_at hl 1 rfl) ?_
    refine x_get X hw 5 (Nat.le_of_ble_eq_true rfl) ce5 rfl i_X4 18 (by decide) q608 ⟨rfl, rfl, rfl⟩ rfl dX4_says_51 ?_
    refine lv_iload_n hx hb dX4_says_54 rfl (lv_at hl 2 rfl) ?_
    obtain ⟨h5, hf⟩ := if_s hf
    refine x_iald X hw 15 ⟨Nat.le_of_ble_eq_true rfl, Nat.le_of_ble_eq_true rfl⟩ rfl h5 (a1.toNatClampNeg) rfl dX4_says_55 ?_
    obtain ⟨r7, h6, hf⟩ := b1_s hf
    refine kVi X hw (c_X4_isRight l D cI cO ad a1 (S 15 (a1.toNatClampNeg)) S r7 h6) (Nat.le_of_ble_eq_true rfl) ce5 rfl ⟨rfl, rfl⟩ q779 q781 q45 q64 q782 hd_X4_isRight ⟨Nat.le_of_ble_eq_true rfl, Nat.le_of_ble_eq_true rfl⟩ rfl hl.1 rfl (Nat.le_of_ble_eq_true rfl) dX4_says_56 (fun H locs hw => ?_)
    refine lv_if_eq (tgt := 76) hx hb dX4_says_59 (by decide) (fun c8 => ?_) (fun c8 => ?_)
    · replace hf := if_t c8 hf
      refine lv_iconst (v := 0) hx hb dX4_says_76 (by decide) ?_
      exact hfin _ _ _ _ _ _ hw (Option.some.inj hf) rfl (narI _) dX4_says_77
    · replace hf := if_f c8 hf
      refine lv_aload_n hx hb dX4_says_62 rfl (lv_at hl 1 rfl) ?_
      refine lv_iload_n hx hb dX4_says_63 rfl (lv_at hl 2 rfl) ?_
      refine lv_aload_n hx hb dX4_says_64 rfl (lv_at hl 1 rfl) ?_
      refine x_get X hw 5 (Nat.le_of_ble_eq_true rfl) ce5 rfl i_X4 19 (by decide) q609 ⟨rfl, rfl, rfl⟩ rfl dX4_says_65 ?_
      refine lv_iload_n hx hb dX4_says_68 rfl (lv_at hl 2 rfl) ?_
      refine x_iald X hw 16 ⟨Nat.le_of_ble_eq_true rfl, Nat.le_of_ble_eq_true rfl⟩ rfl h5 (a1.toNatClampNeg) rfl dX4_says_69 ?_
      obtain ⟨r10, h9, hf⟩ := b1_s hf
      refine kVi X hw (c_X4_byRate l D cI cO ad a1 (S 16 (a1.toNatClampNeg)) S r10 h9) (Nat.le_of_ble_eq_true rfl) ce5 rfl ⟨rfl, rfl⟩ q783 q785 q46 q64 q786 hd_X4_byRate ⟨Nat.le_of_ble_eq_true rfl, Nat.le_of_ble_eq_true rfl⟩ rfl hl.1 rfl (Nat.le_of_ble_eq_true rfl) dX4_says_70 (fun H locs hw => ?_)
      refine lv_goto (tgt := 77) hx hb dX4_says_73 (by decide) ?_
      exact hfin _ _ _ _ _ _ hw (Option.some.inj hf) rfl (narI _) dX4_says_77
  · replace hf := if_f c4 hf
    by_cases c11 : a2 = (1 : Int32)
    · replace hf := if_t c11 hf
      refine lv_tableIn (off := 64) (tgt := 78) hx hb dX4_says_14 (by rw [c11]; decide) (by rw [c11]; decide) (by rw [c11]; rfl) (by decide) ?_
      refine lv_aload_n hx hb dX4_says_78 rfl (lv_at hl 1 rfl) ?_
      refine lv_iload_n hx hb dX4_says_79 rfl (lv_at hl 2 rfl) ?_
      obtain ⟨r13, h12, hf⟩ := b1_s hf
      refine kVi X hw (c_X4_leastOf l D cI cO ad a1 S r13 h12) (Nat.le_of_ble_eq_true rfl) ce5 rfl ⟨rfl, rfl⟩ q787 q789 q47 q64 q790 hd_X4_leastOf ⟨Nat.le_of_ble_eq_true rfl, Nat.le_of_ble_eq_true rfl⟩ rfl hl.1 rfl (Nat.le_of_ble_eq_true rfl) dX4_says_80 (fun H locs hw => ?_)
      exact hfin _ _ _ _ _ _ hw (Option.some.inj hf) rfl (narI _) dX4_says_83
    · replace hf := if_f c11 hf
      by_cases c14 : a2 = (2 : Int32)
      · replace hf := if_t c14 hf
        refine lv_tableIn (off := 70) (tgt := 84) hx hb dX4_says_14 (by rw [c14]; decide) (by rw [c14]; decide) (by rw [c14]; rfl) (by decide) ?_
        refine lv_aload_n hx hb dX4_says_84 rfl (lv_at hl 1 rfl) ?_
        refine lv_iload_n hx hb dX4_says_85 rfl (lv_at hl 2 rfl) ?_
        obtain ⟨r16, h15, hf⟩ := b1_s hf
        refine kVi X hw (c_X4_putOf l D cI cO ad a1 S r16 h15) (Nat.le_of_ble_eq_true rfl) ce5 rfl ⟨rfl, rfl⟩ q794 q796 q48 q64 q797 hd_X4_putOf ⟨Nat.le_of_ble_eq_true rfl, Nat.le_of_ble_eq_true rfl⟩ rfl hl.1 rfl (Nat.le_of_ble_eq_true rfl) dX4_says_86 (fun H locs hw => ?_)
        exact hfin _ _ _ _ _ _ hw (Option.some.inj hf) rfl (narI _) dX4_says_89
      · replace hf := if_f c14 hf
        by_cases c17 : a2 = (3 : Int32)
        · replace hf := if_t c17 hf
          refine lv_tableIn (off := 76) (tgt := 90) hx hb dX4_says_14 (by rw [c17]; decide) (by rw [c17]; decide) (by rw [c17]; rfl) (by decide) ?_
          refine lv_aload_n hx hb dX4_says_90 rfl (lv_at hl 1 rfl) ?_
          refine lv_iload_n hx hb dX4_says_91 rfl (lv_at hl 2 rfl) ?_
          obtain ⟨r19, h18, hf⟩ := b1_s hf
          refine kVi X hw (c_X4_putOf l D cI cO ad a1 S r19 h18) (Nat.le_of_ble_eq_true rfl) ce5 rfl ⟨rfl, rfl⟩ q794 q796 q48 q64 q797 hd_X4_putOf ⟨Nat.le_of_ble_eq_true rfl, Nat.le_of_ble_eq_true rfl⟩ rfl hl.1 rfl (Nat.le_of_ble_eq_true rfl) dX4_says_92 (fun H locs hw => ?_)
          refine lv_aload_n hx hb dX4_says_95 rfl (lv_at hl 1 rfl) ?_
          refine lv_iload_n hx hb dX4_says_96 rfl (lv_at hl 2 rfl) ?_
          obtain ⟨r21, h20, hf⟩ := b1_s hf
          refine kVi X hw (c_X4_leastOf l D cI cO ad a1 S r21 h20) (Nat.le_of_ble_eq_true rfl) ce5 rfl ⟨rfl, rfl⟩ q787 q789 q47 q64 q790 hd_X4_leastOf ⟨Nat.le_of_ble_eq_true rfl, Nat.le_of_ble_eq_true rfl⟩ rfl hl.1 rfl (Nat.le_of_ble_eq_true rfl) dX4_says_97 (fun H locs hw => ?_)
          obtain ⟨r23, h22, hf⟩ := b1_s hf
          refine kSi X hw (c_X4_greater l D cI cO ad r19 r21 S r23 h22) ⟨rfl, rfl⟩ q791 q792 q64 q793 hd_X4_greater ⟨Nat.le_of_ble_eq_true rfl, Nat.le_of_ble_eq_true rfl⟩ rfl hl.1 rfl (Nat.le_of_ble_eq_true rfl) dX4_says_100 (fun H locs hw => ?_)
          exact hfin _ _ _ _ _ _ hw (Option.some.inj hf) rfl (narI _) dX4_says_103
        · replace hf := if_f c17 hf
          by_cases c24 : a2 = (4 : Int32)
          · replace hf := if_t c24 hf
            refine lv_tableIn (off := 90) (tgt := 104) hx hb dX4_says_14 (by rw [c24]; decide) (by rw [c24]; decide) (by rw [c24]; rfl) (by decide) ?_
            refine lv_aload_n hx hb dX4_says_104 rfl (lv_at hl 1 rfl) ?_
            refine lv_iload_n hx hb dX4_says_105 rfl (lv_at hl 2 rfl) ?_
            obtain ⟨r26, h25, hf⟩ := b1_s hf
            refine kVi X hw (c_X4_leastOf l D cI cO ad a1 S r26 h25) (Nat.le_of_ble_eq_true rfl) ce5 rfl ⟨rfl, rfl⟩ q787 q789 q47 q64 q790 hd_X4_leastOf ⟨Nat.le_of_ble_eq_true rfl, Nat.le_of_ble_eq_true rfl⟩ rfl hl.1 rfl (Nat.le_of_ble_eq_true rfl) dX4_says_106 (fun H locs hw => ?_)
            refine lv_iload hx hb dX4_says_109 (lv_at hl 0 rfl) ?_
            refine lv_isub hx hb dX4_says_111 ?_
            refine lv_iconst (v := 0) hx hb dX4_says_112 (by decide) ?_
            obtain ⟨r28, h27, hf⟩ := b1_s hf
            refine kSi X hw (c_X4_greater l D cI cO ad (r26 - v3) (0 : Int32) S r28 h27) ⟨rfl, rfl⟩ q791 q792 q64 q793 hd_X4_greater ⟨Nat.le_of_ble_eq_true rfl, Nat.le_of_ble_eq_true rfl⟩ rfl hl.1 rfl (Nat.le_of_ble_eq_true rfl) dX4_says_113 (fun H locs hw => ?_)
            exact hfin _ _ _ _ _ _ hw (Option.some.inj hf) rfl (narI _) dX4_says_116
          · replace hf := if_f c24 hf
            have nc4 : ¬ (a2).toInt = 0 := lv_neT c4 (by decide)
            have nc11 : ¬ (a2).toInt = 1 := lv_neT c11 (by decide)
            have nc14 : ¬ (a2).toInt = 2 := lv_neT c14 (by decide)
            have nc17 : ¬ (a2).toInt = 3 := lv_neT c17 (by decide)
            have nc24 : ¬ (a2).toInt = 4 := lv_neT c24 (by decide)
            refine lv_tableOut (tgt := 117) hx hb dX4_says_14 (by omega) (by decide) ?_
            refine lv_aload_n hx hb dX4_says_117 rfl (lv_at hl 1 rfl) ?_
            refine lv_iload_n hx hb dX4_says_118 rfl (lv_at hl 2 rfl) ?_
            obtain ⟨r30, h29, hf⟩ := b1_s hf
            refine kVi X hw (c_X4_putOf l D cI cO ad a1 S r30 h29) (Nat.le_of_ble_eq_true rfl) ce5 rfl ⟨rfl, rfl⟩ q794 q796 q48 q64 q797 hd_X4_putOf ⟨Nat.le_of_ble_eq_true rfl, Nat.le_of_ble_eq_true rfl⟩ rfl hl.1 rfl (Nat.le_of_ble_eq_true rfl) dX4_says_119 (fun H locs hw => ?_)
            refine lv_aload_n hx hb dX4_says_122 rfl (lv_at hl 1 rfl) ?_
            refine lv_iload_n hx hb dX4_says_123 rfl (lv_at hl 2 rfl) ?_
            obtain ⟨r32, h31, hf⟩ := b1_s hf
            refine kVi X hw (c_X4_leastOf l D cI cO ad a1 S r32 h31) (Nat.le_of_ble_eq_true rfl) ce5 rfl ⟨rfl, rfl⟩ q787 q789 q47 q64 q790 hd_X4_leastOf ⟨Nat.le_of_ble_eq_true rfl, Nat.le_of_ble_eq_true rfl⟩ rfl hl.1 rfl (Nat.le_of_ble_eq_true rfl) dX4_says_124 (fun H locs hw => ?_)
            obtain ⟨r34, h33, hf⟩ := b1_s hf
            refine kSi X hw (c_X4_greater l D cI cO ad r30 r32 S r34 h33) ⟨rfl, rfl⟩ q791 q792 q64 q793 hd_X4_greater ⟨Nat.le_of_ble_eq_true rfl, Nat.le_of_ble_eq_true rfl⟩ rfl hl.1 rfl (Nat.le_of_ble_eq_true rfl) dX4_says_127 (fun H locs hw => ?_)
            refine lv_iload hx hb dX4_says_130 (lv_at hl 0 rfl) ?_
            refine lv_isub hx hb dX4_says_132 ?_
            refine lv_iconst (v := 0) hx hb dX4_says_133 (by decide) ?_
            obtain ⟨r36, h35, hf⟩ := b1_s hf
            refine kSi X hw (c_X4_greater l D cI cO ad (r34 - v3) (0 : Int32) S r36 h35) ⟨rfl, rfl⟩ q791 q792 q64 q793 hd_X4_greater ⟨Nat.le_of_ble_eq_true rfl, Nat.le_of_ble_eq_true rfl⟩ rfl hl.1 rfl (Nat.le_of_ble_eq_true rfl) dX4_says_134 (fun H locs hw => ?_)
            exact hfin _ _ _ _ _ _ hw (Option.some.inj hf) rfl (narI _) dX4_says_137
/-- NineLandsModel.sumOf([I)I -/
theorem dX4_sumOf_0 : decode cX4_sumOf 0 = .ok (.iconst 0, 1) := by decide +kernel
theorem dX4_sumOf_1 : decode cX4_sumOf 1 = .ok (.istore_n 2, 1) := by decide +kernel
theorem dX4_sumOf_2 : decode cX4_sumOf 2 = .ok (.iconst 0, 1) := by decide +kernel
theorem dX4_sumOf_3 : decode cX4_sumOf 3 = .ok (.istore_n 3, 1) := by decide +kernel
theorem dX4_sumOf_4 : decode cX4_sumOf 4 = .ok (.iload_n 3, 1) := by decide +kernel
theorem dX4_sumOf_5 : decode cX4_sumOf 5 = .ok (.bipush 6, 2) := by decide +kernel
theorem dX4_sumOf_7 : decode cX4_sumOf 7 = .ok (.if_icmp .ge 15, 3) := by decide +kernel
theorem dX4_sumOf_10 : decode cX4_sumOf 10 = .ok (.iload_n 2, 1) := by decide +kernel
theorem dX4_sumOf_11 : decode cX4_sumOf 11 = .ok (.aload_n 1, 1) := by decide +kernel
theorem dX4_sumOf_12 : decode cX4_sumOf 12 = .ok (.iload_n 3, 1) := by decide +kernel
theorem dX4_sumOf_13 : decode cX4_sumOf 13 = .ok (.iaload, 1) := by decide +kernel
theorem dX4_sumOf_14 : decode cX4_sumOf 14 = .ok (.iadd, 1) := by decide +kernel
theorem dX4_sumOf_15 : decode cX4_sumOf 15 = .ok (.istore_n 2, 1) := by decide +kernel
theorem dX4_sumOf_16 : decode cX4_sumOf 16 = .ok (.iinc 3 1, 3) := by decide +kernel
theorem dX4_sumOf_19 : decode cX4_sumOf 19 = .ok (.goto (-15), 3) := by decide +kernel
theorem dX4_sumOf_22 : decode cX4_sumOf 22 = .ok (.iload_n 2, 1) := by decide +kernel
theorem dX4_sumOf_23 : decode cX4_sumOf 23 = .ok (.ireturn, 1) := by decide +kernel
theorem hd_X4_sumOf : yX4_sumOf.cls ≠ "java/lang/invoke/MethodHandle" ∧ yX4_sumOf.cls ≠ "java/lang/invoke/VarHandle" ∧ (parseMethodDescriptor yX4_sumOf.desc).map (fun d => d.parameters.length) = some 1 := by decide +kernel
def f_X4_sumOf_L4 (S : vS) : Nat → Nat → Int32 → Int32 →  Option Int32
  | 0, _, _, _ => none
  | n + 1, x1, x2, x3 => if (6 : Int32) ≤ x3 then some x2 else if 1 ≤ x1 ∧ x1 ≤ 97 then if inb x3 (alen x1) = true then lt ((x2 + (S x1 (x3.toNatClampNeg)))) fun v4 => (f_X4_sumOf_L4 S n) x1 v4 (x3 + 1) else none else none
def f_X4_sumOf (a1 : Nat) (S : vS) : Option Int32 := b1 (f_X4_sumOf_L4 S FU a1 (0 : Int32) (0 : Int32)) fun y5 => some y5
set_option maxHeartbeats 4000000 in
set_option maxRecDepth 20000 in
theorem c_X4_sumOf (l : Launch) (D : va_G) (cI cO : ClassId) (ad : Nat → Nat) (a1 : Nat) (S : vS) (R9 : Int32) (hf : f_X4_sumOf a1 S = some R9) : CI l yX4_sumOf cX4_sumOf 4 .int ({ frames := 0, cells := 0, slots := 0, locals := 0 }) [.ref (ad 5), .ref (ar ad a1)] D cI cO ad S R9 S := by
  refine CI.of (by decide +kernel) (Nat.le_of_ble_eq_true rfl) (fun p e s m args below meth c Q ls X hl hw hfin => ?_)
  have hl : lv_has ls 4 [(0, .ref (ad 5)), (1, .ref (ar ad a1))] := hl
  have hx := X.1
  have hb := X.2.1
  have L4 : ∀ (n : Nat) (x1 : Nat) (x2 : Int32) (x3 : Int32) (res : Int32), f_X4_sumOf_L4 S n x1 x2 x3 = some res → (K : ∀ (y2 : Int32), some y2 = some res → ∀ (H : Heap) (locs : List Loc) (ls : Array Slot), WD D cI cO ad s S H locs → lv_has ls 4 [(2, .int y2)] → W p l e ({ frames := 0, cells := 0, slots := 0, locals := 0 }) s m args below meth c H locs 0 0 Q (F0 m 22 ls [])) → ∀ (H : Heap) (locs : List Loc) (ls : Array Slot), WD D cI cO ad s S H locs → lv_has ls 4 [(1, .ref (ar ad x1)), (2, .int x2), (3, .int x3)] → W p l e ({ frames := 0, cells := 0, slots := 0, locals := 0 }) s m args below meth c H locs 0 0 Q (F0 m 4 ls []) := by
    intro n
    induction n with
    | zero => intro x1 x2 x3 res hf; cases hf
    | succ n ih =>
      intro x1 x2 x3 res hf K H locs ls hw hl
      unfold f_X4_sumOf_L4 at hf
      refine lv_iload_n hx hb dX4_sumOf_4 rfl (lv_at hl 2 rfl) ?_
      refine lv_bipush (v := 6) hx hb dX4_sumOf_5 (by decide +kernel) ?_
      refine lv_icmp_ge (tgt := 22) hx hb dX4_sumOf_7 (by decide) (fun c1 => ?_) (fun c1 => ?_)
      · replace hf := if_t c1 hf
        exact K x2 hf _ _ _ hw (lv_sub hl [1] rfl)
      · replace hf := if_f c1 hf
        refine lv_iload_n hx hb dX4_sumOf_10 rfl (lv_at hl 1 rfl) ?_
        refine lv_aload_n hx hb dX4_sumOf_11 rfl (lv_at hl 0 rfl) ?_
        refine lv_iload_n hx hb dX4_sumOf_12 rfl (lv_at hl 2 rfl) ?_
        obtain ⟨h2, hf⟩ := if_s hf
        obtain ⟨h3, hf⟩ := if_s hf
        refine x_iald X hw x1 h2 rfl h3 (x3.toNatClampNeg) rfl dX4_sumOf_13 ?_
        refine lv_iadd hx hb dX4_sumOf_14 ?_
        refine lv_topi (fun v4 ev4 => ?_)
        replace hf := lt_e ev4 hf
        refine lv_istore_n (lv' := [(2, .int v4), (1, .ref (ar ad x1)), (3, .int x3)]) hx hb dX4_sumOf_15 rfl hl (by decide) rfl (fun ls hl => ?_)
        refine lv_iinc (v := (x3 + 1)) (lv' := [(3, .int (x3 + 1)), (2, .int v4), (1, .ref (ar ad x1))]) hx hb dX4_sumOf_16 hl (k := 2) rfl rfl (by decide) rfl (fun ls hl => ?_)
        refine lv_goto (tgt := 4) hx hb dX4_sumOf_19 (by decide) ?_
        exact ih x1 v4 (x3 + 1) _ hf K _ _ _ hw (lv_sub hl [2, 1, 0] rfl)
  unfold f_X4_sumOf at hf
  refine lv_iconst (v := 0) hx hb dX4_sumOf_0 (by decide) ?_
  refine lv_istore_n (lv' := [(2, .int (0 : Int32)), (0, .ref (ad 5)), (1, .ref (ar ad a1))]) hx hb dX4_sumOf_1 rfl hl (by decide) rfl (fun ls hl => ?_)
  refine lv_iconst (v := 0) hx hb dX4_sumOf_2 (by decide) ?_
  refine lv_istore_n (lv' := [(3, .int (0 : Int32)), (2, .int (0 : Int32)), (0, .ref (ad 5)), (1, .ref (ar ad a1))]) hx hb dX4_sumOf_3 rfl hl (by decide) rfl (fun ls hl => ?_)
  obtain ⟨y5, h6, hf⟩ := b1_s hf
  refine L4 FU a1 (0 : Int32) (0 : Int32) _ h6 (fun y5' eK H locs ls hw hl => ?_) _ _ _ hw (lv_sub hl [3, 1, 0] rfl)
  cases eK
  refine lv_iload_n hx hb dX4_sumOf_22 rfl (lv_at hl 0 rfl) ?_
  exact hfin _ _ _ _ _ _ hw (Option.some.inj hf) rfl (narI _) dX4_sumOf_23
/-- NineLandsModel.finds(I)V -/
theorem dX4_finds_0 : decode cX4_finds 0 = .ok (.aload_n 0, 1) := by decide +kernel
theorem dX4_finds_1 : decode cX4_finds 1 = .ok (.iload_n 1, 1) := by decide +kernel
theorem dX4_finds_2 : decode cX4_finds 2 = .ok (.invokevirtual 133, 3) := by decide +kernel
theorem dX4_finds_5 : decode cX4_finds 5 = .ok (.iconst 0, 1) := by decide +kernel
theorem dX4_finds_6 : decode cX4_finds 6 = .ok (.istore_n 2, 1) := by decide +kernel
theorem dX4_finds_7 : decode cX4_finds 7 = .ok (.iload_n 2, 1) := by decide +kernel
theorem dX4_finds_8 : decode cX4_finds 8 = .ok (.bipush 6, 2) := by decide +kernel
theorem dX4_finds_10 : decode cX4_finds 10 = .ok (.if_icmp .ge 16, 3) := by decide +kernel
theorem dX4_finds_13 : decode cX4_finds 13 = .ok (.aload_n 0, 1) := by decide +kernel
theorem dX4_finds_14 : decode cX4_finds 14 = .ok (.getfield 68, 3) := by decide +kernel
theorem dX4_finds_17 : decode cX4_finds 17 = .ok (.iload_n 2, 1) := by decide +kernel
theorem dX4_finds_18 : decode cX4_finds 18 = .ok (.iconst 0, 1) := by decide +kernel
theorem dX4_finds_19 : decode cX4_finds 19 = .ok (.iastore, 1) := by decide +kernel
theorem dX4_finds_20 : decode cX4_finds 20 = .ok (.iinc 2 1, 3) := by decide +kernel
theorem dX4_finds_23 : decode cX4_finds 23 = .ok (.goto (-16), 3) := by decide +kernel
theorem dX4_finds_26 : decode cX4_finds 26 = .ok (.aload_n 0, 1) := by decide +kernel
theorem dX4_finds_27 : decode cX4_finds 27 = .ok (.iconst 0, 1) := by decide +kernel
theorem dX4_finds_28 : decode cX4_finds 28 = .ok (.putfield 152, 3) := by decide +kernel
theorem dX4_finds_31 : decode cX4_finds 31 = .ok (.iconst 0, 1) := by decide +kernel
theorem dX4_finds_32 : decode cX4_finds 32 = .ok (.istore_n 2, 1) := by decide +kernel
theorem dX4_finds_33 : decode cX4_finds 33 = .ok (.iload_n 2, 1) := by decide +kernel
theorem dX4_finds_34 : decode cX4_finds 34 = .ok (.bipush 20, 2) := by decide +kernel
theorem dX4_finds_36 : decode cX4_finds 36 = .ok (.if_icmp .ge 87, 3) := by decide +kernel
theorem dX4_finds_39 : decode cX4_finds 39 = .ok (.aload_n 0, 1) := by decide +kernel
theorem dX4_finds_40 : decode cX4_finds 40 = .ok (.getfield 152, 3) := by decide +kernel
theorem dX4_finds_43 : decode cX4_finds 43 = .ok (.ifCond .ne 80, 3) := by decide +kernel
theorem dX4_finds_46 : decode cX4_finds 46 = .ok (.aload_n 0, 1) := by decide +kernel
theorem dX4_finds_47 : decode cX4_finds 47 = .ok (.iconst 1, 1) := by decide +kernel
theorem dX4_finds_48 : decode cX4_finds 48 = .ok (.putfield 152, 3) := by decide +kernel
theorem dX4_finds_51 : decode cX4_finds 51 = .ok (.iconst 0, 1) := by decide +kernel
theorem dX4_finds_52 : decode cX4_finds 52 = .ok (.istore_n 3, 1) := by decide +kernel
theorem dX4_finds_53 : decode cX4_finds 53 = .ok (.iload_n 3, 1) := by decide +kernel
theorem dX4_finds_54 : decode cX4_finds 54 = .ok (.bipush 6, 2) := by decide +kernel
theorem dX4_finds_56 : decode cX4_finds 56 = .ok (.if_icmp .ge 61, 3) := by decide +kernel
theorem dX4_finds_59 : decode cX4_finds 59 = .ok (.aload_n 0, 1) := by decide +kernel
theorem dX4_finds_60 : decode cX4_finds 60 = .ok (.iload_n 3, 1) := by decide +kernel
theorem dX4_finds_61 : decode cX4_finds 61 = .ok (.aload_n 0, 1) := by decide +kernel
theorem dX4_finds_62 : decode cX4_finds 62 = .ok (.getfield 40, 3) := by decide +kernel
theorem dX4_finds_65 : decode cX4_finds 65 = .ok (.iload_n 3, 1) := by decide +kernel
theorem dX4_finds_66 : decode cX4_finds 66 = .ok (.iaload, 1) := by decide +kernel
theorem dX4_finds_67 : decode cX4_finds 67 = .ok (.aload_n 0, 1) := by decide +kernel
theorem dX4_finds_68 : decode cX4_finds 68 = .ok (.aload_n 0, 1) := by decide +kernel
theorem dX4_finds_69 : decode cX4_finds 69 = .ok (.getfield 68, 3) := by decide +kernel
theorem dX4_finds_72 : decode cX4_finds 72 = .ok (.invokevirtual 156, 3) := by decide +kernel
theorem dX4_finds_75 : decode cX4_finds 75 = .ok (.aload_n 0, 1) := by decide +kernel
theorem dX4_finds_76 : decode cX4_finds 76 = .ok (.getfield 68, 3) := by decide +kernel
theorem dX4_finds_79 : decode cX4_finds 79 = .ok (.iload_n 3, 1) := by decide +kernel
theorem dX4_finds_80 : decode cX4_finds 80 = .ok (.iaload, 1) := by decide +kernel
theorem dX4_finds_81 : decode cX4_finds 81 = .ok (.isub, 1) := by decide +kernel
theorem dX4_finds_82 : decode cX4_finds 82 = .ok (.invokevirtual 160, 3) := by decide +kernel
theorem dX4_finds_85 : decode cX4_finds 85 = .ok (.istore 4, 2) := by decide +kernel
theorem dX4_finds_87 : decode cX4_finds 87 = .ok (.iload 4, 2) := by decide +kernel
theorem dX4_finds_89 : decode cX4_finds 89 = .ok (.aload_n 0, 1) := by decide +kernel
theorem dX4_finds_90 : decode cX4_finds 90 = .ok (.getfield 68, 3) := by decide +kernel
theorem dX4_finds_93 : decode cX4_finds 93 = .ok (.iload_n 3, 1) := by decide +kernel
theorem dX4_finds_94 : decode cX4_finds 94 = .ok (.iaload, 1) := by decide +kernel
theorem dX4_finds_95 : decode cX4_finds 95 = .ok (.if_icmp .eq 8, 3) := by decide +kernel
theorem dX4_finds_98 : decode cX4_finds 98 = .ok (.aload_n 0, 1) := by decide +kernel
theorem dX4_finds_99 : decode cX4_finds 99 = .ok (.iconst 0, 1) := by decide +kernel
theorem dX4_finds_100 : decode cX4_finds 100 = .ok (.putfield 152, 3) := by decide +kernel
theorem dX4_finds_103 : decode cX4_finds 103 = .ok (.aload_n 0, 1) := by decide +kernel
theorem dX4_finds_104 : decode cX4_finds 104 = .ok (.getfield 68, 3) := by decide +kernel
theorem dX4_finds_107 : decode cX4_finds 107 = .ok (.iload_n 3, 1) := by decide +kernel
theorem dX4_finds_108 : decode cX4_finds 108 = .ok (.iload 4, 2) := by decide +kernel
theorem dX4_finds_110 : decode cX4_finds 110 = .ok (.iastore, 1) := by decide +kernel
theorem dX4_finds_111 : decode cX4_finds 111 = .ok (.iinc 3 1, 3) := by decide +kernel
theorem dX4_finds_114 : decode cX4_finds 114 = .ok (.goto (-61), 3) := by decide +kernel
theorem dX4_finds_117 : decode cX4_finds 117 = .ok (.iinc 2 1, 3) := by decide +kernel
theorem dX4_finds_120 : decode cX4_finds 120 = .ok (.goto (-87), 3) := by decide +kernel
theorem dX4_finds_123 : decode cX4_finds 123 = .ok (.return_, 1) := by decide +kernel
theorem hd_X4_finds : yX4_finds.cls ≠ "java/lang/invoke/MethodHandle" ∧ yX4_finds.cls ≠ "java/lang/invoke/VarHandle" ∧ (parseMethodDescriptor yX4_finds.desc).map (fun d => d.parameters.length) = some 1 := by decide +kernel
def f_X4_finds_L7 : Nat → Int32 → vS → Option vS
  | 0, _, _ => none
  | n + 1, x2, S => if (6 : Int32) ≤ x2 then some S else if inb x2 6 = true then lt (upk S 19 (upd (S 19) (x2.toNatClampNeg) (0 : Int32))) fun S5 => (f_X4_finds_L7 n) (x2 + 1) S5 else none
def f_X4_finds_L53 : Nat → Int32 → Int32 → vS → Option vS
  | 0, _, _, _ => none
  | n + 1, x2, x3, S => if (6 : Int32) ≤ x3 then some S else if inb x3 6 = true then b1 (f_X4_sumOf 19 S) fun r14 => b1 (f_X4_says x3 (S 11 (x3.toNatClampNeg)) (r14 - (S 19 (x3.toNatClampNeg))) S) fun r16 => if r16 = (S 19 (x3.toNatClampNeg)) then lt (upk S 19 (upd (S 19) (x3.toNatClampNeg) r16)) fun S18 => (f_X4_finds_L53 n) x2 (x3 + 1) S18 else lt (upk S 0 (upd (S 0) 4 (0 : Int32))) fun S19 => lt (upk S19 19 (upd (S19 19) (x3.toNatClampNeg) r16)) fun S20 => (f_X4_finds_L53 n) x2 (x3 + 1) S20 else none
def f_X4_finds_L33 : Nat → Int32 → vS → Option vS
  | 0, _, _ => none
  | n + 1, x2, S => if (20 : Int32) ≤ x2 then some S else if (S 0 4) = 0 then lt (upk S 0 (upd (S 0) 4 (1 : Int32))) fun S10 => b1 (f_X4_finds_L53 FU x2 (0 : Int32) S10) fun S21 => (f_X4_finds_L33 n) (x2 + 1) S21 else some S
def f_X4_finds (a1 : Int32) (S : vS) : Option vS := b1 (f_X4_findMonths a1 S) fun S2 => b1 (f_X4_finds_L7 FU (0 : Int32) S2) fun S6 => lt (upk S6 0 (upd (S6 0) 4 (0 : Int32))) fun S7 => b1 (f_X4_finds_L33 FU (0 : Int32) S7) fun S23 => some S23
set_option maxHeartbeats 4000000 in
set_option maxRecDepth 20000 in
theorem c_X4_finds (l : Launch) (D : va_G) (cI cO : ClassId) (ad : Nat → Nat) (a1 : Int32) (S : vS) (S9 : vS) (hf : f_X4_finds a1 S = some S9) : CV l yX4_finds cX4_finds 5 ({ frames := 4, cells := 0, slots := 0, locals := 90 }) [.ref (ad 5), .int a1] D cI cO ad S S9 := by
  refine CV.of (r := 0) (by decide +kernel) (Nat.le_of_ble_eq_true rfl) (fun p e s m args below meth c Q ls X hl hw hfin => ?_)
  have hl : lv_has ls 5 [(0, .ref (ad 5)), (1, .int a1)] := hl
  have hx := X.1
  have hb := X.2.1
  have L7 : ∀ (n : Nat) (x2 : Int32) (S : vS) (res : vS), f_X4_finds_L7 n x2 S = some res → (K : ∀  (S2 : vS), some S2 = some res → ∀ (H : Heap) (locs : List Loc) (ls : Array Slot), WD D cI cO ad s S2 H locs → lv_has ls 5 [(0, .ref (ad 5))] → W p l e ({ frames := 4, cells := 0, slots := 0, locals := 90 }) s m args below meth c H locs 0 0 Q (F0 m 26 ls [])) → ∀ (H : Heap) (locs : List Loc) (ls : Array Slot), WD D cI cO ad s S H locs → lv_has ls 5 [(0, .ref (ad 5)), (2, .int x2)] → W p l e ({ frames := 4, cells := 0, slots := 0, locals := 90 }) s m args below meth c H locs 0 0 Q (F0 m 7 ls []) := by
    intro n
    induction n with
    | zero => intro x2 S res hf; cases hf
    | succ n ih =>
      intro x2 S res hf K H locs ls hw hl
      unfold f_X4_finds_L7 at hf
      refine lv_iload_n hx hb dX4_finds_7 rfl (lv_at hl 1 rfl) ?_
      refine lv_bipush (v := 6) hx hb dX4_finds_8 (by decide +kernel) ?_
      refine lv_icmp_ge (tgt := 26) hx hb dX4_finds_10 (by decide) (fun c3 => ?_) (fun c3 => ?_)
      · replace hf := if_t c3 hf
        exact K S hf _ _ _ hw (lv_sub hl [0] rfl)
      · replace hf := if_f c3 hf
        refine lv_aload_n hx hb dX4_finds_13 rfl (lv_at hl 0 rfl) ?_
        refine x_get X hw 5 (Nat.le_of_ble_eq_true rfl) ce5 rfl i_X4 22 (by decide) q612 ⟨rfl, rfl, rfl⟩ rfl dX4_finds_14 ?_
        refine lv_iload_n hx hb dX4_finds_17 rfl (lv_at hl 1 rfl) ?_
        refine lv_iconst (v := 0) hx hb dX4_finds_18 (by decide) ?_
        obtain ⟨h4, hf⟩ := if_s hf
        refine x_iast X hw 19 ⟨Nat.le_of_ble_eq_true rfl, Nat.le_of_ble_eq_true rfl⟩ rfl h4 (x2.toNatClampNeg) rfl dX4_finds_19 (fun S5 eS5 H locs hw => ?_)
        replace hf := lt_e eS5 hf
        refine lv_iinc (v := (x2 + 1)) (lv' := [(2, .int (x2 + 1)), (0, .ref (ad 5))]) hx hb dX4_finds_20 hl (k := 1) rfl rfl (by decide) rfl (fun ls hl => ?_)
        refine lv_goto (tgt := 7) hx hb dX4_finds_23 (by decide) ?_
        exact ih (x2 + 1) S5 _ hf K _ _ _ hw (lv_sub hl [1, 0] rfl)
  have L53 : ∀ (n : Nat) (x2 : Int32) (x3 : Int32) (S : vS) (res : vS), f_X4_finds_L53 n x2 x3 S = some res → (K : ∀  (S2 : vS), some S2 = some res → ∀ (H : Heap) (locs : List Loc) (ls : Array Slot), WD D cI cO ad s S2 H locs → lv_has ls 5 [(0, .ref (ad 5)), (2, .int x2)] → W p l e ({ frames := 4, cells := 0, slots := 0, locals := 90 }) s m args below meth c H locs 0 0 Q (F0 m 117 ls [])) → ∀ (H : Heap) (locs : List Loc) (ls : Array Slot), WD D cI cO ad s S H locs → lv_has ls 5 [(0, .ref (ad 5)), (2, .int x2), (3, .int x3)] → W p l e ({ frames := 4, cells := 0, slots := 0, locals := 90 }) s m args below meth c H locs 0 0 Q (F0 m 53 ls []) := by
    intro n
    induction n with
    | zero => intro x2 x3 S res hf; cases hf
    | succ n ih =>
      intro x2 x3 S res hf K H locs ls hw hl
      unfold f_X4_finds_L53 at hf
      refine lv_iload_n hx hb dX4_finds_53 rfl (lv_at hl 2 rfl) ?_
      refine lv_bipush (v := 6) hx hb dX4_finds_54 (by decide +kernel) ?_
      refine lv_icmp_ge (tgt := 117) hx hb dX4_finds_56 (by decide) (fun c11 => ?_) (fun c11 => ?_)
      · replace hf := if_t c11 hf
        exact K S hf _ _ _ hw (lv_sub hl [0, 1] rfl)
      · replace hf := if_f c11 hf
        refine lv_aload_n hx hb dX4_finds_59 rfl (lv_at hl 0 rfl) ?_
        refine lv_iload_n hx hb dX4_finds_60 rfl (lv_at hl 2 rfl) ?_
        refine lv_aload_n hx hb dX4_finds_61 rfl (lv_at hl 0 rfl) ?_
        refine x_get X hw 5 (Nat.le_of_ble_eq_true rfl) ce5 rfl i_X4 10 (by decide) q600 ⟨rfl, rfl, rfl⟩ rfl dX4_finds_62 ?_
        refine lv_iload_n hx hb dX4_finds_65 rfl (lv_at hl 2 rfl) ?_
        obtain ⟨h12, hf⟩ := if_s hf
        refine x_iald X hw 11 ⟨Nat.le_of_ble_eq_true rfl, Nat.le_of_ble_eq_true rfl⟩ rfl h12 (x3.toNatClampNeg) rfl dX4_finds_66 ?_
        refine lv_aload_n hx hb dX4_finds_67 rfl (lv_at hl 0 rfl) ?_
        refine lv_aload_n hx hb dX4_finds_68 rfl (lv_at hl 0 rfl) ?_
        refine x_get X hw 5 (Nat.le_of_ble_eq_true rfl) ce5 rfl i_X4 22 (by decide) q612 ⟨rfl, rfl, rfl⟩ rfl dX4_finds_69 ?_
        obtain ⟨r14, h13, hf⟩ := b1_s hf
        refine kVi X hw (c_X4_sumOf l D cI cO ad 19 S r14 h13) (Nat.le_of_ble_eq_true rfl) ce5 rfl ⟨rfl, rfl⟩ q810 q812 q50 q64 q813 hd_X4_sumOf ⟨Nat.le_of_ble_eq_true rfl, Nat.le_of_ble_eq_true rfl⟩ rfl hl.1 rfl (Nat.le_of_ble_eq_true rfl) dX4_finds_72 (fun H locs hw => ?_)
        refine lv_aload_n hx hb dX4_finds_75 rfl (lv_at hl 0 rfl) ?_
        refine x_get X hw 5 (Nat.le_of_ble_eq_true rfl) ce5 rfl i_X4 22 (by decide) q612 ⟨rfl, rfl, rfl⟩ rfl dX4_finds_76 ?_
        refine lv_iload_n hx hb dX4_finds_79 rfl (lv_at hl 2 rfl) ?_
        refine x_iald X hw 19 ⟨Nat.le_of_ble_eq_true rfl, Nat.le_of_ble_eq_true rfl⟩ rfl h12 (x3.toNatClampNeg) rfl dX4_finds_80 ?_
        refine lv_isub hx hb dX4_finds_81 ?_
        obtain ⟨r16, h15, hf⟩ := b1_s hf
        refine kVi X hw (c_X4_says l D cI cO ad x3 (S 11 (x3.toNatClampNeg)) (r14 - (S 19 (x3.toNatClampNeg))) S r16 h15) (Nat.le_of_ble_eq_true rfl) ce5 rfl ⟨rfl, rfl⟩ q775 q777 q44 q64 q778 hd_X4_says ⟨Nat.le_of_ble_eq_true rfl, Nat.le_of_ble_eq_true rfl⟩ rfl hl.1 rfl (Nat.le_of_ble_eq_true rfl) dX4_finds_82 (fun H locs hw => ?_)
        refine lv_istore (lv' := [(4, .int r16), (0, .ref (ad 5)), (2, .int x2), (3, .int x3)]) hx hb dX4_finds_85 hl (by decide) rfl (fun ls hl => ?_)
        refine lv_iload hx hb dX4_finds_87 (lv_at hl 0 rfl) ?_
        refine lv_aload_n hx hb dX4_finds_89 rfl (lv_at hl 1 rfl) ?_
        refine x_get X hw 5 (Nat.le_of_ble_eq_true rfl) ce5 rfl i_X4 22 (by decide) q612 ⟨rfl, rfl, rfl⟩ rfl dX4_finds_90 ?_
        refine lv_iload_n hx hb dX4_finds_93 rfl (lv_at hl 3 rfl) ?_
        refine x_iald X hw 19 ⟨Nat.le_of_ble_eq_true rfl, Nat.le_of_ble_eq_true rfl⟩ rfl h12 (x3.toNatClampNeg) rfl dX4_finds_94 ?_
        refine lv_icmp_eq (tgt := 103) hx hb dX4_finds_95 (by decide) (fun c17 => ?_) (fun c17 => ?_)
        · replace hf := if_t c17 hf
          refine lv_aload_n hx hb dX4_finds_103 rfl (lv_at hl 1 rfl) ?_
          refine x_get X hw 5 (Nat.le_of_ble_eq_true rfl) ce5 rfl i_X4 22 (by decide) q612 ⟨rfl, rfl, rfl⟩ rfl dX4_finds_104 ?_
          refine lv_iload_n hx hb dX4_finds_107 rfl (lv_at hl 3 rfl) ?_
          refine lv_iload hx hb dX4_finds_108 (lv_at hl 0 rfl) ?_
          refine x_iast X hw 19 ⟨Nat.le_of_ble_eq_true rfl, Nat.le_of_ble_eq_true rfl⟩ rfl h12 (x3.toNatClampNeg) rfl dX4_finds_110 (fun S18 eS18 H locs hw => ?_)
          replace hf := lt_e eS18 hf
          refine lv_iinc (v := (x3 + 1)) (lv' := [(3, .int (x3 + 1)), (4, .int r16), (0, .ref (ad 5)), (2, .int x2)]) hx hb dX4_finds_111 hl (k := 3) rfl rfl (by decide) rfl (fun ls hl => ?_)
          refine lv_goto (tgt := 53) hx hb dX4_finds_114 (by decide) ?_
          exact ih x2 (x3 + 1) S18 _ hf K _ _ _ hw (lv_sub hl [2, 3, 0] rfl)
        · replace hf := if_f c17 hf
          refine lv_aload_n hx hb dX4_finds_98 rfl (lv_at hl 1 rfl) ?_
          refine lv_iconst (v := 0) hx hb dX4_finds_99 (by decide) ?_
          refine x_put X hw 5 (Nat.le_of_ble_eq_true rfl) ce5 rfl i_X4 tyX4_ok nmX4 23 (by decide) q613 ⟨rfl, rfl, rfl⟩ rfl pfZ rfl rfl (Nat.le_of_ble_eq_true rfl) 4 (ws_4 _) dX4_finds_100 (fun S19 eS19 H locs hw => ?_)
          replace hf := lt_e eS19 hf
          refine lv_aload_n hx hb dX4_finds_103 rfl (lv_at hl 1 rfl) ?_
          refine x_get X hw 5 (Nat.le_of_ble_eq_true rfl) ce5 rfl i_X4 22 (by decide) q612 ⟨rfl, rfl, rfl⟩ rfl dX4_finds_104 ?_
          refine lv_iload_n hx hb dX4_finds_107 rfl (lv_at hl 3 rfl) ?_
          refine lv_iload hx hb dX4_finds_108 (lv_at hl 0 rfl) ?_
          refine x_iast X hw 19 ⟨Nat.le_of_ble_eq_true rfl, Nat.le_of_ble_eq_true rfl⟩ rfl h12 (x3.toNatClampNeg) rfl dX4_finds_110 (fun S20 eS20 H locs hw => ?_)
          replace hf := lt_e eS20 hf
          refine lv_iinc (v := (x3 + 1)) (lv' := [(3, .int (x3 + 1)), (4, .int r16), (0, .ref (ad 5)), (2, .int x2)]) hx hb dX4_finds_111 hl (k := 3) rfl rfl (by decide) rfl (fun ls hl => ?_)
          refine lv_goto (tgt := 53) hx hb dX4_finds_114 (by decide) ?_
          exact ih x2 (x3 + 1) S20 _ hf K _ _ _ hw (lv_sub hl [2, 3, 0] rfl)
  have L33 : ∀ (n : Nat) (x2 : Int32) (S : vS) (res : vS), f_X4_finds_L33 n x2 S = some res → (K : ∀  (S2 : vS), some S2 = some res → ∀ (H : Heap) (locs : List Loc) (ls : Array Slot), WD D cI cO ad s S2 H locs → lv_has ls 5 [] → W p l e ({ frames := 4, cells := 0, slots := 0, locals := 90 }) s m args below meth c H locs 0 0 Q (F0 m 123 ls [])) → ∀ (H : Heap) (locs : List Loc) (ls : Array Slot), WD D cI cO ad s S H locs → lv_has ls 5 [(0, .ref (ad 5)), (2, .int x2)] → W p l e ({ frames := 4, cells := 0, slots := 0, locals := 90 }) s m args below meth c H locs 0 0 Q (F0 m 33 ls []) := by
    intro n
    induction n with
    | zero => intro x2 S res hf; cases hf
    | succ n ih =>
      intro x2 S res hf K H locs ls hw hl
      unfold f_X4_finds_L33 at hf
      refine lv_iload_n hx hb dX4_finds_33 rfl (lv_at hl 1 rfl) ?_
      refine lv_bipush (v := 20) hx hb dX4_finds_34 (by decide +kernel) ?_
      refine lv_icmp_ge (tgt := 123) hx hb dX4_finds_36 (by decide) (fun c8 => ?_) (fun c8 => ?_)
      · replace hf := if_t c8 hf
        exact K S hf _ _ _ hw (lv_sub hl [] rfl)
      · replace hf := if_f c8 hf
        refine lv_aload_n hx hb dX4_finds_39 rfl (lv_at hl 0 rfl) ?_
        refine x_get X hw 5 (Nat.le_of_ble_eq_true rfl) ce5 rfl i_X4 23 (by decide) q613 ⟨rfl, rfl, rfl⟩ rfl dX4_finds_40 ?_
        refine lv_if_ne (tgt := 123) hx hb dX4_finds_43 (by decide) (fun c9 => ?_) (fun c9 => ?_)
        · replace hf := if_f c9 hf
          exact K S hf _ _ _ hw (lv_sub hl [] rfl)
        · replace hf := if_t c9 hf
          refine lv_aload_n hx hb dX4_finds_46 rfl (lv_at hl 0 rfl) ?_
          refine lv_iconst (v := 1) hx hb dX4_finds_47 (by decide) ?_
          refine x_put X hw 5 (Nat.le_of_ble_eq_true rfl) ce5 rfl i_X4 tyX4_ok nmX4 23 (by decide) q613 ⟨rfl, rfl, rfl⟩ rfl pfZ rfl rfl (Nat.le_of_ble_eq_true rfl) 4 (ws_4 _) dX4_finds_48 (fun S10 eS10 H locs hw => ?_)
          replace hf := lt_e eS10 hf
          refine lv_iconst (v := 0) hx hb dX4_finds_51 (by decide) ?_
          refine lv_istore_n (lv' := [(3, .int (0 : Int32)), (0, .ref (ad 5)), (2, .int x2)]) hx hb dX4_finds_52 rfl hl (by decide) rfl (fun ls hl => ?_)
          obtain ⟨S21, h22, hf⟩ := b1_s hf
          refine L53 FU x2 (0 : Int32) S10 _ h22 (fun S21' eK H locs ls hw hl => ?_) _ _ _ hw (lv_sub hl [1, 2, 0] rfl)
          cases eK
          refine lv_iinc (v := (x2 + 1)) (lv' := [(2, .int (x2 + 1)), (0, .ref (ad 5))]) hx hb dX4_finds_117 hl (k := 1) rfl rfl (by decide) rfl (fun ls hl => ?_)
          refine lv_goto (tgt := 33) hx hb dX4_finds_120 (by decide) ?_
          exact ih (x2 + 1) S21 _ hf K _ _ _ hw (lv_sub hl [1, 0] rfl)
  unfold f_X4_finds at hf
  refine lv_aload_n hx hb dX4_finds_0 rfl (lv_at hl 0 rfl) ?_
  refine lv_iload_n hx hb dX4_finds_1 rfl (lv_at hl 1 rfl) ?_
  obtain ⟨S2, h1, hf⟩ := b1_s hf
  refine kVv X hw (c_X4_findMonths l D cI cO ad a1 S S2 h1) (Nat.le_of_ble_eq_true rfl) ce5 rfl ⟨rfl, rfl⟩ q747 q749 q40 q64 q750 hd_X4_findMonths ⟨Nat.le_of_ble_eq_true rfl, Nat.le_of_ble_eq_true rfl⟩ rfl hl.1 rfl (Nat.le_of_ble_eq_true rfl) dX4_finds_2 (fun H locs hw => ?_)
  refine lv_iconst (v := 0) hx hb dX4_finds_5 (by decide) ?_
  refine lv_istore_n (lv' := [(2, .int (0 : Int32)), (0, .ref (ad 5)), (1, .int a1)]) hx hb dX4_finds_6 rfl hl (by decide) rfl (fun ls hl => ?_)
  obtain ⟨S6, h25, hf⟩ := b1_s hf
  refine L7 FU (0 : Int32) S2 _ h25 (fun S6' eK H locs ls hw hl => ?_) _ _ _ hw (lv_sub hl [1, 0] rfl)
  cases eK
  refine lv_aload_n hx hb dX4_finds_26 rfl (lv_at hl 0 rfl) ?_
  refine lv_iconst (v := 0) hx hb dX4_finds_27 (by decide) ?_
  refine x_put X hw 5 (Nat.le_of_ble_eq_true rfl) ce5 rfl i_X4 tyX4_ok nmX4 23 (by decide) q613 ⟨rfl, rfl, rfl⟩ rfl pfZ rfl rfl (Nat.le_of_ble_eq_true rfl) 4 (ws_4 _) dX4_finds_28 (fun S7 eS7 H locs hw => ?_)
  replace hf := lt_e eS7 hf
  refine lv_iconst (v := 0) hx hb dX4_finds_31 (by decide) ?_
  refine lv_istore_n (lv' := [(2, .int (0 : Int32)), (0, .ref (ad 5))]) hx hb dX4_finds_32 rfl hl (by decide) rfl (fun ls hl => ?_)
  obtain ⟨S23, h24, hf⟩ := b1_s hf
  refine L33 FU (0 : Int32) S7 _ h24 (fun S23' eK H locs ls hw hl => ?_) _ _ _ hw (lv_sub hl [1, 0] rfl)
  cases eK
  exact hfin _ _ 0 _ _ _ hw rfl (Option.some.inj hf) dX4_finds_123
