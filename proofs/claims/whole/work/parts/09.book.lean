/-- java/util/Arrays.fill([II)V -/
theorem dJ7_fill_53178_0 : decode cJ7_fill_53178 0 = .ok (.iconst 0, 1) := by decide +kernel
theorem dJ7_fill_53178_1 : decode cJ7_fill_53178 1 = .ok (.istore_n 2, 1) := by decide +kernel
theorem dJ7_fill_53178_2 : decode cJ7_fill_53178 2 = .ok (.aload_n 0, 1) := by decide +kernel
theorem dJ7_fill_53178_3 : decode cJ7_fill_53178 3 = .ok (.arraylength, 1) := by decide +kernel
theorem dJ7_fill_53178_4 : decode cJ7_fill_53178 4 = .ok (.istore_n 3, 1) := by decide +kernel
theorem dJ7_fill_53178_5 : decode cJ7_fill_53178 5 = .ok (.iload_n 2, 1) := by decide +kernel
theorem dJ7_fill_53178_6 : decode cJ7_fill_53178 6 = .ok (.iload_n 3, 1) := by decide +kernel
theorem dJ7_fill_53178_7 : decode cJ7_fill_53178 7 = .ok (.if_icmp .ge 13, 3) := by decide +kernel
theorem dJ7_fill_53178_10 : decode cJ7_fill_53178 10 = .ok (.aload_n 0, 1) := by decide +kernel
theorem dJ7_fill_53178_11 : decode cJ7_fill_53178 11 = .ok (.iload_n 2, 1) := by decide +kernel
theorem dJ7_fill_53178_12 : decode cJ7_fill_53178 12 = .ok (.iload_n 1, 1) := by decide +kernel
theorem dJ7_fill_53178_13 : decode cJ7_fill_53178 13 = .ok (.iastore, 1) := by decide +kernel
theorem dJ7_fill_53178_14 : decode cJ7_fill_53178 14 = .ok (.iinc 2 1, 3) := by decide +kernel
theorem dJ7_fill_53178_17 : decode cJ7_fill_53178 17 = .ok (.goto (-12), 3) := by decide +kernel
theorem dJ7_fill_53178_20 : decode cJ7_fill_53178 20 = .ok (.return_, 1) := by decide +kernel
theorem hd_J7_fill_53178 : yJ7_fill_53178.cls ≠ "java/lang/invoke/MethodHandle" ∧ yJ7_fill_53178.cls ≠ "java/lang/invoke/VarHandle" ∧ (parseMethodDescriptor yJ7_fill_53178.desc).map (fun d => d.parameters.length) = some 2 := by decide +kernel
def f_J7_fill_53178_L5 : Nat → Nat → Int32 → Int32 → Int32 → vS → Option vS
  | 0, _, _, _, _, _ => none
  | n + 1, x0, x1, x2, x3, S => if x3 ≤ x2 then some S else if 1 ≤ x0 ∧ x0 ≤ 97 then if inb x2 (alen x0) = true then lt (upk S x0 (upd (S x0) (x2.toNatClampNeg) x1)) fun S5 => (f_J7_fill_53178_L5 n) x0 x1 (x2 + 1) x3 S5 else none else none
def f_J7_fill_53178 (a0 : Nat) (a1 : Int32) (S : vS) : Option vS := if 1 ≤ a0 ∧ a0 ≤ 97 then b1 (f_J7_fill_53178_L5 FU a0 a1 (0 : Int32) (nI (alen a0)) S) fun S6 => some S6 else none
set_option maxHeartbeats 4000000 in
set_option maxRecDepth 20000 in
theorem c_J7_fill_53178 (l : Launch) (D : va_G) (cI cO : ClassId) (ad : Nat → Nat) (a0 : Nat) (a1 : Int32) (S : vS) (S9 : vS) (hf : f_J7_fill_53178 a0 a1 S = some S9) : CV l yJ7_fill_53178 cJ7_fill_53178 4 ({ frames := 0, cells := 0, slots := 0, locals := 0 }) [.ref (ar ad a0), .int a1] D cI cO ad S S9 := by
  refine CV.of (r := 0) (by decide +kernel) (Nat.le_of_ble_eq_true rfl) (fun p e s m args below meth c Q ls X hl hw hfin => ?_)
  have hl : lv_has ls 4 [(0, .ref (ar ad a0)), (1, .int a1)] := hl
  have hx := X.1
  have hb := X.2.1
  have L5 : ∀ (n : Nat) (x0 : Nat) (x1 : Int32) (x2 : Int32) (x3 : Int32) (S : vS) (res : vS), f_J7_fill_53178_L5 n x0 x1 x2 x3 S = some res → (K : ∀  (S2 : vS), some S2 = some res → ∀ (H : Heap) (locs : List Loc) (ls : Array Slot), WD D cI cO ad s S2 H locs → lv_has ls 4 [] → W p l e ({ frames := 0, cells := 0, slots := 0, locals := 0 }) s m args below meth c H locs 0 0 Q (F0 m 20 ls [])) → ∀ (H : Heap) (locs : List Loc) (ls : Array Slot), WD D cI cO ad s S H locs → lv_has ls 4 [(0, .ref (ar ad x0)), (1, .int x1), (2, .int x2), (3, .int x3)] → W p l e ({ frames := 0, cells := 0, slots := 0, locals := 0 }) s m args below meth c H locs 0 0 Q (F0 m 5 ls []) := by
    intro n
    induction n with
    | zero => intro x0 x1 x2 x3 S res hf; cases hf
    | succ n ih =>
      intro x0 x1 x2 x3 S res hf K H locs ls hw hl
      unfold f_J7_fill_53178_L5 at hf
      refine lv_iload_n hx hb dJ7_fill_53178_5 rfl (lv_at hl 2 rfl) ?_
      refine lv_iload_n hx hb dJ7_fill_53178_6 rfl (lv_at hl 3 rfl) ?_
      refine lv_icmp_ge (tgt := 20) hx hb dJ7_fill_53178_7 (by decide) (fun c2 => ?_) (fun c2 => ?_)
      · replace hf := if_t c2 hf
        exact K S hf _ _ _ hw (lv_sub hl [] rfl)
      · replace hf := if_f c2 hf
        refine lv_aload_n hx hb dJ7_fill_53178_10 rfl (lv_at hl 0 rfl) ?_
        refine lv_iload_n hx hb dJ7_fill_53178_11 rfl (lv_at hl 2 rfl) ?_
        refine lv_iload_n hx hb dJ7_fill_53178_12 rfl (lv_at hl 1 rfl) ?_
        obtain ⟨h3, hf⟩ := if_s hf
        obtain ⟨h4, hf⟩ := if_s hf
        refine x_iast X hw x0 h3 rfl h4 (x2.toNatClampNeg) rfl dJ7_fill_53178_13 (fun S5 eS5 H locs hw => ?_)
        replace hf := lt_e eS5 hf
        refine lv_iinc (v := (x2 + 1)) (lv' := [(2, .int (x2 + 1)), (0, .ref (ar ad x0)), (1, .int x1), (3, .int x3)]) hx hb dJ7_fill_53178_14 hl (k := 2) rfl rfl (by decide) rfl (fun ls hl => ?_)
        refine lv_goto (tgt := 5) hx hb dJ7_fill_53178_17 (by decide) ?_
        exact ih x0 x1 (x2 + 1) x3 S5 _ hf K _ _ _ hw (lv_sub hl [1, 2, 0, 3] rfl)
  unfold f_J7_fill_53178 at hf
  refine lv_iconst (v := 0) hx hb dJ7_fill_53178_0 (by decide) ?_
  refine lv_istore_n (lv' := [(2, .int (0 : Int32)), (0, .ref (ar ad a0)), (1, .int a1)]) hx hb dJ7_fill_53178_1 rfl hl (by decide) rfl (fun ls hl => ?_)
  refine lv_aload_n hx hb dJ7_fill_53178_2 rfl (lv_at hl 1 rfl) ?_
  obtain ⟨h1, hf⟩ := if_s hf
  refine x_alen X hw a0 h1 (v := nI (alen a0)) rfl dJ7_fill_53178_3 ?_
  refine lv_istore_n (lv' := [(3, .int (nI (alen a0))), (2, .int (0 : Int32)), (0, .ref (ar ad a0)), (1, .int a1)]) hx hb dJ7_fill_53178_4 rfl hl (by decide) rfl (fun ls hl => ?_)
  obtain ⟨S6, h7, hf⟩ := b1_s hf
  refine L5 FU a0 a1 (0 : Int32) (nI (alen a0)) S _ h7 (fun S6' eK H locs ls hw hl => ?_) _ _ _ hw (lv_sub hl [2, 3, 1, 0] rfl)
  cases eK
  exact hfin _ _ 0 _ _ _ hw rfl (Option.some.inj hf) dJ7_fill_53178_20
/-- java/util/Arrays.rangeCheck(III)V -/
theorem dJ7_rangeCheck_23922_0 : decode cJ7_rangeCheck_23922 0 = .ok (.iload_n 1, 1) := by decide +kernel
theorem dJ7_rangeCheck_23922_1 : decode cJ7_rangeCheck_23922 1 = .ok (.iload_n 2, 1) := by decide +kernel
theorem dJ7_rangeCheck_23922_2 : decode cJ7_rangeCheck_23922 2 = .ok (.if_icmp .le 44, 3) := by decide +kernel
theorem dJ7_rangeCheck_23922_5 : decode cJ7_rangeCheck_23922 5 = .ok (.new 43, 3) := by decide +kernel
theorem dJ7_rangeCheck_23922_46 : decode cJ7_rangeCheck_23922 46 = .ok (.iload_n 1, 1) := by decide +kernel
theorem dJ7_rangeCheck_23922_47 : decode cJ7_rangeCheck_23922 47 = .ok (.ifCond .ge 12, 3) := by decide +kernel
theorem dJ7_rangeCheck_23922_50 : decode cJ7_rangeCheck_23922 50 = .ok (.new 68, 3) := by decide +kernel
theorem dJ7_rangeCheck_23922_59 : decode cJ7_rangeCheck_23922 59 = .ok (.iload_n 2, 1) := by decide +kernel
theorem dJ7_rangeCheck_23922_60 : decode cJ7_rangeCheck_23922 60 = .ok (.iload_n 0, 1) := by decide +kernel
theorem dJ7_rangeCheck_23922_61 : decode cJ7_rangeCheck_23922 61 = .ok (.if_icmp .le 12, 3) := by decide +kernel
theorem dJ7_rangeCheck_23922_64 : decode cJ7_rangeCheck_23922 64 = .ok (.new 68, 3) := by decide +kernel
theorem dJ7_rangeCheck_23922_73 : decode cJ7_rangeCheck_23922 73 = .ok (.return_, 1) := by decide +kernel
theorem hd_J7_rangeCheck_23922 : yJ7_rangeCheck_23922.cls ≠ "java/lang/invoke/MethodHandle" ∧ yJ7_rangeCheck_23922.cls ≠ "java/lang/invoke/VarHandle" ∧ (parseMethodDescriptor yJ7_rangeCheck_23922.desc).map (fun d => d.parameters.length) = some 3 := by decide +kernel
def f_J7_rangeCheck_23922 (a0 : Int32) (a1 : Int32) (a2 : Int32) (S : vS) : Option vS := if a1 ≤ a2 then if 0 ≤ a1 then if a2 ≤ a0 then some S else none else none else none
set_option maxHeartbeats 4000000 in
set_option maxRecDepth 20000 in
theorem c_J7_rangeCheck_23922 (l : Launch) (D : va_G) (cI cO : ClassId) (ad : Nat → Nat) (a0 : Int32) (a1 : Int32) (a2 : Int32) (S : vS) (S9 : vS) (hf : f_J7_rangeCheck_23922 a0 a1 a2 S = some S9) : CV l yJ7_rangeCheck_23922 cJ7_rangeCheck_23922 3 ({ frames := 0, cells := 0, slots := 0, locals := 0 }) [.int a0, .int a1, .int a2] D cI cO ad S S9 := by
  refine CV.of (r := 0) (by decide +kernel) (Nat.le_of_ble_eq_true rfl) (fun p e s m args below meth c Q ls X hl hw hfin => ?_)
  have hl : lv_has ls 3 [(0, .int a0), (1, .int a1), (2, .int a2)] := hl
  have hx := X.1
  have hb := X.2.1
  unfold f_J7_rangeCheck_23922 at hf
  refine lv_iload_n hx hb dJ7_rangeCheck_23922_0 rfl (lv_at hl 1 rfl) ?_
  refine lv_iload_n hx hb dJ7_rangeCheck_23922_1 rfl (lv_at hl 2 rfl) ?_
  refine lv_icmp_le (tgt := 46) hx hb dJ7_rangeCheck_23922_2 (by decide) (fun c1 => ?_) (fun c1 => ?_)
  · replace hf := if_t c1 hf
    refine lv_iload_n hx hb dJ7_rangeCheck_23922_46 rfl (lv_at hl 1 rfl) ?_
    refine lv_if_ge (tgt := 59) hx hb dJ7_rangeCheck_23922_47 (by decide) (fun c2 => ?_) (fun c2 => ?_)
    · replace hf := if_t c2 hf
      refine lv_iload_n hx hb dJ7_rangeCheck_23922_59 rfl (lv_at hl 2 rfl) ?_
      refine lv_iload_n hx hb dJ7_rangeCheck_23922_60 rfl (lv_at hl 0 rfl) ?_
      refine lv_icmp_le (tgt := 73) hx hb dJ7_rangeCheck_23922_61 (by decide) (fun c3 => ?_) (fun c3 => ?_)
      · replace hf := if_t c3 hf
        exact hfin _ _ 0 _ _ _ hw rfl (Option.some.inj hf) dJ7_rangeCheck_23922_73
      · replace hf := if_f c3 hf
        cases hf
    · replace hf := if_f c2 hf
      cases hf
  · replace hf := if_f c1 hf
    cases hf
/-- java/util/Arrays.fill([IIII)V -/
theorem dJ7_fill_fda19_0 : decode cJ7_fill_fda19 0 = .ok (.aload_n 0, 1) := by decide +kernel
theorem dJ7_fill_fda19_1 : decode cJ7_fill_fda19 1 = .ok (.arraylength, 1) := by decide +kernel
theorem dJ7_fill_fda19_2 : decode cJ7_fill_fda19 2 = .ok (.iload_n 1, 1) := by decide +kernel
theorem dJ7_fill_fda19_3 : decode cJ7_fill_fda19 3 = .ok (.iload_n 2, 1) := by decide +kernel
theorem dJ7_fill_fda19_4 : decode cJ7_fill_fda19 4 = .ok (.invokestatic 13, 3) := by decide +kernel
theorem dJ7_fill_fda19_7 : decode cJ7_fill_fda19 7 = .ok (.iload_n 1, 1) := by decide +kernel
theorem dJ7_fill_fda19_8 : decode cJ7_fill_fda19 8 = .ok (.istore 4, 2) := by decide +kernel
theorem dJ7_fill_fda19_10 : decode cJ7_fill_fda19 10 = .ok (.iload 4, 2) := by decide +kernel
theorem dJ7_fill_fda19_12 : decode cJ7_fill_fda19 12 = .ok (.iload_n 2, 1) := by decide +kernel
theorem dJ7_fill_fda19_13 : decode cJ7_fill_fda19 13 = .ok (.if_icmp .ge 14, 3) := by decide +kernel
theorem dJ7_fill_fda19_16 : decode cJ7_fill_fda19 16 = .ok (.aload_n 0, 1) := by decide +kernel
theorem dJ7_fill_fda19_17 : decode cJ7_fill_fda19 17 = .ok (.iload 4, 2) := by decide +kernel
theorem dJ7_fill_fda19_19 : decode cJ7_fill_fda19 19 = .ok (.iload_n 3, 1) := by decide +kernel
theorem dJ7_fill_fda19_20 : decode cJ7_fill_fda19 20 = .ok (.iastore, 1) := by decide +kernel
theorem dJ7_fill_fda19_21 : decode cJ7_fill_fda19 21 = .ok (.iinc 4 1, 3) := by decide +kernel
theorem dJ7_fill_fda19_24 : decode cJ7_fill_fda19 24 = .ok (.goto (-14), 3) := by decide +kernel
theorem dJ7_fill_fda19_27 : decode cJ7_fill_fda19 27 = .ok (.return_, 1) := by decide +kernel
theorem hd_J7_fill_fda19 : yJ7_fill_fda19.cls ≠ "java/lang/invoke/MethodHandle" ∧ yJ7_fill_fda19.cls ≠ "java/lang/invoke/VarHandle" ∧ (parseMethodDescriptor yJ7_fill_fda19.desc).map (fun d => d.parameters.length) = some 4 := by decide +kernel
def f_J7_fill_fda19_L10 : Nat → Nat → Int32 → Int32 → Int32 → vS → Option vS
  | 0, _, _, _, _, _ => none
  | n + 1, x0, x2, x3, x4, S => if x2 ≤ x4 then some S else if 1 ≤ x0 ∧ x0 ≤ 97 then if inb x4 (alen x0) = true then lt (upk S x0 (upd (S x0) (x4.toNatClampNeg) x3)) fun S7 => (f_J7_fill_fda19_L10 n) x0 x2 x3 (x4 + 1) S7 else none else none
def f_J7_fill_fda19 (a0 : Nat) (a1 : Int32) (a2 : Int32) (a3 : Int32) (S : vS) : Option vS := if 1 ≤ a0 ∧ a0 ≤ 97 then b1 (f_J7_rangeCheck_23922 (nI (alen a0)) a1 a2 S) fun S3 => b1 (f_J7_fill_fda19_L10 FU a0 a2 a3 a1 S3) fun S8 => some S8 else none
set_option maxHeartbeats 4000000 in
set_option maxRecDepth 20000 in
theorem c_J7_fill_fda19 (l : Launch) (D : va_G) (cI cO : ClassId) (ad : Nat → Nat) (a0 : Nat) (a1 : Int32) (a2 : Int32) (a3 : Int32) (S : vS) (S9 : vS) (hf : f_J7_fill_fda19 a0 a1 a2 a3 S = some S9) : CV l yJ7_fill_fda19 cJ7_fill_fda19 5 ({ frames := 1, cells := 0, slots := 0, locals := 22 }) [.ref (ar ad a0), .int a1, .int a2, .int a3] D cI cO ad S S9 := by
  refine CV.of (r := 0) (by decide +kernel) (Nat.le_of_ble_eq_true rfl) (fun p e s m args below meth c Q ls X hl hw hfin => ?_)
  have hl : lv_has ls 5 [(0, .ref (ar ad a0)), (1, .int a1), (2, .int a2), (3, .int a3)] := hl
  have hx := X.1
  have hb := X.2.1
  have L10 : ∀ (n : Nat) (x0 : Nat) (x2 : Int32) (x3 : Int32) (x4 : Int32) (S : vS) (res : vS), f_J7_fill_fda19_L10 n x0 x2 x3 x4 S = some res → (K : ∀  (S2 : vS), some S2 = some res → ∀ (H : Heap) (locs : List Loc) (ls : Array Slot), WD D cI cO ad s S2 H locs → lv_has ls 5 [] → W p l e ({ frames := 1, cells := 0, slots := 0, locals := 22 }) s m args below meth c H locs 0 0 Q (F0 m 27 ls [])) → ∀ (H : Heap) (locs : List Loc) (ls : Array Slot), WD D cI cO ad s S H locs → lv_has ls 5 [(0, .ref (ar ad x0)), (2, .int x2), (3, .int x3), (4, .int x4)] → W p l e ({ frames := 1, cells := 0, slots := 0, locals := 22 }) s m args below meth c H locs 0 0 Q (F0 m 10 ls []) := by
    intro n
    induction n with
    | zero => intro x0 x2 x3 x4 S res hf; cases hf
    | succ n ih =>
      intro x0 x2 x3 x4 S res hf K H locs ls hw hl
      unfold f_J7_fill_fda19_L10 at hf
      refine lv_iload hx hb dJ7_fill_fda19_10 (lv_at hl 3 rfl) ?_
      refine lv_iload_n hx hb dJ7_fill_fda19_12 rfl (lv_at hl 1 rfl) ?_
      refine lv_icmp_ge (tgt := 27) hx hb dJ7_fill_fda19_13 (by decide) (fun c4 => ?_) (fun c4 => ?_)
      · replace hf := if_t c4 hf
        exact K S hf _ _ _ hw (lv_sub hl [] rfl)
      · replace hf := if_f c4 hf
        refine lv_aload_n hx hb dJ7_fill_fda19_16 rfl (lv_at hl 0 rfl) ?_
        refine lv_iload hx hb dJ7_fill_fda19_17 (lv_at hl 3 rfl) ?_
        refine lv_iload_n hx hb dJ7_fill_fda19_19 rfl (lv_at hl 2 rfl) ?_
        obtain ⟨h5, hf⟩ := if_s hf
        obtain ⟨h6, hf⟩ := if_s hf
        refine x_iast X hw x0 h5 rfl h6 (x4.toNatClampNeg) rfl dJ7_fill_fda19_20 (fun S7 eS7 H locs hw => ?_)
        replace hf := lt_e eS7 hf
        refine lv_iinc (v := (x4 + 1)) (lv' := [(4, .int (x4 + 1)), (0, .ref (ar ad x0)), (2, .int x2), (3, .int x3)]) hx hb dJ7_fill_fda19_21 hl (k := 3) rfl rfl (by decide) rfl (fun ls hl => ?_)
        refine lv_goto (tgt := 10) hx hb dJ7_fill_fda19_24 (by decide) ?_
        exact ih x0 x2 x3 (x4 + 1) S7 _ hf K _ _ _ hw (lv_sub hl [1, 2, 3, 0] rfl)
  unfold f_J7_fill_fda19 at hf
  refine lv_aload_n hx hb dJ7_fill_fda19_0 rfl (lv_at hl 0 rfl) ?_
  obtain ⟨h1, hf⟩ := if_s hf
  refine x_alen X hw a0 h1 (v := nI (alen a0)) rfl dJ7_fill_fda19_1 ?_
  refine lv_iload_n hx hb dJ7_fill_fda19_2 rfl (lv_at hl 1 rfl) ?_
  refine lv_iload_n hx hb dJ7_fill_fda19_3 rfl (lv_at hl 2 rfl) ?_
  obtain ⟨S3, h2, hf⟩ := b1_s hf
  refine kSv X hw (c_J7_rangeCheck_23922 l D cI cO ad (nI (alen a0)) a1 a2 S S3 h2) ⟨rfl, rfl⟩ q556 q557 q71 q558 hd_J7_rangeCheck_23922 ⟨Nat.le_of_ble_eq_true rfl, Nat.le_of_ble_eq_true rfl⟩ rfl hl.1 rfl (Nat.le_of_ble_eq_true rfl) dJ7_fill_fda19_4 (fun H locs hw => ?_)
  refine lv_iload_n hx hb dJ7_fill_fda19_7 rfl (lv_at hl 1 rfl) ?_
  refine lv_istore (lv' := [(4, .int a1), (0, .ref (ar ad a0)), (1, .int a1), (2, .int a2), (3, .int a3)]) hx hb dJ7_fill_fda19_8 hl (by decide) rfl (fun ls hl => ?_)
  obtain ⟨S8, h9, hf⟩ := b1_s hf
  refine L10 FU a0 a2 a3 a1 S3 _ h9 (fun S8' eK H locs ls hw hl => ?_) _ _ _ hw (lv_sub hl [1, 3, 4, 0] rfl)
  cases eK
  exact hfin _ _ 0 _ _ _ hw rfl (Option.some.inj hf) dJ7_fill_fda19_27
/-- NineLands$Book.shownSpells()I -/
theorem dX0_shownSpells_0 : decode cX0_shownSpells 0 = .ok (.iconst 0, 1) := by decide +kernel
theorem dX0_shownSpells_1 : decode cX0_shownSpells 1 = .ok (.istore_n 1, 1) := by decide +kernel
theorem dX0_shownSpells_2 : decode cX0_shownSpells 2 = .ok (.iconst 0, 1) := by decide +kernel
theorem dX0_shownSpells_3 : decode cX0_shownSpells 3 = .ok (.istore_n 2, 1) := by decide +kernel
theorem dX0_shownSpells_4 : decode cX0_shownSpells 4 = .ok (.iload_n 2, 1) := by decide +kernel
theorem dX0_shownSpells_5 : decode cX0_shownSpells 5 = .ok (.aload_n 0, 1) := by decide +kernel
theorem dX0_shownSpells_6 : decode cX0_shownSpells 6 = .ok (.getfield 26, 3) := by decide +kernel
theorem dX0_shownSpells_9 : decode cX0_shownSpells 9 = .ok (.if_icmp .ge 21, 3) := by decide +kernel
theorem dX0_shownSpells_12 : decode cX0_shownSpells 12 = .ok (.iload_n 1, 1) := by decide +kernel
theorem dX0_shownSpells_13 : decode cX0_shownSpells 13 = .ok (.aload_n 0, 1) := by decide +kernel
theorem dX0_shownSpells_14 : decode cX0_shownSpells 14 = .ok (.getfield 11, 3) := by decide +kernel
theorem dX0_shownSpells_17 : decode cX0_shownSpells 17 = .ok (.iload_n 2, 1) := by decide +kernel
theorem dX0_shownSpells_18 : decode cX0_shownSpells 18 = .ok (.aaload, 1) := by decide +kernel
theorem dX0_shownSpells_19 : decode cX0_shownSpells 19 = .ok (.bipush 6, 2) := by decide +kernel
theorem dX0_shownSpells_21 : decode cX0_shownSpells 21 = .ok (.iaload, 1) := by decide +kernel
theorem dX0_shownSpells_22 : decode cX0_shownSpells 22 = .ok (.iadd, 1) := by decide +kernel
theorem dX0_shownSpells_23 : decode cX0_shownSpells 23 = .ok (.istore_n 1, 1) := by decide +kernel
theorem dX0_shownSpells_24 : decode cX0_shownSpells 24 = .ok (.iinc 2 1, 3) := by decide +kernel
theorem dX0_shownSpells_27 : decode cX0_shownSpells 27 = .ok (.goto (-23), 3) := by decide +kernel
theorem dX0_shownSpells_30 : decode cX0_shownSpells 30 = .ok (.iload_n 1, 1) := by decide +kernel
theorem dX0_shownSpells_31 : decode cX0_shownSpells 31 = .ok (.ireturn, 1) := by decide +kernel
theorem hd_X0_shownSpells : yX0_shownSpells.cls ≠ "java/lang/invoke/MethodHandle" ∧ yX0_shownSpells.cls ≠ "java/lang/invoke/VarHandle" ∧ (parseMethodDescriptor yX0_shownSpells.desc).map (fun d => d.parameters.length) = some 0 := by decide +kernel
def f_X0_shownSpells_L4 (S : vS) : Nat → Int32 → Int32 →  Option Int32
  | 0, _, _ => none
  | n + 1, x1, x2 => if (S 0 12) ≤ x2 then some x1 else if inb x2 20 = true then lt ((x1 + (S (34 + x2.toNatClampNeg) 6))) fun v3 => (f_X0_shownSpells_L4 S n) v3 (x2 + 1) else none
def f_X0_shownSpells  (S : vS) : Option Int32 := b1 (f_X0_shownSpells_L4 S FU (0 : Int32) (0 : Int32)) fun y4 => some y4
set_option maxHeartbeats 4000000 in
set_option maxRecDepth 20000 in
theorem c_X0_shownSpells (l : Launch) (D : va_G) (cI cO : ClassId) (ad : Nat → Nat)  (S : vS) (R9 : Int32) (hf : f_X0_shownSpells  S = some R9) : CI l yX0_shownSpells cX0_shownSpells 3 .int ({ frames := 0, cells := 0, slots := 0, locals := 0 }) [.ref (ad 2)] D cI cO ad S R9 S := by
  refine CI.of (by decide +kernel) (Nat.le_of_ble_eq_true rfl) (fun p e s m args below meth c Q ls X hl hw hfin => ?_)
  have hl : lv_has ls 3 [(0, .ref (ad 2))] := hl
  have hx := X.1
  have hb := X.2.1
  have L4 : ∀ (n : Nat) (x1 : Int32) (x2 : Int32) (res : Int32), f_X0_shownSpells_L4 S n x1 x2 = some res → (K : ∀ (y1 : Int32), some y1 = some res → ∀ (H : Heap) (locs : List Loc) (ls : Array Slot), WD D cI cO ad s S H locs → lv_has ls 3 [(1, .int y1)] → W p l e ({ frames := 0, cells := 0, slots := 0, locals := 0 }) s m args below meth c H locs 0 0 Q (F0 m 30 ls [])) → ∀ (H : Heap) (locs : List Loc) (ls : Array Slot), WD D cI cO ad s S H locs → lv_has ls 3 [(0, .ref (ad 2)), (1, .int x1), (2, .int x2)] → W p l e ({ frames := 0, cells := 0, slots := 0, locals := 0 }) s m args below meth c H locs 0 0 Q (F0 m 4 ls []) := by
    intro n
    induction n with
    | zero => intro x1 x2 res hf; cases hf
    | succ n ih =>
      intro x1 x2 res hf K H locs ls hw hl
      unfold f_X0_shownSpells_L4 at hf
      refine lv_iload_n hx hb dX0_shownSpells_4 rfl (lv_at hl 2 rfl) ?_
      refine lv_aload_n hx hb dX0_shownSpells_5 rfl (lv_at hl 0 rfl) ?_
      refine x_get X hw 2 (Nat.le_of_ble_eq_true rfl) ce2 rfl i_X0 4 (by decide) q124 ⟨rfl, rfl, rfl⟩ rfl dX0_shownSpells_6 ?_
      refine lv_icmp_ge (tgt := 30) hx hb dX0_shownSpells_9 (by decide) (fun c1 => ?_) (fun c1 => ?_)
      · replace hf := if_t c1 hf
        exact K x1 hf _ _ _ hw (lv_sub hl [1] rfl)
      · replace hf := if_f c1 hf
        refine lv_iload_n hx hb dX0_shownSpells_12 rfl (lv_at hl 1 rfl) ?_
        refine lv_aload_n hx hb dX0_shownSpells_13 rfl (lv_at hl 0 rfl) ?_
        refine x_get X hw 2 (Nat.le_of_ble_eq_true rfl) ce2 rfl i_X0 0 (by decide) q113 ⟨rfl, rfl, rfl⟩ rfl dX0_shownSpells_14 ?_
        refine lv_iload_n hx hb dX0_shownSpells_17 rfl (lv_at hl 2 rfl) ?_
        obtain ⟨h2, hf⟩ := if_s hf
        refine x_aald X hw 6 (Nat.le_of_ble_eq_true rfl) ce6 h2 rfl dX0_shownSpells_18 ?_
        refine lv_bipush (v := 6) hx hb dX0_shownSpells_19 (by decide +kernel) ?_
        refine x_iald X hw (34 + x2.toNatClampNeg) (have q9 := inb_lt h2; ⟨by omega, by omega⟩) (alen_34 (inb_lt h2)) (by decide) 6 (by decide) dX0_shownSpells_21 ?_
        refine lv_iadd hx hb dX0_shownSpells_22 ?_
        refine lv_topi (fun v3 ev3 => ?_)
        replace hf := lt_e ev3 hf
        refine lv_istore_n (lv' := [(1, .int v3), (0, .ref (ad 2)), (2, .int x2)]) hx hb dX0_shownSpells_23 rfl hl (by decide) rfl (fun ls hl => ?_)
        refine lv_iinc (v := (x2 + 1)) (lv' := [(2, .int (x2 + 1)), (1, .int v3), (0, .ref (ad 2))]) hx hb dX0_shownSpells_24 hl (k := 2) rfl rfl (by decide) rfl (fun ls hl => ?_)
        refine lv_goto (tgt := 4) hx hb dX0_shownSpells_27 (by decide) ?_
        exact ih v3 (x2 + 1) _ hf K _ _ _ hw (lv_sub hl [2, 1, 0] rfl)
  unfold f_X0_shownSpells at hf
  refine lv_iconst (v := 0) hx hb dX0_shownSpells_0 (by decide) ?_
  refine lv_istore_n (lv' := [(1, .int (0 : Int32)), (0, .ref (ad 2))]) hx hb dX0_shownSpells_1 rfl hl (by decide) rfl (fun ls hl => ?_)
  refine lv_iconst (v := 0) hx hb dX0_shownSpells_2 (by decide) ?_
  refine lv_istore_n (lv' := [(2, .int (0 : Int32)), (1, .int (0 : Int32)), (0, .ref (ad 2))]) hx hb dX0_shownSpells_3 rfl hl (by decide) rfl (fun ls hl => ?_)
  obtain ⟨y4, h5, hf⟩ := b1_s hf
  refine L4 FU (0 : Int32) (0 : Int32) _ h5 (fun y4' eK H locs ls hw hl => ?_) _ _ _ hw (lv_sub hl [2, 1, 0] rfl)
  cases eK
  refine lv_iload_n hx hb dX0_shownSpells_30 rfl (lv_at hl 0 rfl) ?_
  exact hfin _ _ _ _ _ _ hw (Option.some.inj hf) rfl (narI _) dX0_shownSpells_31
/-- NineLands$Book.madePacts()I -/
theorem dX0_madePacts_0 : decode cX0_madePacts 0 = .ok (.iconst 0, 1) := by decide +kernel
theorem dX0_madePacts_1 : decode cX0_madePacts 1 = .ok (.istore_n 1, 1) := by decide +kernel
theorem dX0_madePacts_2 : decode cX0_madePacts 2 = .ok (.iconst 0, 1) := by decide +kernel
theorem dX0_madePacts_3 : decode cX0_madePacts 3 = .ok (.istore_n 2, 1) := by decide +kernel
theorem dX0_madePacts_4 : decode cX0_madePacts 4 = .ok (.iload_n 2, 1) := by decide +kernel
theorem dX0_madePacts_5 : decode cX0_madePacts 5 = .ok (.bipush 6, 2) := by decide +kernel
theorem dX0_madePacts_7 : decode cX0_madePacts 7 = .ok (.if_icmp .ge 33, 3) := by decide +kernel
theorem dX0_madePacts_10 : decode cX0_madePacts 10 = .ok (.iconst 0, 1) := by decide +kernel
theorem dX0_madePacts_11 : decode cX0_madePacts 11 = .ok (.istore_n 3, 1) := by decide +kernel
theorem dX0_madePacts_12 : decode cX0_madePacts 12 = .ok (.iload_n 3, 1) := by decide +kernel
theorem dX0_madePacts_13 : decode cX0_madePacts 13 = .ok (.iload_n 2, 1) := by decide +kernel
theorem dX0_madePacts_14 : decode cX0_madePacts 14 = .ok (.if_icmp .ge 20, 3) := by decide +kernel
theorem dX0_madePacts_17 : decode cX0_madePacts 17 = .ok (.iload_n 1, 1) := by decide +kernel
theorem dX0_madePacts_18 : decode cX0_madePacts 18 = .ok (.aload_n 0, 1) := by decide +kernel
theorem dX0_madePacts_19 : decode cX0_madePacts 19 = .ok (.getfield 23, 3) := by decide +kernel
theorem dX0_madePacts_22 : decode cX0_madePacts 22 = .ok (.iload_n 2, 1) := by decide +kernel
theorem dX0_madePacts_23 : decode cX0_madePacts 23 = .ok (.aaload, 1) := by decide +kernel
theorem dX0_madePacts_24 : decode cX0_madePacts 24 = .ok (.iload_n 3, 1) := by decide +kernel
theorem dX0_madePacts_25 : decode cX0_madePacts 25 = .ok (.iaload, 1) := by decide +kernel
theorem dX0_madePacts_26 : decode cX0_madePacts 26 = .ok (.iadd, 1) := by decide +kernel
theorem dX0_madePacts_27 : decode cX0_madePacts 27 = .ok (.istore_n 1, 1) := by decide +kernel
theorem dX0_madePacts_28 : decode cX0_madePacts 28 = .ok (.iinc 3 1, 3) := by decide +kernel
theorem dX0_madePacts_31 : decode cX0_madePacts 31 = .ok (.goto (-19), 3) := by decide +kernel
theorem dX0_madePacts_34 : decode cX0_madePacts 34 = .ok (.iinc 2 1, 3) := by decide +kernel
theorem dX0_madePacts_37 : decode cX0_madePacts 37 = .ok (.goto (-33), 3) := by decide +kernel
theorem dX0_madePacts_40 : decode cX0_madePacts 40 = .ok (.iload_n 1, 1) := by decide +kernel
theorem dX0_madePacts_41 : decode cX0_madePacts 41 = .ok (.ireturn, 1) := by decide +kernel
theorem hd_X0_madePacts : yX0_madePacts.cls ≠ "java/lang/invoke/MethodHandle" ∧ yX0_madePacts.cls ≠ "java/lang/invoke/VarHandle" ∧ (parseMethodDescriptor yX0_madePacts.desc).map (fun d => d.parameters.length) = some 0 := by decide +kernel
def f_X0_madePacts_L12 (S : vS) : Nat → Int32 → Int32 → Int32 →  Option Int32
  | 0, _, _, _ => none
  | n + 1, x1, x2, x3 => if x2 ≤ x3 then some x1 else if inb x2 6 = true then if inb x3 6 = true then lt ((x1 + (S (60 + x2.toNatClampNeg) (x3.toNatClampNeg)))) fun v5 => (f_X0_madePacts_L12 S n) v5 x2 (x3 + 1) else none else none
def f_X0_madePacts_L4 (S : vS) : Nat → Int32 → Int32 →  Option Int32
  | 0, _, _ => none
  | n + 1, x1, x2 => if (6 : Int32) ≤ x2 then some x1 else b1 (f_X0_madePacts_L12 S FU x1 x2 (0 : Int32)) fun y6 => (f_X0_madePacts_L4 S n) y6 (x2 + 1)
def f_X0_madePacts  (S : vS) : Option Int32 := b1 (f_X0_madePacts_L4 S FU (0 : Int32) (0 : Int32)) fun y8 => some y8
set_option maxHeartbeats 4000000 in
set_option maxRecDepth 20000 in
theorem c_X0_madePacts (l : Launch) (D : va_G) (cI cO : ClassId) (ad : Nat → Nat)  (S : vS) (R9 : Int32) (hf : f_X0_madePacts  S = some R9) : CI l yX0_madePacts cX0_madePacts 4 .int ({ frames := 0, cells := 0, slots := 0, locals := 0 }) [.ref (ad 2)] D cI cO ad S R9 S := by
  refine CI.of (by decide +kernel) (Nat.le_of_ble_eq_true rfl) (fun p e s m args below meth c Q ls X hl hw hfin => ?_)
  have hl : lv_has ls 4 [(0, .ref (ad 2))] := hl
  have hx := X.1
  have hb := X.2.1
  have L12 : ∀ (n : Nat) (x1 : Int32) (x2 : Int32) (x3 : Int32) (res : Int32), f_X0_madePacts_L12 S n x1 x2 x3 = some res → (K : ∀ (y1 : Int32), some y1 = some res → ∀ (H : Heap) (locs : List Loc) (ls : Array Slot), WD D cI cO ad s S H locs → lv_has ls 4 [(0, .ref (ad 2)), (1, .int y1), (2, .int x2)] → W p l e ({ frames := 0, cells := 0, slots := 0, locals := 0 }) s m args below meth c H locs 0 0 Q (F0 m 34 ls [])) → ∀ (H : Heap) (locs : List Loc) (ls : Array Slot), WD D cI cO ad s S H locs → lv_has ls 4 [(0, .ref (ad 2)), (1, .int x1), (2, .int x2), (3, .int x3)] → W p l e ({ frames := 0, cells := 0, slots := 0, locals := 0 }) s m args below meth c H locs 0 0 Q (F0 m 12 ls []) := by
    intro n
    induction n with
    | zero => intro x1 x2 x3 res hf; cases hf
    | succ n ih =>
      intro x1 x2 x3 res hf K H locs ls hw hl
      unfold f_X0_madePacts_L12 at hf
      refine lv_iload_n hx hb dX0_madePacts_12 rfl (lv_at hl 3 rfl) ?_
      refine lv_iload_n hx hb dX0_madePacts_13 rfl (lv_at hl 2 rfl) ?_
      refine lv_icmp_ge (tgt := 34) hx hb dX0_madePacts_14 (by decide) (fun c2 => ?_) (fun c2 => ?_)
      · replace hf := if_t c2 hf
        exact K x1 hf _ _ _ hw (lv_sub hl [0, 1, 2] rfl)
      · replace hf := if_f c2 hf
        refine lv_iload_n hx hb dX0_madePacts_17 rfl (lv_at hl 1 rfl) ?_
        refine lv_aload_n hx hb dX0_madePacts_18 rfl (lv_at hl 0 rfl) ?_
        refine x_get X hw 2 (Nat.le_of_ble_eq_true rfl) ce2 rfl i_X0 3 (by decide) q121 ⟨rfl, rfl, rfl⟩ rfl dX0_madePacts_19 ?_
        refine lv_iload_n hx hb dX0_madePacts_22 rfl (lv_at hl 2 rfl) ?_
        obtain ⟨h3, hf⟩ := if_s hf
        refine x_aald X hw 8 (Nat.le_of_ble_eq_true rfl) ce8 h3 rfl dX0_madePacts_23 ?_
        refine lv_iload_n hx hb dX0_madePacts_24 rfl (lv_at hl 3 rfl) ?_
        obtain ⟨h4, hf⟩ := if_s hf
        refine x_iald X hw (60 + x2.toNatClampNeg) (have q9 := inb_lt h3; ⟨by omega, by omega⟩) (alen_60 (inb_lt h3)) h4 (x3.toNatClampNeg) rfl dX0_madePacts_25 ?_
        refine lv_iadd hx hb dX0_madePacts_26 ?_
        refine lv_topi (fun v5 ev5 => ?_)
        replace hf := lt_e ev5 hf
        refine lv_istore_n (lv' := [(1, .int v5), (0, .ref (ad 2)), (2, .int x2), (3, .int x3)]) hx hb dX0_madePacts_27 rfl hl (by decide) rfl (fun ls hl => ?_)
        refine lv_iinc (v := (x3 + 1)) (lv' := [(3, .int (x3 + 1)), (1, .int v5), (0, .ref (ad 2)), (2, .int x2)]) hx hb dX0_madePacts_28 hl (k := 3) rfl rfl (by decide) rfl (fun ls hl => ?_)
        refine lv_goto (tgt := 12) hx hb dX0_madePacts_31 (by decide) ?_
        exact ih v5 x2 (x3 + 1) _ hf K _ _ _ hw (lv_sub hl [2, 1, 3, 0] rfl)
  have L4 : ∀ (n : Nat) (x1 : Int32) (x2 : Int32) (res : Int32), f_X0_madePacts_L4 S n x1 x2 = some res → (K : ∀ (y1 : Int32), some y1 = some res → ∀ (H : Heap) (locs : List Loc) (ls : Array Slot), WD D cI cO ad s S H locs → lv_has ls 4 [(1, .int y1)] → W p l e ({ frames := 0, cells := 0, slots := 0, locals := 0 }) s m args below meth c H locs 0 0 Q (F0 m 40 ls [])) → ∀ (H : Heap) (locs : List Loc) (ls : Array Slot), WD D cI cO ad s S H locs → lv_has ls 4 [(0, .ref (ad 2)), (1, .int x1), (2, .int x2)] → W p l e ({ frames := 0, cells := 0, slots := 0, locals := 0 }) s m args below meth c H locs 0 0 Q (F0 m 4 ls []) := by
    intro n
    induction n with
    | zero => intro x1 x2 res hf; cases hf
    | succ n ih =>
      intro x1 x2 res hf K H locs ls hw hl
      unfold f_X0_madePacts_L4 at hf
      refine lv_iload_n hx hb dX0_madePacts_4 rfl (lv_at hl 2 rfl) ?_
      refine lv_bipush (v := 6) hx hb dX0_madePacts_5 (by decide +kernel) ?_
      refine lv_icmp_ge (tgt := 40) hx hb dX0_madePacts_7 (by decide) (fun c1 => ?_) (fun c1 => ?_)
      · replace hf := if_t c1 hf
        exact K x1 hf _ _ _ hw (lv_sub hl [1] rfl)
      · replace hf := if_f c1 hf
        refine lv_iconst (v := 0) hx hb dX0_madePacts_10 (by decide) ?_
        refine lv_istore_n (lv' := [(3, .int (0 : Int32)), (0, .ref (ad 2)), (1, .int x1), (2, .int x2)]) hx hb dX0_madePacts_11 rfl hl (by decide) rfl (fun ls hl => ?_)
        obtain ⟨y6, h7, hf⟩ := b1_s hf
        refine L12 FU x1 x2 (0 : Int32) _ h7 (fun y6' eK H locs ls hw hl => ?_) _ _ _ hw (lv_sub hl [1, 2, 3, 0] rfl)
        cases eK
        refine lv_iinc (v := (x2 + 1)) (lv' := [(2, .int (x2 + 1)), (0, .ref (ad 2)), (1, .int y6)]) hx hb dX0_madePacts_34 hl (k := 2) rfl rfl (by decide) rfl (fun ls hl => ?_)
        refine lv_goto (tgt := 4) hx hb dX0_madePacts_37 (by decide) ?_
        exact ih y6 (x2 + 1) _ hf K _ _ _ hw (lv_sub hl [1, 2, 0] rfl)
  unfold f_X0_madePacts at hf
  refine lv_iconst (v := 0) hx hb dX0_madePacts_0 (by decide) ?_
  refine lv_istore_n (lv' := [(1, .int (0 : Int32)), (0, .ref (ad 2))]) hx hb dX0_madePacts_1 rfl hl (by decide) rfl (fun ls hl => ?_)
  refine lv_iconst (v := 0) hx hb dX0_madePacts_2 (by decide) ?_
  refine lv_istore_n (lv' := [(2, .int (0 : Int32)), (1, .int (0 : Int32)), (0, .ref (ad 2))]) hx hb dX0_madePacts_3 rfl hl (by decide) rfl (fun ls hl => ?_)
  obtain ⟨y8, h9, hf⟩ := b1_s hf
  refine L4 FU (0 : Int32) (0 : Int32) _ h9 (fun y8' eK H locs ls hw hl => ?_) _ _ _ hw (lv_sub hl [2, 1, 0] rfl)
  cases eK
  refine lv_iload_n hx hb dX0_madePacts_40 rfl (lv_at hl 0 rfl) ?_
  exact hfin _ _ _ _ _ _ hw (Option.some.inj hf) rfl (narI _) dX0_madePacts_41
/-- NineLands$Book.behind()I -/
theorem dX0_behind_0 : decode cX0_behind 0 = .ok (.iconst 0, 1) := by decide +kernel
theorem dX0_behind_1 : decode cX0_behind 1 = .ok (.istore_n 1, 1) := by decide +kernel
theorem dX0_behind_2 : decode cX0_behind 2 = .ok (.iconst 0, 1) := by decide +kernel
theorem dX0_behind_3 : decode cX0_behind 3 = .ok (.istore_n 2, 1) := by decide +kernel
theorem dX0_behind_4 : decode cX0_behind 4 = .ok (.iload_n 2, 1) := by decide +kernel
theorem dX0_behind_5 : decode cX0_behind 5 = .ok (.aload_n 0, 1) := by decide +kernel
theorem dX0_behind_6 : decode cX0_behind 6 = .ok (.getfield 26, 3) := by decide +kernel
theorem dX0_behind_9 : decode cX0_behind 9 = .ok (.if_icmp .ge 22, 3) := by decide +kernel
theorem dX0_behind_12 : decode cX0_behind 12 = .ok (.iload_n 1, 1) := by decide +kernel
theorem dX0_behind_13 : decode cX0_behind 13 = .ok (.aload_n 0, 1) := by decide +kernel
theorem dX0_behind_14 : decode cX0_behind 14 = .ok (.getfield 11, 3) := by decide +kernel
theorem dX0_behind_17 : decode cX0_behind 17 = .ok (.iload_n 2, 1) := by decide +kernel
theorem dX0_behind_18 : decode cX0_behind 18 = .ok (.aaload, 1) := by decide +kernel
theorem dX0_behind_19 : decode cX0_behind 19 = .ok (.iconst 3, 1) := by decide +kernel
theorem dX0_behind_20 : decode cX0_behind 20 = .ok (.iaload, 1) := by decide +kernel
theorem dX0_behind_21 : decode cX0_behind 21 = .ok (.invokestatic 39, 3) := by decide +kernel
theorem dX0_behind_24 : decode cX0_behind 24 = .ok (.istore_n 1, 1) := by decide +kernel
theorem dX0_behind_25 : decode cX0_behind 25 = .ok (.iinc 2 1, 3) := by decide +kernel
theorem dX0_behind_28 : decode cX0_behind 28 = .ok (.goto (-24), 3) := by decide +kernel
theorem dX0_behind_31 : decode cX0_behind 31 = .ok (.iload_n 1, 1) := by decide +kernel
theorem dX0_behind_32 : decode cX0_behind 32 = .ok (.ireturn, 1) := by decide +kernel
theorem hd_X0_behind : yX0_behind.cls ≠ "java/lang/invoke/MethodHandle" ∧ yX0_behind.cls ≠ "java/lang/invoke/VarHandle" ∧ (parseMethodDescriptor yX0_behind.desc).map (fun d => d.parameters.length) = some 0 := by decide +kernel
def f_X0_behind_L4 (S : vS) : Nat → Int32 → Int32 →  Option Int32
  | 0, _, _ => none
  | n + 1, x1, x2 => if (S 0 12) ≤ x2 then some x1 else if inb x2 20 = true then lt ((mx x1 (S (34 + x2.toNatClampNeg) 3))) fun v3 => (f_X0_behind_L4 S n) v3 (x2 + 1) else none
def f_X0_behind  (S : vS) : Option Int32 := b1 (f_X0_behind_L4 S FU (0 : Int32) (0 : Int32)) fun y4 => some y4
set_option maxHeartbeats 4000000 in
set_option maxRecDepth 20000 in
theorem c_X0_behind (l : Launch) (D : va_G) (cI cO : ClassId) (ad : Nat → Nat)  (S : vS) (R9 : Int32) (hf : f_X0_behind  S = some R9) : CI l yX0_behind cX0_behind 3 .int ({ frames := 1, cells := 0, slots := 0, locals := 21 }) [.ref (ad 2)] D cI cO ad S R9 S := by
  refine CI.of (by decide +kernel) (Nat.le_of_ble_eq_true rfl) (fun p e s m args below meth c Q ls X hl hw hfin => ?_)
  have hl : lv_has ls 3 [(0, .ref (ad 2))] := hl
  have hx := X.1
  have hb := X.2.1
  have L4 : ∀ (n : Nat) (x1 : Int32) (x2 : Int32) (res : Int32), f_X0_behind_L4 S n x1 x2 = some res → (K : ∀ (y1 : Int32), some y1 = some res → ∀ (H : Heap) (locs : List Loc) (ls : Array Slot), WD D cI cO ad s S H locs → lv_has ls 3 [(1, .int y1)] → W p l e ({ frames := 1, cells := 0, slots := 0, locals := 21 }) s m args below meth c H locs 0 0 Q (F0 m 31 ls [])) → ∀ (H : Heap) (locs : List Loc) (ls : Array Slot), WD D cI cO ad s S H locs → lv_has ls 3 [(0, .ref (ad 2)), (1, .int x1), (2, .int x2)] → W p l e ({ frames := 1, cells := 0, slots := 0, locals := 21 }) s m args below meth c H locs 0 0 Q (F0 m 4 ls []) := by
    intro n
    induction n with
    | zero => intro x1 x2 res hf; cases hf
    | succ n ih =>
      intro x1 x2 res hf K H locs ls hw hl
      unfold f_X0_behind_L4 at hf
      refine lv_iload_n hx hb dX0_behind_4 rfl (lv_at hl 2 rfl) ?_
      refine lv_aload_n hx hb dX0_behind_5 rfl (lv_at hl 0 rfl) ?_
      refine x_get X hw 2 (Nat.le_of_ble_eq_true rfl) ce2 rfl i_X0 4 (by decide) q124 ⟨rfl, rfl, rfl⟩ rfl dX0_behind_6 ?_
      refine lv_icmp_ge (tgt := 31) hx hb dX0_behind_9 (by decide) (fun c1 => ?_) (fun c1 => ?_)
      · replace hf := if_t c1 hf
        exact K x1 hf _ _ _ hw (lv_sub hl [1] rfl)
      · replace hf := if_f c1 hf
        refine lv_iload_n hx hb dX0_behind_12 rfl (lv_at hl 1 rfl) ?_
        refine lv_aload_n hx hb dX0_behind_13 rfl (lv_at hl 0 rfl) ?_
        refine x_get X hw 2 (Nat.le_of_ble_eq_true rfl) ce2 rfl i_X0 0 (by decide) q113 ⟨rfl, rfl, rfl⟩ rfl dX0_behind_14 ?_
        refine lv_iload_n hx hb dX0_behind_17 rfl (lv_at hl 2 rfl) ?_
        obtain ⟨h2, hf⟩ := if_s hf
        refine x_aald X hw 6 (Nat.le_of_ble_eq_true rfl) ce6 h2 rfl dX0_behind_18 ?_
        refine lv_iconst (v := 3) hx hb dX0_behind_19 (by decide) ?_
        refine x_iald X hw (34 + x2.toNatClampNeg) (have q9 := inb_lt h2; ⟨by omega, by omega⟩) (alen_34 (inb_lt h2)) (by decide) 3 (by decide) dX0_behind_20 ?_
        refine x_max X hl.1 q397 q258 q67 q259 (Nat.le_of_ble_eq_true rfl) (Nat.le_of_ble_eq_true rfl) dX0_behind_21 ?_
        refine lv_topi (fun v3 ev3 => ?_)
        replace hf := lt_e ev3 hf
        refine lv_istore_n (lv' := [(1, .int v3), (0, .ref (ad 2)), (2, .int x2)]) hx hb dX0_behind_24 rfl hl (by decide) rfl (fun ls hl => ?_)
        refine lv_iinc (v := (x2 + 1)) (lv' := [(2, .int (x2 + 1)), (1, .int v3), (0, .ref (ad 2))]) hx hb dX0_behind_25 hl (k := 2) rfl rfl (by decide) rfl (fun ls hl => ?_)
        refine lv_goto (tgt := 4) hx hb dX0_behind_28 (by decide) ?_
        exact ih v3 (x2 + 1) _ hf K _ _ _ hw (lv_sub hl [2, 1, 0] rfl)
  unfold f_X0_behind at hf
  refine lv_iconst (v := 0) hx hb dX0_behind_0 (by decide) ?_
  refine lv_istore_n (lv' := [(1, .int (0 : Int32)), (0, .ref (ad 2))]) hx hb dX0_behind_1 rfl hl (by decide) rfl (fun ls hl => ?_)
  refine lv_iconst (v := 0) hx hb dX0_behind_2 (by decide) ?_
  refine lv_istore_n (lv' := [(2, .int (0 : Int32)), (1, .int (0 : Int32)), (0, .ref (ad 2))]) hx hb dX0_behind_3 rfl hl (by decide) rfl (fun ls hl => ?_)
  obtain ⟨y4, h5, hf⟩ := b1_s hf
  refine L4 FU (0 : Int32) (0 : Int32) _ h5 (fun y4' eK H locs ls hw hl => ?_) _ _ _ hw (lv_sub hl [2, 1, 0] rfl)
  cases eK
  refine lv_iload_n hx hb dX0_behind_31 rfl (lv_at hl 0 rfl) ?_
  exact hfin _ _ _ _ _ _ hw (Option.some.inj hf) rfl (narI _) dX0_behind_32
/-- NineLands$Book.nextChange(I)I -/
theorem dX0_nextChange_0 : decode cX0_nextChange 0 = .ok (.sipush 900, 3) := by decide +kernel
theorem dX0_nextChange_3 : decode cX0_nextChange 3 = .ok (.istore_n 2, 1) := by decide +kernel
theorem dX0_nextChange_4 : decode cX0_nextChange 4 = .ok (.iconst 0, 1) := by decide +kernel
theorem dX0_nextChange_5 : decode cX0_nextChange 5 = .ok (.istore_n 3, 1) := by decide +kernel
theorem dX0_nextChange_6 : decode cX0_nextChange 6 = .ok (.iload_n 3, 1) := by decide +kernel
theorem dX0_nextChange_7 : decode cX0_nextChange 7 = .ok (.aload_n 0, 1) := by decide +kernel
theorem dX0_nextChange_8 : decode cX0_nextChange 8 = .ok (.getfield 26, 3) := by decide +kernel
theorem dX0_nextChange_11 : decode cX0_nextChange 11 = .ok (.if_icmp .ge 51, 3) := by decide +kernel
theorem dX0_nextChange_14 : decode cX0_nextChange 14 = .ok (.aload_n 0, 1) := by decide +kernel
theorem dX0_nextChange_15 : decode cX0_nextChange 15 = .ok (.getfield 11, 3) := by decide +kernel
theorem dX0_nextChange_18 : decode cX0_nextChange 18 = .ok (.iload_n 3, 1) := by decide +kernel
theorem dX0_nextChange_19 : decode cX0_nextChange 19 = .ok (.aaload, 1) := by decide +kernel
theorem dX0_nextChange_20 : decode cX0_nextChange 20 = .ok (.astore 4, 2) := by decide +kernel
theorem dX0_nextChange_22 : decode cX0_nextChange 22 = .ok (.aload 4, 2) := by decide +kernel
theorem dX0_nextChange_24 : decode cX0_nextChange 24 = .ok (.iconst 2, 1) := by decide +kernel
theorem dX0_nextChange_25 : decode cX0_nextChange 25 = .ok (.iaload, 1) := by decide +kernel
theorem dX0_nextChange_26 : decode cX0_nextChange 26 = .ok (.iload_n 1, 1) := by decide +kernel
theorem dX0_nextChange_27 : decode cX0_nextChange 27 = .ok (.if_icmp .le 12, 3) := by decide +kernel
theorem dX0_nextChange_30 : decode cX0_nextChange 30 = .ok (.iload_n 2, 1) := by decide +kernel
theorem dX0_nextChange_31 : decode cX0_nextChange 31 = .ok (.aload 4, 2) := by decide +kernel
theorem dX0_nextChange_33 : decode cX0_nextChange 33 = .ok (.iconst 2, 1) := by decide +kernel
theorem dX0_nextChange_34 : decode cX0_nextChange 34 = .ok (.iaload, 1) := by decide +kernel
theorem dX0_nextChange_35 : decode cX0_nextChange 35 = .ok (.invokestatic 45, 3) := by decide +kernel
theorem dX0_nextChange_38 : decode cX0_nextChange 38 = .ok (.istore_n 2, 1) := by decide +kernel
theorem dX0_nextChange_39 : decode cX0_nextChange 39 = .ok (.aload 4, 2) := by decide +kernel
theorem dX0_nextChange_41 : decode cX0_nextChange 41 = .ok (.iconst 3, 1) := by decide +kernel
theorem dX0_nextChange_42 : decode cX0_nextChange 42 = .ok (.iaload, 1) := by decide +kernel
theorem dX0_nextChange_43 : decode cX0_nextChange 43 = .ok (.iload_n 1, 1) := by decide +kernel
theorem dX0_nextChange_44 : decode cX0_nextChange 44 = .ok (.if_icmp .le 12, 3) := by decide +kernel
theorem dX0_nextChange_47 : decode cX0_nextChange 47 = .ok (.iload_n 2, 1) := by decide +kernel
theorem dX0_nextChange_48 : decode cX0_nextChange 48 = .ok (.aload 4, 2) := by decide +kernel
theorem dX0_nextChange_50 : decode cX0_nextChange 50 = .ok (.iconst 3, 1) := by decide +kernel
theorem dX0_nextChange_51 : decode cX0_nextChange 51 = .ok (.iaload, 1) := by decide +kernel
theorem dX0_nextChange_52 : decode cX0_nextChange 52 = .ok (.invokestatic 45, 3) := by decide +kernel
theorem dX0_nextChange_55 : decode cX0_nextChange 55 = .ok (.istore_n 2, 1) := by decide +kernel
theorem dX0_nextChange_56 : decode cX0_nextChange 56 = .ok (.iinc 3 1, 3) := by decide +kernel
theorem dX0_nextChange_59 : decode cX0_nextChange 59 = .ok (.goto (-53), 3) := by decide +kernel
theorem dX0_nextChange_62 : decode cX0_nextChange 62 = .ok (.iload_n 2, 1) := by decide +kernel
theorem dX0_nextChange_63 : decode cX0_nextChange 63 = .ok (.ireturn, 1) := by decide +kernel
theorem hd_X0_nextChange : yX0_nextChange.cls ≠ "java/lang/invoke/MethodHandle" ∧ yX0_nextChange.cls ≠ "java/lang/invoke/VarHandle" ∧ (parseMethodDescriptor yX0_nextChange.desc).map (fun d => d.parameters.length) = some 1 := by decide +kernel
def f_X0_nextChange_J39 (rc : Int32 → Int32 → Int32 → Option Int32) (x1 : Int32) (x2 : Int32) (x3 : Int32) (x4 : Nat) (S : vS) : Option Int32 := if 1 ≤ x4 ∧ x4 ≤ 97 then if inb (3 : Int32) (alen x4) = true then if (S x4 3) ≤ x1 then rc x1 x2 (x3 + 1) else rc x1 (mn x2 (S x4 3)) (x3 + 1) else none else none
def f_X0_nextChange_L6 (S : vS) : Nat → Int32 → Int32 → Int32 →  Option Int32
  | 0, _, _, _ => none
  | n + 1, x1, x2, x3 => if (S 0 12) ≤ x3 then some x2 else if inb x3 20 = true then if (S (34 + x3.toNatClampNeg) 2) ≤ x1 then f_X0_nextChange_J39 (f_X0_nextChange_L6 S n) x1 x2 x3 (34 + x3.toNatClampNeg) S else lt ((mn x2 (S (34 + x3.toNatClampNeg) 2))) fun v7 => f_X0_nextChange_J39 (f_X0_nextChange_L6 S n) x1 v7 x3 (34 + x3.toNatClampNeg) S else none
def f_X0_nextChange (a1 : Int32) (S : vS) : Option Int32 := b1 (f_X0_nextChange_L6 S FU a1 (900 : Int32) (0 : Int32)) fun y8 => some y8
set_option maxHeartbeats 4000000 in
set_option maxRecDepth 20000 in
theorem c_X0_nextChange (l : Launch) (D : va_G) (cI cO : ClassId) (ad : Nat → Nat) (a1 : Int32) (S : vS) (R9 : Int32) (hf : f_X0_nextChange a1 S = some R9) : CI l yX0_nextChange cX0_nextChange 5 .int ({ frames := 1, cells := 0, slots := 0, locals := 21 }) [.ref (ad 2), .int a1] D cI cO ad S R9 S := by
  refine CI.of (by decide +kernel) (Nat.le_of_ble_eq_true rfl) (fun p e s m args below meth c Q ls X hl hw hfin => ?_)
  have hl : lv_has ls 5 [(0, .ref (ad 2)), (1, .int a1)] := hl
  have hx := X.1
  have hb := X.2.1
  have L6 : ∀ (n : Nat) (x1 : Int32) (x2 : Int32) (x3 : Int32) (res : Int32), f_X0_nextChange_L6 S n x1 x2 x3 = some res → (K : ∀ (y2 : Int32), some y2 = some res → ∀ (H : Heap) (locs : List Loc) (ls : Array Slot), WD D cI cO ad s S H locs → lv_has ls 5 [(2, .int y2)] → W p l e ({ frames := 1, cells := 0, slots := 0, locals := 21 }) s m args below meth c H locs 0 0 Q (F0 m 62 ls [])) → ∀ (H : Heap) (locs : List Loc) (ls : Array Slot), WD D cI cO ad s S H locs → lv_has ls 5 [(0, .ref (ad 2)), (1, .int x1), (2, .int x2), (3, .int x3)] → W p l e ({ frames := 1, cells := 0, slots := 0, locals := 21 }) s m args below meth c H locs 0 0 Q (F0 m 6 ls []) := by
    intro n
    induction n with
    | zero => intro x1 x2 x3 res hf; cases hf
    | succ n ih =>
      intro x1 x2 x3 res hf K H locs ls hw hl
      have J39 : ∀ (x1 : Int32) (x2 : Int32) (x3 : Int32) (x4 : Nat), f_X0_nextChange_J39 (f_X0_nextChange_L6 S n) x1 x2 x3 x4 S = some res → ∀ (H : Heap) (locs : List Loc) (ls : Array Slot), WD D cI cO ad s S H locs → lv_has ls 5 [(0, .ref (ad 2)), (1, .int x1), (2, .int x2), (3, .int x3), (4, .ref (ar ad x4))] → W p l e ({ frames := 1, cells := 0, slots := 0, locals := 21 }) s m args below meth c H locs 0 0 Q (F0 m 39 ls []) := by
        intro x1 x2 x3 x4 hf H locs ls hw hl
        unfold f_X0_nextChange_J39 at hf
        refine lv_aload hx hb dX0_nextChange_39 (lv_at hl 4 rfl) ?_
        refine lv_iconst (v := 3) hx hb dX0_nextChange_41 (by decide) ?_
        obtain ⟨h4, hf⟩ := if_s hf
        obtain ⟨h5, hf⟩ := if_s hf
        refine x_iald X hw x4 h4 rfl h5 3 (by decide) dX0_nextChange_42 ?_
        refine lv_iload_n hx hb dX0_nextChange_43 rfl (lv_at hl 1 rfl) ?_
        refine lv_icmp_le (tgt := 56) hx hb dX0_nextChange_44 (by decide) (fun c6 => ?_) (fun c6 => ?_)
        · replace hf := if_t c6 hf
          refine lv_iinc (v := (x3 + 1)) (lv' := [(3, .int (x3 + 1)), (0, .ref (ad 2)), (1, .int x1), (2, .int x2), (4, .ref (ar ad x4))]) hx hb dX0_nextChange_56 hl (k := 3) rfl rfl (by decide) rfl (fun ls hl => ?_)
          refine lv_goto (tgt := 6) hx hb dX0_nextChange_59 (by decide) ?_
          exact ih x1 x2 (x3 + 1) _ hf K _ _ _ hw (lv_sub hl [1, 2, 3, 0] rfl)
        · replace hf := if_f c6 hf
          refine lv_iload_n hx hb dX0_nextChange_47 rfl (lv_at hl 2 rfl) ?_
          refine lv_aload hx hb dX0_nextChange_48 (lv_at hl 4 rfl) ?_
          refine lv_iconst (v := 3) hx hb dX0_nextChange_50 (by decide) ?_
          refine x_iald X hw x4 h4 rfl h5 3 (by decide) dX0_nextChange_51 ?_
          refine x_min X hl.1 q380 q261 q67 q262 (Nat.le_of_ble_eq_true rfl) (Nat.le_of_ble_eq_true rfl) dX0_nextChange_52 ?_
          refine lv_istore_n (lv' := [(2, .int (mn x2 (S x4 3))), (0, .ref (ad 2)), (1, .int x1), (3, .int x3), (4, .ref (ar ad x4))]) hx hb dX0_nextChange_55 rfl hl (by decide) rfl (fun ls hl => ?_)
          refine lv_iinc (v := (x3 + 1)) (lv' := [(3, .int (x3 + 1)), (2, .int (mn x2 (S x4 3))), (0, .ref (ad 2)), (1, .int x1), (4, .ref (ar ad x4))]) hx hb dX0_nextChange_56 hl (k := 3) rfl rfl (by decide) rfl (fun ls hl => ?_)
          refine lv_goto (tgt := 6) hx hb dX0_nextChange_59 (by decide) ?_
          exact ih x1 (mn x2 (S x4 3)) (x3 + 1) _ hf K _ _ _ hw (lv_sub hl [2, 3, 1, 0] rfl)
      unfold f_X0_nextChange_L6 at hf
      refine lv_iload_n hx hb dX0_nextChange_6 rfl (lv_at hl 3 rfl) ?_
      refine lv_aload_n hx hb dX0_nextChange_7 rfl (lv_at hl 0 rfl) ?_
      refine x_get X hw 2 (Nat.le_of_ble_eq_true rfl) ce2 rfl i_X0 4 (by decide) q124 ⟨rfl, rfl, rfl⟩ rfl dX0_nextChange_8 ?_
      refine lv_icmp_ge (tgt := 62) hx hb dX0_nextChange_11 (by decide) (fun c1 => ?_) (fun c1 => ?_)
      · replace hf := if_t c1 hf
        exact K x2 hf _ _ _ hw (lv_sub hl [2] rfl)
      · replace hf := if_f c1 hf
        refine lv_aload_n hx hb dX0_nextChange_14 rfl (lv_at hl 0 rfl) ?_
        refine x_get X hw 2 (Nat.le_of_ble_eq_true rfl) ce2 rfl i_X0 0 (by decide) q113 ⟨rfl, rfl, rfl⟩ rfl dX0_nextChange_15 ?_
        refine lv_iload_n hx hb dX0_nextChange_18 rfl (lv_at hl 3 rfl) ?_
        obtain ⟨h2, hf⟩ := if_s hf
        refine x_aald X hw 6 (Nat.le_of_ble_eq_true rfl) ce6 h2 rfl dX0_nextChange_19 ?_
        refine lv_astore (lv' := [(4, .ref (ar ad (34 + x3.toNatClampNeg))), (0, .ref (ad 2)), (1, .int x1), (2, .int x2), (3, .int x3)]) hx hb dX0_nextChange_20 hl (by decide) rfl (fun ls hl => ?_)
        refine lv_aload hx hb dX0_nextChange_22 (lv_at hl 0 rfl) ?_
        refine lv_iconst (v := 2) hx hb dX0_nextChange_24 (by decide) ?_
        refine x_iald X hw (34 + x3.toNatClampNeg) (have q9 := inb_lt h2; ⟨by omega, by omega⟩) (alen_34 (inb_lt h2)) (by decide) 2 (by decide) dX0_nextChange_25 ?_
        refine lv_iload_n hx hb dX0_nextChange_26 rfl (lv_at hl 2 rfl) ?_
        refine lv_icmp_le (tgt := 39) hx hb dX0_nextChange_27 (by decide) (fun c3 => ?_) (fun c3 => ?_)
        · replace hf := if_t c3 hf
          exact J39 x1 x2 x3 (34 + x3.toNatClampNeg) hf _ _ _ hw (lv_sub hl [1, 2, 3, 4, 0] rfl)
        · replace hf := if_f c3 hf
          refine lv_iload_n hx hb dX0_nextChange_30 rfl (lv_at hl 3 rfl) ?_
          refine lv_aload hx hb dX0_nextChange_31 (lv_at hl 0 rfl) ?_
          refine lv_iconst (v := 2) hx hb dX0_nextChange_33 (by decide) ?_
          refine x_iald X hw (34 + x3.toNatClampNeg) (have q9 := inb_lt h2; ⟨by omega, by omega⟩) (alen_34 (inb_lt h2)) (by decide) 2 (by decide) dX0_nextChange_34 ?_
          refine x_min X hl.1 q380 q261 q67 q262 (Nat.le_of_ble_eq_true rfl) (Nat.le_of_ble_eq_true rfl) dX0_nextChange_35 ?_
          refine lv_topi (fun v7 ev7 => ?_)
          replace hf := lt_e ev7 hf
          refine lv_istore_n (lv' := [(2, .int v7), (4, .ref (ar ad (34 + x3.toNatClampNeg))), (0, .ref (ad 2)), (1, .int x1), (3, .int x3)]) hx hb dX0_nextChange_38 rfl hl (by decide) rfl (fun ls hl => ?_)
          exact J39 x1 v7 x3 (34 + x3.toNatClampNeg) hf _ _ _ hw (lv_sub hl [2, 3, 0, 4, 1] rfl)
  unfold f_X0_nextChange at hf
  refine lv_sipush (v := 900) hx hb dX0_nextChange_0 (by decide +kernel) ?_
  refine lv_istore_n (lv' := [(2, .int (900 : Int32)), (0, .ref (ad 2)), (1, .int a1)]) hx hb dX0_nextChange_3 rfl hl (by decide) rfl (fun ls hl => ?_)
  refine lv_iconst (v := 0) hx hb dX0_nextChange_4 (by decide) ?_
  refine lv_istore_n (lv' := [(3, .int (0 : Int32)), (2, .int (900 : Int32)), (0, .ref (ad 2)), (1, .int a1)]) hx hb dX0_nextChange_5 rfl hl (by decide) rfl (fun ls hl => ?_)
  obtain ⟨y8, h9, hf⟩ := b1_s hf
  refine L6 FU a1 (900 : Int32) (0 : Int32) _ h9 (fun y8' eK H locs ls hw hl => ?_) _ _ _ hw (lv_sub hl [2, 3, 1, 0] rfl)
  cases eK
  refine lv_iload_n hx hb dX0_nextChange_62 rfl (lv_at hl 0 rfl) ?_
  exact hfin _ _ _ _ _ _ hw (Option.some.inj hf) rfl (narI _) dX0_nextChange_63
/-- NineLands$Book.isHeld(II)Z -/
theorem dX0_isHeld_0 : decode cX0_isHeld 0 = .ok (.aload_n 0, 1) := by decide +kernel
theorem dX0_isHeld_1 : decode cX0_isHeld 1 = .ok (.getfield 11, 3) := by decide +kernel
theorem dX0_isHeld_4 : decode cX0_isHeld 4 = .ok (.iload_n 1, 1) := by decide +kernel
theorem dX0_isHeld_5 : decode cX0_isHeld 5 = .ok (.aaload, 1) := by decide +kernel
theorem dX0_isHeld_6 : decode cX0_isHeld 6 = .ok (.astore_n 3, 1) := by decide +kernel
theorem dX0_isHeld_7 : decode cX0_isHeld 7 = .ok (.aload_n 3, 1) := by decide +kernel
theorem dX0_isHeld_8 : decode cX0_isHeld 8 = .ok (.bipush 6, 2) := by decide +kernel
theorem dX0_isHeld_10 : decode cX0_isHeld 10 = .ok (.iaload, 1) := by decide +kernel
theorem dX0_isHeld_11 : decode cX0_isHeld 11 = .ok (.iconst 1, 1) := by decide +kernel
theorem dX0_isHeld_12 : decode cX0_isHeld 12 = .ok (.if_icmp .ne 21, 3) := by decide +kernel
theorem dX0_isHeld_15 : decode cX0_isHeld 15 = .ok (.aload_n 3, 1) := by decide +kernel
theorem dX0_isHeld_16 : decode cX0_isHeld 16 = .ok (.iconst 2, 1) := by decide +kernel
theorem dX0_isHeld_17 : decode cX0_isHeld 17 = .ok (.iaload, 1) := by decide +kernel
theorem dX0_isHeld_18 : decode cX0_isHeld 18 = .ok (.iload_n 2, 1) := by decide +kernel
theorem dX0_isHeld_19 : decode cX0_isHeld 19 = .ok (.if_icmp .gt 14, 3) := by decide +kernel
theorem dX0_isHeld_22 : decode cX0_isHeld 22 = .ok (.iload_n 2, 1) := by decide +kernel
theorem dX0_isHeld_23 : decode cX0_isHeld 23 = .ok (.aload_n 3, 1) := by decide +kernel
theorem dX0_isHeld_24 : decode cX0_isHeld 24 = .ok (.iconst 3, 1) := by decide +kernel
theorem dX0_isHeld_25 : decode cX0_isHeld 25 = .ok (.iaload, 1) := by decide +kernel
theorem dX0_isHeld_26 : decode cX0_isHeld 26 = .ok (.if_icmp .ge 7, 3) := by decide +kernel
theorem dX0_isHeld_29 : decode cX0_isHeld 29 = .ok (.iconst 1, 1) := by decide +kernel
theorem dX0_isHeld_30 : decode cX0_isHeld 30 = .ok (.goto 4, 3) := by decide +kernel
theorem dX0_isHeld_33 : decode cX0_isHeld 33 = .ok (.iconst 0, 1) := by decide +kernel
theorem dX0_isHeld_34 : decode cX0_isHeld 34 = .ok (.ireturn, 1) := by decide +kernel
theorem hd_X0_isHeld : yX0_isHeld.cls ≠ "java/lang/invoke/MethodHandle" ∧ yX0_isHeld.cls ≠ "java/lang/invoke/VarHandle" ∧ (parseMethodDescriptor yX0_isHeld.desc).map (fun d => d.parameters.length) = some 2 := by decide +kernel
def f_X0_isHeld (a1 : Int32) (a2 : Int32) (S : vS) : Option Int32 := if inb a1 20 = true then if (S (34 + a1.toNatClampNeg) 6) = (1 : Int32) then if a2 < (S (34 + a1.toNatClampNeg) 2) then some (0 : Int32) else if (S (34 + a1.toNatClampNeg) 3) ≤ a2 then some (0 : Int32) else some (1 : Int32) else some (0 : Int32) else none
set_option maxHeartbeats 4000000 in
set_option maxRecDepth 20000 in
theorem c_X0_isHeld (l : Launch) (D : va_G) (cI cO : ClassId) (ad : Nat → Nat) (a1 : Int32) (a2 : Int32) (S : vS) (R9 : Int32) (hf : f_X0_isHeld a1 a2 S = some R9) : CI l yX0_isHeld cX0_isHeld 4 .boolean ({ frames := 0, cells := 0, slots := 0, locals := 0 }) [.ref (ad 2), .int a1, .int a2] D cI cO ad S R9 S := by
  refine CI.of (by decide +kernel) (Nat.le_of_ble_eq_true rfl) (fun p e s m args below meth c Q ls X hl hw hfin => ?_)
  have hl : lv_has ls 4 [(0, .ref (ad 2)), (1, .int a1), (2, .int a2)] := hl
  have hx := X.1
  have hb := X.2.1
  unfold f_X0_isHeld at hf
  refine lv_aload_n hx hb dX0_isHeld_0 rfl (lv_at hl 0 rfl) ?_
  refine x_get X hw 2 (Nat.le_of_ble_eq_true rfl) ce2 rfl i_X0 0 (by decide) q113 ⟨rfl, rfl, rfl⟩ rfl dX0_isHeld_1 ?_
  refine lv_iload_n hx hb dX0_isHeld_4 rfl (lv_at hl 1 rfl) ?_
  obtain ⟨h1, hf⟩ := if_s hf
  refine x_aald X hw 6 (Nat.le_of_ble_eq_true rfl) ce6 h1 rfl dX0_isHeld_5 ?_
  refine lv_astore_n (lv' := [(3, .ref (ar ad (34 + a1.toNatClampNeg))), (0, .ref (ad 2)), (1, .int a1), (2, .int a2)]) hx hb dX0_isHeld_6 rfl hl (by decide) rfl (fun ls hl => ?_)
  refine lv_aload_n hx hb dX0_isHeld_7 rfl (lv_at hl 0 rfl) ?_
  refine lv_bipush (v := 6) hx hb dX0_isHeld_8 (by decide +kernel) ?_
  refine x_iald X hw (34 + a1.toNatClampNeg) (have q9 := inb_lt h1; ⟨by omega, by omega⟩) (alen_34 (inb_lt h1)) (by decide) 6 (by decide) dX0_isHeld_10 ?_
  refine lv_iconst (v := 1) hx hb dX0_isHeld_11 (by decide) ?_
  refine lv_icmp_ne (tgt := 33) hx hb dX0_isHeld_12 (by decide) (fun c2 => ?_) (fun c2 => ?_)
  · replace hf := if_f c2 hf
    refine lv_iconst (v := 0) hx hb dX0_isHeld_33 (by decide) ?_
    exact hfin _ _ _ _ _ _ hw (Option.some.inj hf) rfl rfl dX0_isHeld_34
  · replace hf := if_t c2 hf
    refine lv_aload_n hx hb dX0_isHeld_15 rfl (lv_at hl 0 rfl) ?_
    refine lv_iconst (v := 2) hx hb dX0_isHeld_16 (by decide) ?_
    refine x_iald X hw (34 + a1.toNatClampNeg) (have q9 := inb_lt h1; ⟨by omega, by omega⟩) (alen_34 (inb_lt h1)) (by decide) 2 (by decide) dX0_isHeld_17 ?_
    refine lv_iload_n hx hb dX0_isHeld_18 rfl (lv_at hl 3 rfl) ?_
    refine lv_icmp_gt (tgt := 33) hx hb dX0_isHeld_19 (by decide) (fun c3 => ?_) (fun c3 => ?_)
    · replace hf := if_t c3 hf
      refine lv_iconst (v := 0) hx hb dX0_isHeld_33 (by decide) ?_
      exact hfin _ _ _ _ _ _ hw (Option.some.inj hf) rfl rfl dX0_isHeld_34
    · replace hf := if_f c3 hf
      refine lv_iload_n hx hb dX0_isHeld_22 rfl (lv_at hl 3 rfl) ?_
      refine lv_aload_n hx hb dX0_isHeld_23 rfl (lv_at hl 0 rfl) ?_
      refine lv_iconst (v := 3) hx hb dX0_isHeld_24 (by decide) ?_
      refine x_iald X hw (34 + a1.toNatClampNeg) (have q9 := inb_lt h1; ⟨by omega, by omega⟩) (alen_34 (inb_lt h1)) (by decide) 3 (by decide) dX0_isHeld_25 ?_
      refine lv_icmp_ge (tgt := 33) hx hb dX0_isHeld_26 (by decide) (fun c4 => ?_) (fun c4 => ?_)
      · replace hf := if_t c4 hf
        refine lv_iconst (v := 0) hx hb dX0_isHeld_33 (by decide) ?_
        exact hfin _ _ _ _ _ _ hw (Option.some.inj hf) rfl rfl dX0_isHeld_34
      · replace hf := if_f c4 hf
        refine lv_iconst (v := 1) hx hb dX0_isHeld_29 (by decide) ?_
        refine lv_goto (tgt := 34) hx hb dX0_isHeld_30 (by decide) ?_
        exact hfin _ _ _ _ _ _ hw (Option.some.inj hf) rfl rfl dX0_isHeld_34
/-- NineLands$Book.holders(I)I -/
theorem dX0_holders_0 : decode cX0_holders 0 = .ok (.iconst 0, 1) := by decide +kernel
theorem dX0_holders_1 : decode cX0_holders 1 = .ok (.istore_n 2, 1) := by decide +kernel
theorem dX0_holders_2 : decode cX0_holders 2 = .ok (.iconst 0, 1) := by decide +kernel
theorem dX0_holders_3 : decode cX0_holders 3 = .ok (.istore_n 3, 1) := by decide +kernel
theorem dX0_holders_4 : decode cX0_holders 4 = .ok (.iload_n 3, 1) := by decide +kernel
theorem dX0_holders_5 : decode cX0_holders 5 = .ok (.aload_n 0, 1) := by decide +kernel
theorem dX0_holders_6 : decode cX0_holders 6 = .ok (.getfield 26, 3) := by decide +kernel
theorem dX0_holders_9 : decode cX0_holders 9 = .ok (.if_icmp .ge 21, 3) := by decide +kernel
theorem dX0_holders_12 : decode cX0_holders 12 = .ok (.aload_n 0, 1) := by decide +kernel
theorem dX0_holders_13 : decode cX0_holders 13 = .ok (.iload_n 3, 1) := by decide +kernel
theorem dX0_holders_14 : decode cX0_holders 14 = .ok (.iload_n 1, 1) := by decide +kernel
theorem dX0_holders_15 : decode cX0_holders 15 = .ok (.invokevirtual 48, 3) := by decide +kernel
theorem dX0_holders_18 : decode cX0_holders 18 = .ok (.ifCond .eq 6, 3) := by decide +kernel
theorem dX0_holders_21 : decode cX0_holders 21 = .ok (.iinc 2 1, 3) := by decide +kernel
theorem dX0_holders_24 : decode cX0_holders 24 = .ok (.iinc 3 1, 3) := by decide +kernel
theorem dX0_holders_27 : decode cX0_holders 27 = .ok (.goto (-23), 3) := by decide +kernel
theorem dX0_holders_30 : decode cX0_holders 30 = .ok (.iload_n 2, 1) := by decide +kernel
theorem dX0_holders_31 : decode cX0_holders 31 = .ok (.ireturn, 1) := by decide +kernel
theorem hd_X0_holders : yX0_holders.cls ≠ "java/lang/invoke/MethodHandle" ∧ yX0_holders.cls ≠ "java/lang/invoke/VarHandle" ∧ (parseMethodDescriptor yX0_holders.desc).map (fun d => d.parameters.length) = some 1 := by decide +kernel
def f_X0_holders_L4 (S : vS) : Nat → Int32 → Int32 → Int32 →  Option Int32
  | 0, _, _, _ => none
  | n + 1, x1, x2, x3 => if (S 0 12) ≤ x3 then some x2 else b1 (f_X0_isHeld x3 x1 S) fun r3 => if r3 = 0 then (f_X0_holders_L4 S n) x1 x2 (x3 + 1) else (f_X0_holders_L4 S n) x1 (x2 + 1) (x3 + 1)
def f_X0_holders (a1 : Int32) (S : vS) : Option Int32 := b1 (f_X0_holders_L4 S FU a1 (0 : Int32) (0 : Int32)) fun y5 => some y5
set_option maxHeartbeats 4000000 in
set_option maxRecDepth 20000 in
theorem c_X0_holders (l : Launch) (D : va_G) (cI cO : ClassId) (ad : Nat → Nat) (a1 : Int32) (S : vS) (R9 : Int32) (hf : f_X0_holders a1 S = some R9) : CI l yX0_holders cX0_holders 4 .int ({ frames := 1, cells := 0, slots := 0, locals := 23 }) [.ref (ad 2), .int a1] D cI cO ad S R9 S := by
  refine CI.of (by decide +kernel) (Nat.le_of_ble_eq_true rfl) (fun p e s m args below meth c Q ls X hl hw hfin => ?_)
  have hl : lv_has ls 4 [(0, .ref (ad 2)), (1, .int a1)] := hl
  have hx := X.1
  have hb := X.2.1
  have L4 : ∀ (n : Nat) (x1 : Int32) (x2 : Int32) (x3 : Int32) (res : Int32), f_X0_holders_L4 S n x1 x2 x3 = some res → (K : ∀ (y2 : Int32), some y2 = some res → ∀ (H : Heap) (locs : List Loc) (ls : Array Slot), WD D cI cO ad s S H locs → lv_has ls 4 [(2, .int y2)] → W p l e ({ frames := 1, cells := 0, slots := 0, locals := 23 }) s m args below meth c H locs 0 0 Q (F0 m 30 ls [])) → ∀ (H : Heap) (locs : List Loc) (ls : Array Slot), WD D cI cO ad s S H locs → lv_has ls 4 [(0, .ref (ad 2)), (1, .int x1), (2, .int x2), (3, .int x3)] → W p l e ({ frames := 1, cells := 0, slots := 0, locals := 23 }) s m args below meth c H locs 0 0 Q (F0 m 4 ls []) := by
    intro n
    induction n with
    | zero => intro x1 x2 x3 res hf; cases hf
    | succ n ih =>
      intro x1 x2 x3 res hf K H locs ls hw hl
      unfold f_X0_holders_L4 at hf
      refine lv_iload_n hx hb dX0_holders_4 rfl (lv_at hl 3 rfl) ?_
      refine lv_aload_n hx hb dX0_holders_5 rfl (lv_at hl 0 rfl) ?_
      refine x_get X hw 2 (Nat.le_of_ble_eq_true rfl) ce2 rfl i_X0 4 (by decide) q124 ⟨rfl, rfl, rfl⟩ rfl dX0_holders_6 ?_
      refine lv_icmp_ge (tgt := 30) hx hb dX0_holders_9 (by decide) (fun c1 => ?_) (fun c1 => ?_)
      · replace hf := if_t c1 hf
        exact K x2 hf _ _ _ hw (lv_sub hl [2] rfl)
      · replace hf := if_f c1 hf
        refine lv_aload_n hx hb dX0_holders_12 rfl (lv_at hl 0 rfl) ?_
        refine lv_iload_n hx hb dX0_holders_13 rfl (lv_at hl 3 rfl) ?_
        refine lv_iload_n hx hb dX0_holders_14 rfl (lv_at hl 1 rfl) ?_
        obtain ⟨r3, h2, hf⟩ := b1_s hf
        refine kVi X hw (c_X0_isHeld l D cI cO ad x3 x1 S r3 h2) (Nat.le_of_ble_eq_true rfl) ce2 rfl ⟨rfl, rfl⟩ q393 q395 q13 q61 q396 hd_X0_isHeld ⟨Nat.le_of_ble_eq_true rfl, Nat.le_of_ble_eq_true rfl⟩ rfl hl.1 rfl (Nat.le_of_ble_eq_true rfl) dX0_holders_15 (fun H locs hw => ?_)
        refine lv_if_eq (tgt := 24) hx hb dX0_holders_18 (by decide) (fun c4 => ?_) (fun c4 => ?_)
        · replace hf := if_t c4 hf
          refine lv_iinc (v := (x3 + 1)) (lv' := [(3, .int (x3 + 1)), (0, .ref (ad 2)), (1, .int x1), (2, .int x2)]) hx hb dX0_holders_24 hl (k := 3) rfl rfl (by decide) rfl (fun ls hl => ?_)
          refine lv_goto (tgt := 4) hx hb dX0_holders_27 (by decide) ?_
          exact ih x1 x2 (x3 + 1) _ hf K _ _ _ hw (lv_sub hl [1, 2, 3, 0] rfl)
        · replace hf := if_f c4 hf
          refine lv_iinc (v := (x2 + 1)) (lv' := [(2, .int (x2 + 1)), (0, .ref (ad 2)), (1, .int x1), (3, .int x3)]) hx hb dX0_holders_21 hl (k := 2) rfl rfl (by decide) rfl (fun ls hl => ?_)
          refine lv_iinc (v := (x3 + 1)) (lv' := [(3, .int (x3 + 1)), (2, .int (x2 + 1)), (0, .ref (ad 2)), (1, .int x1)]) hx hb dX0_holders_24 hl (k := 3) rfl rfl (by decide) rfl (fun ls hl => ?_)
          refine lv_goto (tgt := 4) hx hb dX0_holders_27 (by decide) ?_
          exact ih x1 (x2 + 1) (x3 + 1) _ hf K _ _ _ hw (lv_sub hl [2, 3, 1, 0] rfl)
  unfold f_X0_holders at hf
  refine lv_iconst (v := 0) hx hb dX0_holders_0 (by decide) ?_
  refine lv_istore_n (lv' := [(2, .int (0 : Int32)), (0, .ref (ad 2)), (1, .int a1)]) hx hb dX0_holders_1 rfl hl (by decide) rfl (fun ls hl => ?_)
  refine lv_iconst (v := 0) hx hb dX0_holders_2 (by decide) ?_
  refine lv_istore_n (lv' := [(3, .int (0 : Int32)), (2, .int (0 : Int32)), (0, .ref (ad 2)), (1, .int a1)]) hx hb dX0_holders_3 rfl hl (by decide) rfl (fun ls hl => ?_)
  obtain ⟨y5, h6, hf⟩ := b1_s hf
  refine L4 FU a1 (0 : Int32) (0 : Int32) _ h6 (fun y5' eK H locs ls hw hl => ?_) _ _ _ hw (lv_sub hl [2, 3, 1, 0] rfl)
  cases eK
  refine lv_iload_n hx hb dX0_holders_30 rfl (lv_at hl 0 rfl) ?_
  exact hfin _ _ _ _ _ _ hw (Option.some.inj hf) rfl (narI _) dX0_holders_31
/-- NineLands$Book.workCounts(II)Z -/
theorem dX0_workCounts_0 : decode cX0_workCounts 0 = .ok (.aload_n 0, 1) := by decide +kernel
theorem dX0_workCounts_1 : decode cX0_workCounts 1 = .ok (.getfield 16, 3) := by decide +kernel
theorem dX0_workCounts_4 : decode cX0_workCounts 4 = .ok (.iload_n 1, 1) := by decide +kernel
theorem dX0_workCounts_5 : decode cX0_workCounts 5 = .ok (.aaload, 1) := by decide +kernel
theorem dX0_workCounts_6 : decode cX0_workCounts 6 = .ok (.bipush 8, 2) := by decide +kernel
theorem dX0_workCounts_8 : decode cX0_workCounts 8 = .ok (.iaload, 1) := by decide +kernel
theorem dX0_workCounts_9 : decode cX0_workCounts 9 = .ok (.iload_n 2, 1) := by decide +kernel
theorem dX0_workCounts_10 : decode cX0_workCounts 10 = .ok (.ishr, 1) := by decide +kernel
theorem dX0_workCounts_11 : decode cX0_workCounts 11 = .ok (.iconst 1, 1) := by decide +kernel
theorem dX0_workCounts_12 : decode cX0_workCounts 12 = .ok (.iand, 1) := by decide +kernel
theorem dX0_workCounts_13 : decode cX0_workCounts 13 = .ok (.iconst 1, 1) := by decide +kernel
theorem dX0_workCounts_14 : decode cX0_workCounts 14 = .ok (.if_icmp .ne 7, 3) := by decide +kernel
theorem dX0_workCounts_17 : decode cX0_workCounts 17 = .ok (.iconst 1, 1) := by decide +kernel
theorem dX0_workCounts_18 : decode cX0_workCounts 18 = .ok (.goto 4, 3) := by decide +kernel
theorem dX0_workCounts_21 : decode cX0_workCounts 21 = .ok (.iconst 0, 1) := by decide +kernel
theorem dX0_workCounts_22 : decode cX0_workCounts 22 = .ok (.ireturn, 1) := by decide +kernel
theorem hd_X0_workCounts : yX0_workCounts.cls ≠ "java/lang/invoke/MethodHandle" ∧ yX0_workCounts.cls ≠ "java/lang/invoke/VarHandle" ∧ (parseMethodDescriptor yX0_workCounts.desc).map (fun d => d.parameters.length) = some 2 := by decide +kernel
def f_X0_workCounts (a1 : Int32) (a2 : Int32) (S : vS) : Option Int32 := if inb a1 6 = true then if (((S (54 + a1.toNatClampNeg) 8) >>> (a2 &&& 31)) &&& (1 : Int32)) = (1 : Int32) then some (1 : Int32) else some (0 : Int32) else none
set_option maxHeartbeats 4000000 in
set_option maxRecDepth 20000 in
theorem c_X0_workCounts (l : Launch) (D : va_G) (cI cO : ClassId) (ad : Nat → Nat) (a1 : Int32) (a2 : Int32) (S : vS) (R9 : Int32) (hf : f_X0_workCounts a1 a2 S = some R9) : CI l yX0_workCounts cX0_workCounts 3 .boolean ({ frames := 0, cells := 0, slots := 0, locals := 0 }) [.ref (ad 2), .int a1, .int a2] D cI cO ad S R9 S := by
  refine CI.of (by decide +kernel) (Nat.le_of_ble_eq_true rfl) (fun p e s m args below meth c Q ls X hl hw hfin => ?_)
  have hl : lv_has ls 3 [(0, .ref (ad 2)), (1, .int a1), (2, .int a2)] := hl
  have hx := X.1
  have hb := X.2.1
  unfold f_X0_workCounts at hf
  refine lv_aload_n hx hb dX0_workCounts_0 rfl (lv_at hl 0 rfl) ?_
  refine x_get X hw 2 (Nat.le_of_ble_eq_true rfl) ce2 rfl i_X0 1 (by decide) q115 ⟨rfl, rfl, rfl⟩ rfl dX0_workCounts_1 ?_
  refine lv_iload_n hx hb dX0_workCounts_4 rfl (lv_at hl 1 rfl) ?_
  obtain ⟨h1, hf⟩ := if_s hf
  refine x_aald X hw 7 (Nat.le_of_ble_eq_true rfl) ce7 h1 rfl dX0_workCounts_5 ?_
  refine lv_bipush (v := 8) hx hb dX0_workCounts_6 (by decide +kernel) ?_
  refine x_iald X hw (54 + a1.toNatClampNeg) (have q9 := inb_lt h1; ⟨by omega, by omega⟩) (alen_54 (inb_lt h1)) (by decide) 8 (by decide) dX0_workCounts_8 ?_
  refine lv_iload_n hx hb dX0_workCounts_9 rfl (lv_at hl 2 rfl) ?_
  refine lv_ishr hx hb dX0_workCounts_10 ?_
  refine lv_iconst (v := 1) hx hb dX0_workCounts_11 (by decide) ?_
  refine lv_iand hx hb dX0_workCounts_12 ?_
  refine lv_iconst (v := 1) hx hb dX0_workCounts_13 (by decide) ?_
  refine lv_icmp_ne (tgt := 21) hx hb dX0_workCounts_14 (by decide) (fun c2 => ?_) (fun c2 => ?_)
  · replace hf := if_f c2 hf
    refine lv_iconst (v := 0) hx hb dX0_workCounts_21 (by decide) ?_
    exact hfin _ _ _ _ _ _ hw (Option.some.inj hf) rfl rfl dX0_workCounts_22
  · replace hf := if_t c2 hf
    refine lv_iconst (v := 1) hx hb dX0_workCounts_17 (by decide) ?_
    refine lv_goto (tgt := 22) hx hb dX0_workCounts_18 (by decide) ?_
    exact hfin _ _ _ _ _ _ hw (Option.some.inj hf) rfl rfl dX0_workCounts_22
/-- NineLands$Book.payAt(II)I -/
theorem dX0_payAt_0 : decode cX0_payAt 0 = .ok (.bipush (-9), 2) := by decide +kernel
theorem dX0_payAt_2 : decode cX0_payAt 2 = .ok (.istore_n 3, 1) := by decide +kernel
theorem dX0_payAt_3 : decode cX0_payAt 3 = .ok (.iconst 0, 1) := by decide +kernel
theorem dX0_payAt_4 : decode cX0_payAt 4 = .ok (.istore 4, 2) := by decide +kernel
theorem dX0_payAt_6 : decode cX0_payAt 6 = .ok (.iload 4, 2) := by decide +kernel
theorem dX0_payAt_8 : decode cX0_payAt 8 = .ok (.aload_n 0, 1) := by decide +kernel
theorem dX0_payAt_9 : decode cX0_payAt 9 = .ok (.getfield 26, 3) := by decide +kernel
theorem dX0_payAt_12 : decode cX0_payAt 12 = .ok (.if_icmp .ge 77, 3) := by decide +kernel
theorem dX0_payAt_15 : decode cX0_payAt 15 = .ok (.aload_n 0, 1) := by decide +kernel
theorem dX0_payAt_16 : decode cX0_payAt 16 = .ok (.getfield 11, 3) := by decide +kernel
theorem dX0_payAt_19 : decode cX0_payAt 19 = .ok (.iload 4, 2) := by decide +kernel
theorem dX0_payAt_21 : decode cX0_payAt 21 = .ok (.aaload, 1) := by decide +kernel
theorem dX0_payAt_22 : decode cX0_payAt 22 = .ok (.astore 5, 2) := by decide +kernel
theorem dX0_payAt_24 : decode cX0_payAt 24 = .ok (.aload 5, 2) := by decide +kernel
theorem dX0_payAt_26 : decode cX0_payAt 26 = .ok (.iconst 0, 1) := by decide +kernel
theorem dX0_payAt_27 : decode cX0_payAt 27 = .ok (.iaload, 1) := by decide +kernel
theorem dX0_payAt_28 : decode cX0_payAt 28 = .ok (.iload_n 1, 1) := by decide +kernel
theorem dX0_payAt_29 : decode cX0_payAt 29 = .ok (.if_icmp .ne 27, 3) := by decide +kernel
theorem dX0_payAt_32 : decode cX0_payAt 32 = .ok (.aload 5, 2) := by decide +kernel
theorem dX0_payAt_34 : decode cX0_payAt 34 = .ok (.iconst 5, 1) := by decide +kernel
theorem dX0_payAt_35 : decode cX0_payAt 35 = .ok (.iaload, 1) := by decide +kernel
theorem dX0_payAt_36 : decode cX0_payAt 36 = .ok (.iconst 1, 1) := by decide +kernel
theorem dX0_payAt_37 : decode cX0_payAt 37 = .ok (.if_icmp .ne 19, 3) := by decide +kernel
theorem dX0_payAt_40 : decode cX0_payAt 40 = .ok (.aload_n 0, 1) := by decide +kernel
theorem dX0_payAt_41 : decode cX0_payAt 41 = .ok (.iload_n 1, 1) := by decide +kernel
theorem dX0_payAt_42 : decode cX0_payAt 42 = .ok (.aload 5, 2) := by decide +kernel
theorem dX0_payAt_44 : decode cX0_payAt 44 = .ok (.iconst 1, 1) := by decide +kernel
theorem dX0_payAt_45 : decode cX0_payAt 45 = .ok (.iaload, 1) := by decide +kernel
theorem dX0_payAt_46 : decode cX0_payAt 46 = .ok (.invokevirtual 52, 3) := by decide +kernel
theorem dX0_payAt_49 : decode cX0_payAt 49 = .ok (.ifCond .eq 7, 3) := by decide +kernel
theorem dX0_payAt_52 : decode cX0_payAt 52 = .ok (.iconst 1, 1) := by decide +kernel
theorem dX0_payAt_53 : decode cX0_payAt 53 = .ok (.goto 4, 3) := by decide +kernel
theorem dX0_payAt_56 : decode cX0_payAt 56 = .ok (.iconst 0, 1) := by decide +kernel
theorem dX0_payAt_57 : decode cX0_payAt 57 = .ok (.istore 6, 2) := by decide +kernel
theorem dX0_payAt_59 : decode cX0_payAt 59 = .ok (.iload 6, 2) := by decide +kernel
theorem dX0_payAt_61 : decode cX0_payAt 61 = .ok (.ifCond .eq 22, 3) := by decide +kernel
theorem dX0_payAt_64 : decode cX0_payAt 64 = .ok (.aload_n 0, 1) := by decide +kernel
theorem dX0_payAt_65 : decode cX0_payAt 65 = .ok (.iload 4, 2) := by decide +kernel
theorem dX0_payAt_67 : decode cX0_payAt 67 = .ok (.iload_n 2, 1) := by decide +kernel
theorem dX0_payAt_68 : decode cX0_payAt 68 = .ok (.invokevirtual 48, 3) := by decide +kernel
theorem dX0_payAt_71 : decode cX0_payAt 71 = .ok (.ifCond .eq 12, 3) := by decide +kernel
theorem dX0_payAt_74 : decode cX0_payAt 74 = .ok (.iload_n 3, 1) := by decide +kernel
theorem dX0_payAt_75 : decode cX0_payAt 75 = .ok (.aload 5, 2) := by decide +kernel
theorem dX0_payAt_77 : decode cX0_payAt 77 = .ok (.iconst 4, 1) := by decide +kernel
theorem dX0_payAt_78 : decode cX0_payAt 78 = .ok (.iaload, 1) := by decide +kernel
theorem dX0_payAt_79 : decode cX0_payAt 79 = .ok (.invokestatic 39, 3) := by decide +kernel
theorem dX0_payAt_82 : decode cX0_payAt 82 = .ok (.istore_n 3, 1) := by decide +kernel
theorem dX0_payAt_83 : decode cX0_payAt 83 = .ok (.iinc 4 1, 3) := by decide +kernel
theorem dX0_payAt_86 : decode cX0_payAt 86 = .ok (.goto (-80), 3) := by decide +kernel
theorem dX0_payAt_89 : decode cX0_payAt 89 = .ok (.iload_n 3, 1) := by decide +kernel
theorem dX0_payAt_90 : decode cX0_payAt 90 = .ok (.ireturn, 1) := by decide +kernel
theorem hd_X0_payAt : yX0_payAt.cls ≠ "java/lang/invoke/MethodHandle" ∧ yX0_payAt.cls ≠ "java/lang/invoke/VarHandle" ∧ (parseMethodDescriptor yX0_payAt.desc).map (fun d => d.parameters.length) = some 2 := by decide +kernel
def f_X0_payAt_J57 (rc : Int32 → Int32 → Int32 → Int32 → Option Int32) (x1 : Int32) (x2 : Int32) (x3 : Int32) (x4 : Int32) (x5 : Nat) (k0 : Int32) (S : vS) : Option Int32 := if k0 = 0 then rc x1 x2 x3 (x4 + 1) else b1 (f_X0_isHeld x4 x2 S) fun r6 => if r6 = 0 then rc x1 x2 x3 (x4 + 1) else if 1 ≤ x5 ∧ x5 ≤ 97 then if inb (4 : Int32) (alen x5) = true then rc x1 x2 (mx x3 (S x5 4)) (x4 + 1) else none else none
def f_X0_payAt_J56 (rc : Int32 → Int32 → Int32 → Int32 → Option Int32) (x1 : Int32) (x2 : Int32) (x3 : Int32) (x4 : Int32) (x5 : Nat) (S : vS) : Option Int32 := f_X0_payAt_J57 rc x1 x2 x3 x4 x5 (0 : Int32) S
def f_X0_payAt_L6 (S : vS) : Nat → Int32 → Int32 → Int32 → Int32 →  Option Int32
  | 0, _, _, _, _ => none
  | n + 1, x1, x2, x3, x4 => if (S 0 12) ≤ x4 then some x3 else if inb x4 20 = true then if (S (34 + x4.toNatClampNeg) 0) = x1 then if (S (34 + x4.toNatClampNeg) 5) = (1 : Int32) then b1 (f_X0_workCounts x1 (S (34 + x4.toNatClampNeg) 1) S) fun r12 => if r12 = 0 then f_X0_payAt_J56 (f_X0_payAt_L6 S n) x1 x2 x3 x4 (34 + x4.toNatClampNeg) S else f_X0_payAt_J57 (f_X0_payAt_L6 S n) x1 x2 x3 x4 (34 + x4.toNatClampNeg) (1 : Int32) S else f_X0_payAt_J56 (f_X0_payAt_L6 S n) x1 x2 x3 x4 (34 + x4.toNatClampNeg) S else f_X0_payAt_J56 (f_X0_payAt_L6 S n) x1 x2 x3 x4 (34 + x4.toNatClampNeg) S else none
def f_X0_payAt (a1 : Int32) (a2 : Int32) (S : vS) : Option Int32 := b1 (f_X0_payAt_L6 S FU a1 a2 (-9 : Int32) (0 : Int32)) fun y14 => some y14
set_option maxHeartbeats 4000000 in
set_option maxRecDepth 20000 in
theorem c_X0_payAt (l : Launch) (D : va_G) (cI cO : ClassId) (ad : Nat → Nat) (a1 : Int32) (a2 : Int32) (S : vS) (R9 : Int32) (hf : f_X0_payAt a1 a2 S = some R9) : CI l yX0_payAt cX0_payAt 7 .int ({ frames := 1, cells := 0, slots := 0, locals := 23 }) [.ref (ad 2), .int a1, .int a2] D cI cO ad S R9 S := by
  refine CI.of (by decide +kernel) (Nat.le_of_ble_eq_true rfl) (fun p e s m args below meth c Q ls X hl hw hfin => ?_)
  have hl : lv_has ls 7 [(0, .ref (ad 2)), (1, .int a1), (2, .int a2)] := hl
  have hx := X.1
  have hb := X.2.1
  have L6 : ∀ (n : Nat) (x1 : Int32) (x2 : Int32) (x3 : Int32) (x4 : Int32) (res : Int32), f_X0_payAt_L6 S n x1 x2 x3 x4 = some res → (K : ∀ (y3 : Int32), some y3 = some res → ∀ (H : Heap) (locs : List Loc) (ls : Array Slot), WD D cI cO ad s S H locs → lv_has ls 7 [(3, .int y3)] → W p l e ({ frames := 1, cells := 0, slots := 0, locals := 23 }) s m args below meth c H locs 0 0 Q (F0 m 89 ls [])) → ∀ (H : Heap) (locs : List Loc) (ls : Array Slot), WD D cI cO ad s S H locs → lv_has ls 7 [(0, .ref (ad 2)), (1, .int x1), (2, .int x2), (3, .int x3), (4, .int x4)] → W p l e ({ frames := 1, cells := 0, slots := 0, locals := 23 }) s m args below meth c H locs 0 0 Q (F0 m 6 ls []) := by
    intro n
    induction n with
    | zero => intro x1 x2 x3 x4 res hf; cases hf
    | succ n ih =>
      intro x1 x2 x3 x4 res hf K H locs ls hw hl
      have J57 : ∀ (x1 : Int32) (x2 : Int32) (x3 : Int32) (x4 : Int32) (x5 : Nat) (k0 : Int32), f_X0_payAt_J57 (f_X0_payAt_L6 S n) x1 x2 x3 x4 x5 k0 S = some res → ∀ (H : Heap) (locs : List Loc) (ls : Array Slot), WD D cI cO ad s S H locs → lv_has ls 7 [(0, .ref (ad 2)), (1, .int x1), (2, .int x2), (3, .int x3), (4, .int x4), (5, .ref (ar ad x5))] → W p l e ({ frames := 1, cells := 0, slots := 0, locals := 23 }) s m args below meth c H locs 0 0 Q (F0 m 57 ls [.int k0]) := by
        intro x1 x2 x3 x4 x5 k0 hf H locs ls hw hl
        unfold f_X0_payAt_J57 at hf
        refine lv_istore (lv' := [(6, .int k0), (0, .ref (ad 2)), (1, .int x1), (2, .int x2), (3, .int x3), (4, .int x4), (5, .ref (ar ad x5))]) hx hb dX0_payAt_57 hl (by decide) rfl (fun ls hl => ?_)
        refine lv_iload hx hb dX0_payAt_59 (lv_at hl 0 rfl) ?_
        refine lv_if_eq (tgt := 83) hx hb dX0_payAt_61 (by decide) (fun c4 => ?_) (fun c4 => ?_)
        · replace hf := if_t c4 hf
          refine lv_iinc (v := (x4 + 1)) (lv' := [(4, .int (x4 + 1)), (6, .int k0), (0, .ref (ad 2)), (1, .int x1), (2, .int x2), (3, .int x3), (5, .ref (ar ad x5))]) hx hb dX0_payAt_83 hl (k := 5) rfl rfl (by decide) rfl (fun ls hl => ?_)
          refine lv_goto (tgt := 6) hx hb dX0_payAt_86 (by decide) ?_
          exact ih x1 x2 x3 (x4 + 1) _ hf K _ _ _ hw (lv_sub hl [2, 3, 4, 5, 0] rfl)
        · replace hf := if_f c4 hf
          refine lv_aload_n hx hb dX0_payAt_64 rfl (lv_at hl 1 rfl) ?_
          refine lv_iload hx hb dX0_payAt_65 (lv_at hl 5 rfl) ?_
          refine lv_iload_n hx hb dX0_payAt_67 rfl (lv_at hl 3 rfl) ?_
          obtain ⟨r6, h5, hf⟩ := b1_s hf
          refine kVi X hw (c_X0_isHeld l D cI cO ad x4 x2 S r6 h5) (Nat.le_of_ble_eq_true rfl) ce2 rfl ⟨rfl, rfl⟩ q393 q395 q13 q61 q396 hd_X0_isHeld ⟨Nat.le_of_ble_eq_true rfl, Nat.le_of_ble_eq_true rfl⟩ rfl hl.1 rfl (Nat.le_of_ble_eq_true rfl) dX0_payAt_68 (fun H locs hw => ?_)
          refine lv_if_eq (tgt := 83) hx hb dX0_payAt_71 (by decide) (fun c7 => ?_) (fun c7 => ?_)
          · replace hf := if_t c7 hf
            refine lv_iinc (v := (x4 + 1)) (lv' := [(4, .int (x4 + 1)), (6, .int k0), (0, .ref (ad 2)), (1, .int x1), (2, .int x2), (3, .int x3), (5, .ref (ar ad x5))]) hx hb dX0_payAt_83 hl (k := 5) rfl rfl (by decide) rfl (fun ls hl => ?_)
            refine lv_goto (tgt := 6) hx hb dX0_payAt_86 (by decide) ?_
            exact ih x1 x2 x3 (x4 + 1) _ hf K _ _ _ hw (lv_sub hl [2, 3, 4, 5, 0] rfl)
          · replace hf := if_f c7 hf
            refine lv_iload_n hx hb dX0_payAt_74 rfl (lv_at hl 4 rfl) ?_
            refine lv_aload hx hb dX0_payAt_75 (lv_at hl 6 rfl) ?_
            refine lv_iconst (v := 4) hx hb dX0_payAt_77 (by decide) ?_
            obtain ⟨h8, hf⟩ := if_s hf
            obtain ⟨h9, hf⟩ := if_s hf
            refine x_iald X hw x5 h8 rfl h9 4 (by decide) dX0_payAt_78 ?_
            refine x_max X hl.1 q397 q258 q67 q259 (Nat.le_of_ble_eq_true rfl) (Nat.le_of_ble_eq_true rfl) dX0_payAt_79 ?_
            refine lv_istore_n (lv' := [(3, .int (mx x3 (S x5 4))), (6, .int k0), (0, .ref (ad 2)), (1, .int x1), (2, .int x2), (4, .int x4), (5, .ref (ar ad x5))]) hx hb dX0_payAt_82 rfl hl (by decide) rfl (fun ls hl => ?_)
            refine lv_iinc (v := (x4 + 1)) (lv' := [(4, .int (x4 + 1)), (3, .int (mx x3 (S x5 4))), (6, .int k0), (0, .ref (ad 2)), (1, .int x1), (2, .int x2), (5, .ref (ar ad x5))]) hx hb dX0_payAt_83 hl (k := 5) rfl rfl (by decide) rfl (fun ls hl => ?_)
            refine lv_goto (tgt := 6) hx hb dX0_payAt_86 (by decide) ?_
            exact ih x1 x2 (mx x3 (S x5 4)) (x4 + 1) _ hf K _ _ _ hw (lv_sub hl [3, 4, 5, 1, 0] rfl)
      have J56 : ∀ (x1 : Int32) (x2 : Int32) (x3 : Int32) (x4 : Int32) (x5 : Nat), f_X0_payAt_J56 (f_X0_payAt_L6 S n) x1 x2 x3 x4 x5 S = some res → ∀ (H : Heap) (locs : List Loc) (ls : Array Slot), WD D cI cO ad s S H locs → lv_has ls 7 [(0, .ref (ad 2)), (1, .int x1), (2, .int x2), (3, .int x3), (4, .int x4), (5, .ref (ar ad x5))] → W p l e ({ frames := 1, cells := 0, slots := 0, locals := 23 }) s m args below meth c H locs 0 0 Q (F0 m 56 ls []) := by
        intro x1 x2 x3 x4 x5 hf H locs ls hw hl
        unfold f_X0_payAt_J56 at hf
        refine lv_iconst (v := 0) hx hb dX0_payAt_56 (by decide) ?_
        exact J57 x1 x2 x3 x4 x5 (0 : Int32) hf _ _ _ hw hl
      unfold f_X0_payAt_L6 at hf
      refine lv_iload hx hb dX0_payAt_6 (lv_at hl 4 rfl) ?_
      refine lv_aload_n hx hb dX0_payAt_8 rfl (lv_at hl 0 rfl) ?_
      refine x_get X hw 2 (Nat.le_of_ble_eq_true rfl) ce2 rfl i_X0 4 (by decide) q124 ⟨rfl, rfl, rfl⟩ rfl dX0_payAt_9 ?_
      refine lv_icmp_ge (tgt := 89) hx hb dX0_payAt_12 (by decide) (fun c1 => ?_) (fun c1 => ?_)
      · replace hf := if_t c1 hf
        exact K x3 hf _ _ _ hw (lv_sub hl [3] rfl)
      · replace hf := if_f c1 hf
        refine lv_aload_n hx hb dX0_payAt_15 rfl (lv_at hl 0 rfl) ?_
        refine x_get X hw 2 (Nat.le_of_ble_eq_true rfl) ce2 rfl i_X0 0 (by decide) q113 ⟨rfl, rfl, rfl⟩ rfl dX0_payAt_16 ?_
        refine lv_iload hx hb dX0_payAt_19 (lv_at hl 4 rfl) ?_
        obtain ⟨h2, hf⟩ := if_s hf
        refine x_aald X hw 6 (Nat.le_of_ble_eq_true rfl) ce6 h2 rfl dX0_payAt_21 ?_
        refine lv_astore (lv' := [(5, .ref (ar ad (34 + x4.toNatClampNeg))), (0, .ref (ad 2)), (1, .int x1), (2, .int x2), (3, .int x3), (4, .int x4)]) hx hb dX0_payAt_22 hl (by decide) rfl (fun ls hl => ?_)
        refine lv_aload hx hb dX0_payAt_24 (lv_at hl 0 rfl) ?_
        refine lv_iconst (v := 0) hx hb dX0_payAt_26 (by decide) ?_
        refine x_iald X hw (34 + x4.toNatClampNeg) (have q9 := inb_lt h2; ⟨by omega, by omega⟩) (alen_34 (inb_lt h2)) (by decide) 0 (by decide) dX0_payAt_27 ?_
        refine lv_iload_n hx hb dX0_payAt_28 rfl (lv_at hl 2 rfl) ?_
        refine lv_icmp_ne (tgt := 56) hx hb dX0_payAt_29 (by decide) (fun c3 => ?_) (fun c3 => ?_)
        · replace hf := if_f c3 hf
          exact J56 x1 x2 x3 x4 (34 + x4.toNatClampNeg) hf _ _ _ hw (lv_sub hl [1, 2, 3, 4, 5, 0] rfl)
        · replace hf := if_t c3 hf
          refine lv_aload hx hb dX0_payAt_32 (lv_at hl 0 rfl) ?_
          refine lv_iconst (v := 5) hx hb dX0_payAt_34 (by decide) ?_
          refine x_iald X hw (34 + x4.toNatClampNeg) (have q9 := inb_lt h2; ⟨by omega, by omega⟩) (alen_34 (inb_lt h2)) (by decide) 5 (by decide) dX0_payAt_35 ?_
          refine lv_iconst (v := 1) hx hb dX0_payAt_36 (by decide) ?_
          refine lv_icmp_ne (tgt := 56) hx hb dX0_payAt_37 (by decide) (fun c10 => ?_) (fun c10 => ?_)
          · replace hf := if_f c10 hf
            exact J56 x1 x2 x3 x4 (34 + x4.toNatClampNeg) hf _ _ _ hw (lv_sub hl [1, 2, 3, 4, 5, 0] rfl)
          · replace hf := if_t c10 hf
            refine lv_aload_n hx hb dX0_payAt_40 rfl (lv_at hl 1 rfl) ?_
            refine lv_iload_n hx hb dX0_payAt_41 rfl (lv_at hl 2 rfl) ?_
            refine lv_aload hx hb dX0_payAt_42 (lv_at hl 0 rfl) ?_
            refine lv_iconst (v := 1) hx hb dX0_payAt_44 (by decide) ?_
            refine x_iald X hw (34 + x4.toNatClampNeg) (have q9 := inb_lt h2; ⟨by omega, by omega⟩) (alen_34 (inb_lt h2)) (by decide) 1 (by decide) dX0_payAt_45 ?_
            obtain ⟨r12, h11, hf⟩ := b1_s hf
            refine kVi X hw (c_X0_workCounts l D cI cO ad x1 (S (34 + x4.toNatClampNeg) 1) S r12 h11) (Nat.le_of_ble_eq_true rfl) ce2 rfl ⟨rfl, rfl⟩ q389 q391 q12 q61 q392 hd_X0_workCounts ⟨Nat.le_of_ble_eq_true rfl, Nat.le_of_ble_eq_true rfl⟩ rfl hl.1 rfl (Nat.le_of_ble_eq_true rfl) dX0_payAt_46 (fun H locs hw => ?_)
            refine lv_if_eq (tgt := 56) hx hb dX0_payAt_49 (by decide) (fun c13 => ?_) (fun c13 => ?_)
            · replace hf := if_t c13 hf
              exact J56 x1 x2 x3 x4 (34 + x4.toNatClampNeg) hf _ _ _ hw (lv_sub hl [1, 2, 3, 4, 5, 0] rfl)
            · replace hf := if_f c13 hf
              refine lv_iconst (v := 1) hx hb dX0_payAt_52 (by decide) ?_
              refine lv_goto (tgt := 57) hx hb dX0_payAt_53 (by decide) ?_
              exact J57 x1 x2 x3 x4 (34 + x4.toNatClampNeg) (1 : Int32) hf _ _ _ hw (lv_sub hl [1, 2, 3, 4, 5, 0] rfl)
  unfold f_X0_payAt at hf
  refine lv_bipush (v := -9) hx hb dX0_payAt_0 (by decide +kernel) ?_
  refine lv_istore_n (lv' := [(3, .int (-9 : Int32)), (0, .ref (ad 2)), (1, .int a1), (2, .int a2)]) hx hb dX0_payAt_2 rfl hl (by decide) rfl (fun ls hl => ?_)
  refine lv_iconst (v := 0) hx hb dX0_payAt_3 (by decide) ?_
  refine lv_istore (lv' := [(4, .int (0 : Int32)), (3, .int (-9 : Int32)), (0, .ref (ad 2)), (1, .int a1), (2, .int a2)]) hx hb dX0_payAt_4 hl (by decide) rfl (fun ls hl => ?_)
  obtain ⟨y14, h15, hf⟩ := b1_s hf
  refine L6 FU a1 a2 (-9 : Int32) (0 : Int32) _ h15 (fun y14' eK H locs ls hw hl => ?_) _ _ _ hw (lv_sub hl [2, 3, 4, 1, 0] rfl)
  cases eK
  refine lv_iload_n hx hb dX0_payAt_89 rfl (lv_at hl 0 rfl) ?_
  exact hfin _ _ _ _ _ _ hw (Option.some.inj hf) rfl (narI _) dX0_payAt_90
/-- NineLands$Book.copyFrom(LNineLands$Book;)V -/
theorem dX0_copyFrom_0 : decode cX0_copyFrom 0 = .ok (.aload_n 0, 1) := by decide +kernel
theorem dX0_copyFrom_1 : decode cX0_copyFrom 1 = .ok (.aload_n 1, 1) := by decide +kernel
theorem dX0_copyFrom_2 : decode cX0_copyFrom 2 = .ok (.getfield 26, 3) := by decide +kernel
theorem dX0_copyFrom_5 : decode cX0_copyFrom 5 = .ok (.putfield 26, 3) := by decide +kernel
theorem dX0_copyFrom_8 : decode cX0_copyFrom 8 = .ok (.iconst 0, 1) := by decide +kernel
theorem dX0_copyFrom_9 : decode cX0_copyFrom 9 = .ok (.istore_n 2, 1) := by decide +kernel
theorem dX0_copyFrom_10 : decode cX0_copyFrom 10 = .ok (.iload_n 2, 1) := by decide +kernel
theorem dX0_copyFrom_11 : decode cX0_copyFrom 11 = .ok (.bipush 20, 2) := by decide +kernel
theorem dX0_copyFrom_13 : decode cX0_copyFrom 13 = .ok (.if_icmp .ge 28, 3) := by decide +kernel
theorem dX0_copyFrom_16 : decode cX0_copyFrom 16 = .ok (.aload_n 1, 1) := by decide +kernel
theorem dX0_copyFrom_17 : decode cX0_copyFrom 17 = .ok (.getfield 11, 3) := by decide +kernel
theorem dX0_copyFrom_20 : decode cX0_copyFrom 20 = .ok (.iload_n 2, 1) := by decide +kernel
theorem dX0_copyFrom_21 : decode cX0_copyFrom 21 = .ok (.aaload, 1) := by decide +kernel
theorem dX0_copyFrom_22 : decode cX0_copyFrom 22 = .ok (.iconst 0, 1) := by decide +kernel
theorem dX0_copyFrom_23 : decode cX0_copyFrom 23 = .ok (.aload_n 0, 1) := by decide +kernel
theorem dX0_copyFrom_24 : decode cX0_copyFrom 24 = .ok (.getfield 11, 3) := by decide +kernel
theorem dX0_copyFrom_27 : decode cX0_copyFrom 27 = .ok (.iload_n 2, 1) := by decide +kernel
theorem dX0_copyFrom_28 : decode cX0_copyFrom 28 = .ok (.aaload, 1) := by decide +kernel
theorem dX0_copyFrom_29 : decode cX0_copyFrom 29 = .ok (.iconst 0, 1) := by decide +kernel
theorem dX0_copyFrom_30 : decode cX0_copyFrom 30 = .ok (.bipush 7, 2) := by decide +kernel
theorem dX0_copyFrom_32 : decode cX0_copyFrom 32 = .ok (.invokestatic 33, 3) := by decide +kernel
theorem dX0_copyFrom_35 : decode cX0_copyFrom 35 = .ok (.iinc 2 1, 3) := by decide +kernel
theorem dX0_copyFrom_38 : decode cX0_copyFrom 38 = .ok (.goto (-28), 3) := by decide +kernel
theorem dX0_copyFrom_41 : decode cX0_copyFrom 41 = .ok (.iconst 0, 1) := by decide +kernel
theorem dX0_copyFrom_42 : decode cX0_copyFrom 42 = .ok (.istore_n 2, 1) := by decide +kernel
theorem dX0_copyFrom_43 : decode cX0_copyFrom 43 = .ok (.iload_n 2, 1) := by decide +kernel
theorem dX0_copyFrom_44 : decode cX0_copyFrom 44 = .ok (.bipush 6, 2) := by decide +kernel
theorem dX0_copyFrom_46 : decode cX0_copyFrom 46 = .ok (.if_icmp .ge 47, 3) := by decide +kernel
theorem dX0_copyFrom_49 : decode cX0_copyFrom 49 = .ok (.aload_n 1, 1) := by decide +kernel
theorem dX0_copyFrom_50 : decode cX0_copyFrom 50 = .ok (.getfield 16, 3) := by decide +kernel
theorem dX0_copyFrom_53 : decode cX0_copyFrom 53 = .ok (.iload_n 2, 1) := by decide +kernel
theorem dX0_copyFrom_54 : decode cX0_copyFrom 54 = .ok (.aaload, 1) := by decide +kernel
theorem dX0_copyFrom_55 : decode cX0_copyFrom 55 = .ok (.iconst 0, 1) := by decide +kernel
theorem dX0_copyFrom_56 : decode cX0_copyFrom 56 = .ok (.aload_n 0, 1) := by decide +kernel
theorem dX0_copyFrom_57 : decode cX0_copyFrom 57 = .ok (.getfield 16, 3) := by decide +kernel
theorem dX0_copyFrom_60 : decode cX0_copyFrom 60 = .ok (.iload_n 2, 1) := by decide +kernel
theorem dX0_copyFrom_61 : decode cX0_copyFrom 61 = .ok (.aaload, 1) := by decide +kernel
theorem dX0_copyFrom_62 : decode cX0_copyFrom 62 = .ok (.iconst 0, 1) := by decide +kernel
theorem dX0_copyFrom_63 : decode cX0_copyFrom 63 = .ok (.bipush 9, 2) := by decide +kernel
theorem dX0_copyFrom_65 : decode cX0_copyFrom 65 = .ok (.invokestatic 33, 3) := by decide +kernel
theorem dX0_copyFrom_68 : decode cX0_copyFrom 68 = .ok (.aload_n 1, 1) := by decide +kernel
theorem dX0_copyFrom_69 : decode cX0_copyFrom 69 = .ok (.getfield 23, 3) := by decide +kernel
theorem dX0_copyFrom_72 : decode cX0_copyFrom 72 = .ok (.iload_n 2, 1) := by decide +kernel
theorem dX0_copyFrom_73 : decode cX0_copyFrom 73 = .ok (.aaload, 1) := by decide +kernel
theorem dX0_copyFrom_74 : decode cX0_copyFrom 74 = .ok (.iconst 0, 1) := by decide +kernel
theorem dX0_copyFrom_75 : decode cX0_copyFrom 75 = .ok (.aload_n 0, 1) := by decide +kernel
theorem dX0_copyFrom_76 : decode cX0_copyFrom 76 = .ok (.getfield 23, 3) := by decide +kernel
theorem dX0_copyFrom_79 : decode cX0_copyFrom 79 = .ok (.iload_n 2, 1) := by decide +kernel
theorem dX0_copyFrom_80 : decode cX0_copyFrom 80 = .ok (.aaload, 1) := by decide +kernel
theorem dX0_copyFrom_81 : decode cX0_copyFrom 81 = .ok (.iconst 0, 1) := by decide +kernel
theorem dX0_copyFrom_82 : decode cX0_copyFrom 82 = .ok (.bipush 6, 2) := by decide +kernel
theorem dX0_copyFrom_84 : decode cX0_copyFrom 84 = .ok (.invokestatic 33, 3) := by decide +kernel
theorem dX0_copyFrom_87 : decode cX0_copyFrom 87 = .ok (.iinc 2 1, 3) := by decide +kernel
theorem dX0_copyFrom_90 : decode cX0_copyFrom 90 = .ok (.goto (-47), 3) := by decide +kernel
theorem dX0_copyFrom_93 : decode cX0_copyFrom 93 = .ok (.aload_n 1, 1) := by decide +kernel
theorem dX0_copyFrom_94 : decode cX0_copyFrom 94 = .ok (.getfield 19, 3) := by decide +kernel
theorem dX0_copyFrom_97 : decode cX0_copyFrom 97 = .ok (.iconst 0, 1) := by decide +kernel
theorem dX0_copyFrom_98 : decode cX0_copyFrom 98 = .ok (.aload_n 0, 1) := by decide +kernel
theorem dX0_copyFrom_99 : decode cX0_copyFrom 99 = .ok (.getfield 19, 3) := by decide +kernel
theorem dX0_copyFrom_102 : decode cX0_copyFrom 102 = .ok (.iconst 0, 1) := by decide +kernel
theorem dX0_copyFrom_103 : decode cX0_copyFrom 103 = .ok (.bipush 6, 2) := by decide +kernel
theorem dX0_copyFrom_105 : decode cX0_copyFrom 105 = .ok (.invokestatic 33, 3) := by decide +kernel
theorem dX0_copyFrom_108 : decode cX0_copyFrom 108 = .ok (.return_, 1) := by decide +kernel
theorem hd_X0_copyFrom : yX0_copyFrom.cls ≠ "java/lang/invoke/MethodHandle" ∧ yX0_copyFrom.cls ≠ "java/lang/invoke/VarHandle" ∧ (parseMethodDescriptor yX0_copyFrom.desc).map (fun d => d.parameters.length) = some 1 := by decide +kernel
def f_X0_copyFrom_bk_L10 : Nat → Int32 → vS → Option vS
  | 0, _, _ => none
  | n + 1, x2, S => if (20 : Int32) ≤ x2 then some S else if inb x2 20 = true then if (¬ (0 : Int32) < 0 ∧ ¬ (0 : Int32) < 0 ∧ ¬ (7 : Int32) < 0) ∧ (0 : Int32).toNatClampNeg + (7 : Int32).toNatClampNeg ≤ alen (66 + x2.toNatClampNeg) ∧ (0 : Int32).toNatClampNeg + (7 : Int32).toNatClampNeg ≤ alen (34 + x2.toNatClampNeg) then lt (upk S (34 + x2.toNatClampNeg) (va_cpy (S (66 + x2.toNatClampNeg)) (S (34 + x2.toNatClampNeg)) (0 : Int32).toNatClampNeg (0 : Int32).toNatClampNeg (7 : Int32).toNatClampNeg)) fun S5 => (f_X0_copyFrom_bk_L10 n) (x2 + 1) S5 else none else none
def f_X0_copyFrom_bk_L43 : Nat → Int32 → vS → Option vS
  | 0, _, _ => none
  | n + 1, x2, S => if (6 : Int32) ≤ x2 then some S else if inb x2 6 = true then if (¬ (0 : Int32) < 0 ∧ ¬ (0 : Int32) < 0 ∧ ¬ (9 : Int32) < 0) ∧ (0 : Int32).toNatClampNeg + (9 : Int32).toNatClampNeg ≤ alen (86 + x2.toNatClampNeg) ∧ (0 : Int32).toNatClampNeg + (9 : Int32).toNatClampNeg ≤ alen (54 + x2.toNatClampNeg) then lt (upk S (54 + x2.toNatClampNeg) (va_cpy (S (86 + x2.toNatClampNeg)) (S (54 + x2.toNatClampNeg)) (0 : Int32).toNatClampNeg (0 : Int32).toNatClampNeg (9 : Int32).toNatClampNeg)) fun S10 => if (¬ (0 : Int32) < 0 ∧ ¬ (0 : Int32) < 0 ∧ ¬ (6 : Int32) < 0) ∧ (0 : Int32).toNatClampNeg + (6 : Int32).toNatClampNeg ≤ alen (92 + x2.toNatClampNeg) ∧ (0 : Int32).toNatClampNeg + (6 : Int32).toNatClampNeg ≤ alen (60 + x2.toNatClampNeg) then lt (upk S10 (60 + x2.toNatClampNeg) (va_cpy (S10 (92 + x2.toNatClampNeg)) (S10 (60 + x2.toNatClampNeg)) (0 : Int32).toNatClampNeg (0 : Int32).toNatClampNeg (6 : Int32).toNatClampNeg)) fun S12 => (f_X0_copyFrom_bk_L43 n) (x2 + 1) S12 else none else none else none
def f_X0_copyFrom_bk  (S : vS) : Option vS := lt (upk S 0 (upd (S 0) 12 (S 0 13))) fun S1 => b1 (f_X0_copyFrom_bk_L10 FU (0 : Int32) S1) fun S6 => b1 (f_X0_copyFrom_bk_L43 FU (0 : Int32) S6) fun S13 => if (¬ (0 : Int32) < 0 ∧ ¬ (0 : Int32) < 0 ∧ ¬ (6 : Int32) < 0) ∧ (0 : Int32).toNatClampNeg + (6 : Int32).toNatClampNeg ≤ alen 24 ∧ (0 : Int32).toNatClampNeg + (6 : Int32).toNatClampNeg ≤ alen 23 then lt (upk S13 23 (va_cpy (S13 24) (S13 23) (0 : Int32).toNatClampNeg (0 : Int32).toNatClampNeg (6 : Int32).toNatClampNeg)) fun S15 => some S15 else none
set_option maxHeartbeats 4000000 in
set_option maxRecDepth 20000 in
theorem c_X0_copyFrom_bk (l : Launch) (D : va_G) (cI cO : ClassId) (ad : Nat → Nat)  (S : vS) (S9 : vS) (hf : f_X0_copyFrom_bk  S = some S9) : CV l yX0_copyFrom cX0_copyFrom 3 ({ frames := 1, cells := 0, slots := 0, locals := 26 }) [.ref (ad 2), .ref (ad 3)] D cI cO ad S S9 := by
  refine CV.of (r := 0) (by decide +kernel) (Nat.le_of_ble_eq_true rfl) (fun p e s m args below meth c Q ls X hl hw hfin => ?_)
  have hl : lv_has ls 3 [(0, .ref (ad 2)), (1, .ref (ad 3))] := hl
  have hx := X.1
  have hb := X.2.1
  have L10 : ∀ (n : Nat) (x2 : Int32) (S : vS) (res : vS), f_X0_copyFrom_bk_L10 n x2 S = some res → (K : ∀  (S2 : vS), some S2 = some res → ∀ (H : Heap) (locs : List Loc) (ls : Array Slot), WD D cI cO ad s S2 H locs → lv_has ls 3 [(0, .ref (ad 2)), (1, .ref (ad 3))] → W p l e ({ frames := 1, cells := 0, slots := 0, locals := 26 }) s m args below meth c H locs 0 0 Q (F0 m 41 ls [])) → ∀ (H : Heap) (locs : List Loc) (ls : Array Slot), WD D cI cO ad s S H locs → lv_has ls 3 [(0, .ref (ad 2)), (1, .ref (ad 3)), (2, .int x2)] → W p l e ({ frames := 1, cells := 0, slots := 0, locals := 26 }) s m args below meth c H locs 0 0 Q (F0 m 10 ls []) := by
    intro n
    induction n with
    | zero => intro x2 S res hf; cases hf
    | succ n ih =>
      intro x2 S res hf K H locs ls hw hl
      unfold f_X0_copyFrom_bk_L10 at hf
      refine lv_iload_n hx hb dX0_copyFrom_10 rfl (lv_at hl 2 rfl) ?_
      refine lv_bipush (v := 20) hx hb dX0_copyFrom_11 (by decide +kernel) ?_
      refine lv_icmp_ge (tgt := 41) hx hb dX0_copyFrom_13 (by decide) (fun c2 => ?_) (fun c2 => ?_)
      · replace hf := if_t c2 hf
        exact K S hf _ _ _ hw (lv_sub hl [0, 1] rfl)
      · replace hf := if_f c2 hf
        refine lv_aload_n hx hb dX0_copyFrom_16 rfl (lv_at hl 1 rfl) ?_
        refine x_get X hw 3 (Nat.le_of_ble_eq_true rfl) ce3 rfl i_X0 0 (by decide) q113 ⟨rfl, rfl, rfl⟩ rfl dX0_copyFrom_17 ?_
        refine lv_iload_n hx hb dX0_copyFrom_20 rfl (lv_at hl 2 rfl) ?_
        obtain ⟨h3, hf⟩ := if_s hf
        refine x_aald X hw 9 (Nat.le_of_ble_eq_true rfl) ce9 h3 rfl dX0_copyFrom_21 ?_
        refine lv_iconst (v := 0) hx hb dX0_copyFrom_22 (by decide) ?_
        refine lv_aload_n hx hb dX0_copyFrom_23 rfl (lv_at hl 0 rfl) ?_
        refine x_get X hw 2 (Nat.le_of_ble_eq_true rfl) ce2 rfl i_X0 0 (by decide) q113 ⟨rfl, rfl, rfl⟩ rfl dX0_copyFrom_24 ?_
        refine lv_iload_n hx hb dX0_copyFrom_27 rfl (lv_at hl 2 rfl) ?_
        refine x_aald X hw 6 (Nat.le_of_ble_eq_true rfl) ce6 h3 rfl dX0_copyFrom_28 ?_
        refine lv_iconst (v := 0) hx hb dX0_copyFrom_29 (by decide) ?_
        refine lv_bipush (v := 7) hx hb dX0_copyFrom_30 (by decide +kernel) ?_
        obtain ⟨h4, hf⟩ := if_s hf
        refine x_copy X hw hl.1 q110 q112 q111 q62 (66 + x2.toNatClampNeg) (34 + x2.toNatClampNeg) (have q9 := inb_lt h3; ⟨by omega, by omega⟩) (have q9 := inb_lt h3; ⟨by omega, by omega⟩) h4 (Nat.le_of_ble_eq_true rfl) (Nat.le_of_ble_eq_true rfl) dX0_copyFrom_32 (fun S5 eS5 H locs hw => ?_)
        replace hf := lt_e eS5 hf
        refine lv_iinc (v := (x2 + 1)) (lv' := [(2, .int (x2 + 1)), (0, .ref (ad 2)), (1, .ref (ad 3))]) hx hb dX0_copyFrom_35 hl (k := 2) rfl rfl (by decide) rfl (fun ls hl => ?_)
        refine lv_goto (tgt := 10) hx hb dX0_copyFrom_38 (by decide) ?_
        exact ih (x2 + 1) S5 _ hf K _ _ _ hw (lv_sub hl [1, 2, 0] rfl)
  have L43 : ∀ (n : Nat) (x2 : Int32) (S : vS) (res : vS), f_X0_copyFrom_bk_L43 n x2 S = some res → (K : ∀  (S2 : vS), some S2 = some res → ∀ (H : Heap) (locs : List Loc) (ls : Array Slot), WD D cI cO ad s S2 H locs → lv_has ls 3 [(0, .ref (ad 2)), (1, .ref (ad 3))] → W p l e ({ frames := 1, cells := 0, slots := 0, locals := 26 }) s m args below meth c H locs 0 0 Q (F0 m 93 ls [])) → ∀ (H : Heap) (locs : List Loc) (ls : Array Slot), WD D cI cO ad s S H locs → lv_has ls 3 [(0, .ref (ad 2)), (1, .ref (ad 3)), (2, .int x2)] → W p l e ({ frames := 1, cells := 0, slots := 0, locals := 26 }) s m args below meth c H locs 0 0 Q (F0 m 43 ls []) := by
    intro n
    induction n with
    | zero => intro x2 S res hf; cases hf
    | succ n ih =>
      intro x2 S res hf K H locs ls hw hl
      unfold f_X0_copyFrom_bk_L43 at hf
      refine lv_iload_n hx hb dX0_copyFrom_43 rfl (lv_at hl 2 rfl) ?_
      refine lv_bipush (v := 6) hx hb dX0_copyFrom_44 (by decide +kernel) ?_
      refine lv_icmp_ge (tgt := 93) hx hb dX0_copyFrom_46 (by decide) (fun c7 => ?_) (fun c7 => ?_)
      · replace hf := if_t c7 hf
        exact K S hf _ _ _ hw (lv_sub hl [0, 1] rfl)
      · replace hf := if_f c7 hf
        refine lv_aload_n hx hb dX0_copyFrom_49 rfl (lv_at hl 1 rfl) ?_
        refine x_get X hw 3 (Nat.le_of_ble_eq_true rfl) ce3 rfl i_X0 1 (by decide) q115 ⟨rfl, rfl, rfl⟩ rfl dX0_copyFrom_50 ?_
        refine lv_iload_n hx hb dX0_copyFrom_53 rfl (lv_at hl 2 rfl) ?_
        obtain ⟨h8, hf⟩ := if_s hf
        refine x_aald X hw 10 (Nat.le_of_ble_eq_true rfl) ce10 h8 rfl dX0_copyFrom_54 ?_
        refine lv_iconst (v := 0) hx hb dX0_copyFrom_55 (by decide) ?_
        refine lv_aload_n hx hb dX0_copyFrom_56 rfl (lv_at hl 0 rfl) ?_
        refine x_get X hw 2 (Nat.le_of_ble_eq_true rfl) ce2 rfl i_X0 1 (by decide) q115 ⟨rfl, rfl, rfl⟩ rfl dX0_copyFrom_57 ?_
        refine lv_iload_n hx hb dX0_copyFrom_60 rfl (lv_at hl 2 rfl) ?_
        refine x_aald X hw 7 (Nat.le_of_ble_eq_true rfl) ce7 h8 rfl dX0_copyFrom_61 ?_
        refine lv_iconst (v := 0) hx hb dX0_copyFrom_62 (by decide) ?_
        refine lv_bipush (v := 9) hx hb dX0_copyFrom_63 (by decide +kernel) ?_
        obtain ⟨h9, hf⟩ := if_s hf
        refine x_copy X hw hl.1 q110 q112 q111 q62 (86 + x2.toNatClampNeg) (54 + x2.toNatClampNeg) (have q9 := inb_lt h8; ⟨by omega, by omega⟩) (have q9 := inb_lt h8; ⟨by omega, by omega⟩) h9 (Nat.le_of_ble_eq_true rfl) (Nat.le_of_ble_eq_true rfl) dX0_copyFrom_65 (fun S10 eS10 H locs hw => ?_)
        replace hf := lt_e eS10 hf
        refine lv_aload_n hx hb dX0_copyFrom_68 rfl (lv_at hl 1 rfl) ?_
        refine x_get X hw 3 (Nat.le_of_ble_eq_true rfl) ce3 rfl i_X0 3 (by decide) q121 ⟨rfl, rfl, rfl⟩ rfl dX0_copyFrom_69 ?_
        refine lv_iload_n hx hb dX0_copyFrom_72 rfl (lv_at hl 2 rfl) ?_
        refine x_aald X hw 11 (Nat.le_of_ble_eq_true rfl) ce11 h8 rfl dX0_copyFrom_73 ?_
        refine lv_iconst (v := 0) hx hb dX0_copyFrom_74 (by decide) ?_
        refine lv_aload_n hx hb dX0_copyFrom_75 rfl (lv_at hl 0 rfl) ?_
        refine x_get X hw 2 (Nat.le_of_ble_eq_true rfl) ce2 rfl i_X0 3 (by decide) q121 ⟨rfl, rfl, rfl⟩ rfl dX0_copyFrom_76 ?_
        refine lv_iload_n hx hb dX0_copyFrom_79 rfl (lv_at hl 2 rfl) ?_
        refine x_aald X hw 8 (Nat.le_of_ble_eq_true rfl) ce8 h8 rfl dX0_copyFrom_80 ?_
        refine lv_iconst (v := 0) hx hb dX0_copyFrom_81 (by decide) ?_
        refine lv_bipush (v := 6) hx hb dX0_copyFrom_82 (by decide +kernel) ?_
        obtain ⟨h11, hf⟩ := if_s hf
        refine x_copy X hw hl.1 q110 q112 q111 q62 (92 + x2.toNatClampNeg) (60 + x2.toNatClampNeg) (have q9 := inb_lt h8; ⟨by omega, by omega⟩) (have q9 := inb_lt h8; ⟨by omega, by omega⟩) h11 (Nat.le_of_ble_eq_true rfl) (Nat.le_of_ble_eq_true rfl) dX0_copyFrom_84 (fun S12 eS12 H locs hw => ?_)
        replace hf := lt_e eS12 hf
        refine lv_iinc (v := (x2 + 1)) (lv' := [(2, .int (x2 + 1)), (0, .ref (ad 2)), (1, .ref (ad 3))]) hx hb dX0_copyFrom_87 hl (k := 2) rfl rfl (by decide) rfl (fun ls hl => ?_)
        refine lv_goto (tgt := 43) hx hb dX0_copyFrom_90 (by decide) ?_
        exact ih (x2 + 1) S12 _ hf K _ _ _ hw (lv_sub hl [1, 2, 0] rfl)
  unfold f_X0_copyFrom_bk at hf
  refine lv_aload_n hx hb dX0_copyFrom_0 rfl (lv_at hl 0 rfl) ?_
  refine lv_aload_n hx hb dX0_copyFrom_1 rfl (lv_at hl 1 rfl) ?_
  refine x_get X hw 3 (Nat.le_of_ble_eq_true rfl) ce3 rfl i_X0 4 (by decide) q124 ⟨rfl, rfl, rfl⟩ rfl dX0_copyFrom_2 ?_
  refine x_put X hw 2 (Nat.le_of_ble_eq_true rfl) ce2 rfl i_X0 tyX0_ok nmX0 4 (by decide) q124 ⟨rfl, rfl, rfl⟩ rfl pfI rfl rfl (Nat.le_of_ble_eq_true rfl) 12 (ws_12 _) dX0_copyFrom_5 (fun S1 eS1 H locs hw => ?_)
  replace hf := lt_e eS1 hf
  refine lv_iconst (v := 0) hx hb dX0_copyFrom_8 (by decide) ?_
  refine lv_istore_n (lv' := [(2, .int (0 : Int32)), (0, .ref (ad 2)), (1, .ref (ad 3))]) hx hb dX0_copyFrom_9 rfl hl (by decide) rfl (fun ls hl => ?_)
  obtain ⟨S6, h17, hf⟩ := b1_s hf
  refine L10 FU (0 : Int32) S1 _ h17 (fun S6' eK H locs ls hw hl => ?_) _ _ _ hw (lv_sub hl [1, 2, 0] rfl)
  cases eK
  refine lv_iconst (v := 0) hx hb dX0_copyFrom_41 (by decide) ?_
  refine lv_istore_n (lv' := [(2, .int (0 : Int32)), (0, .ref (ad 2)), (1, .ref (ad 3))]) hx hb dX0_copyFrom_42 rfl hl (by decide) rfl (fun ls hl => ?_)
  obtain ⟨S13, h16, hf⟩ := b1_s hf
  refine L43 FU (0 : Int32) S6 _ h16 (fun S13' eK H locs ls hw hl => ?_) _ _ _ hw (lv_sub hl [1, 2, 0] rfl)
  cases eK
  refine lv_aload_n hx hb dX0_copyFrom_93 rfl (lv_at hl 1 rfl) ?_
  refine x_get X hw 3 (Nat.le_of_ble_eq_true rfl) ce3 rfl i_X0 2 (by decide) q118 ⟨rfl, rfl, rfl⟩ rfl dX0_copyFrom_94 ?_
  refine lv_iconst (v := 0) hx hb dX0_copyFrom_97 (by decide) ?_
  refine lv_aload_n hx hb dX0_copyFrom_98 rfl (lv_at hl 0 rfl) ?_
  refine x_get X hw 2 (Nat.le_of_ble_eq_true rfl) ce2 rfl i_X0 2 (by decide) q118 ⟨rfl, rfl, rfl⟩ rfl dX0_copyFrom_99 ?_
  refine lv_iconst (v := 0) hx hb dX0_copyFrom_102 (by decide) ?_
  refine lv_bipush (v := 6) hx hb dX0_copyFrom_103 (by decide +kernel) ?_
  obtain ⟨h14, hf⟩ := if_s hf
  refine x_copy X hw hl.1 q110 q112 q111 q62 24 23 ⟨Nat.le_of_ble_eq_true rfl, Nat.le_of_ble_eq_true rfl⟩ ⟨Nat.le_of_ble_eq_true rfl, Nat.le_of_ble_eq_true rfl⟩ h14 (Nat.le_of_ble_eq_true rfl) (Nat.le_of_ble_eq_true rfl) dX0_copyFrom_105 (fun S15 eS15 H locs hw => ?_)
  replace hf := lt_e eS15 hf
  exact hfin _ _ 0 _ _ _ hw rfl (Option.some.inj hf) dX0_copyFrom_108
/-- NineLands$Book.copyFrom(LNineLands$Book;)V -/
def f_X0_copyFrom_kb_L10 : Nat → Int32 → vS → Option vS
  | 0, _, _ => none
  | n + 1, x2, S => if (20 : Int32) ≤ x2 then some S else if inb x2 20 = true then if (¬ (0 : Int32) < 0 ∧ ¬ (0 : Int32) < 0 ∧ ¬ (7 : Int32) < 0) ∧ (0 : Int32).toNatClampNeg + (7 : Int32).toNatClampNeg ≤ alen (34 + x2.toNatClampNeg) ∧ (0 : Int32).toNatClampNeg + (7 : Int32).toNatClampNeg ≤ alen (66 + x2.toNatClampNeg) then lt (upk S (66 + x2.toNatClampNeg) (va_cpy (S (34 + x2.toNatClampNeg)) (S (66 + x2.toNatClampNeg)) (0 : Int32).toNatClampNeg (0 : Int32).toNatClampNeg (7 : Int32).toNatClampNeg)) fun S5 => (f_X0_copyFrom_kb_L10 n) (x2 + 1) S5 else none else none
def f_X0_copyFrom_kb_L43 : Nat → Int32 → vS → Option vS
  | 0, _, _ => none
  | n + 1, x2, S => if (6 : Int32) ≤ x2 then some S else if inb x2 6 = true then if (¬ (0 : Int32) < 0 ∧ ¬ (0 : Int32) < 0 ∧ ¬ (9 : Int32) < 0) ∧ (0 : Int32).toNatClampNeg + (9 : Int32).toNatClampNeg ≤ alen (54 + x2.toNatClampNeg) ∧ (0 : Int32).toNatClampNeg + (9 : Int32).toNatClampNeg ≤ alen (86 + x2.toNatClampNeg) then lt (upk S (86 + x2.toNatClampNeg) (va_cpy (S (54 + x2.toNatClampNeg)) (S (86 + x2.toNatClampNeg)) (0 : Int32).toNatClampNeg (0 : Int32).toNatClampNeg (9 : Int32).toNatClampNeg)) fun S10 => if (¬ (0 : Int32) < 0 ∧ ¬ (0 : Int32) < 0 ∧ ¬ (6 : Int32) < 0) ∧ (0 : Int32).toNatClampNeg + (6 : Int32).toNatClampNeg ≤ alen (60 + x2.toNatClampNeg) ∧ (0 : Int32).toNatClampNeg + (6 : Int32).toNatClampNeg ≤ alen (92 + x2.toNatClampNeg) then lt (upk S10 (92 + x2.toNatClampNeg) (va_cpy (S10 (60 + x2.toNatClampNeg)) (S10 (92 + x2.toNatClampNeg)) (0 : Int32).toNatClampNeg (0 : Int32).toNatClampNeg (6 : Int32).toNatClampNeg)) fun S12 => (f_X0_copyFrom_kb_L43 n) (x2 + 1) S12 else none else none else none
def f_X0_copyFrom_kb  (S : vS) : Option vS := lt (upk S 0 (upd (S 0) 13 (S 0 12))) fun S1 => b1 (f_X0_copyFrom_kb_L10 FU (0 : Int32) S1) fun S6 => b1 (f_X0_copyFrom_kb_L43 FU (0 : Int32) S6) fun S13 => if (¬ (0 : Int32) < 0 ∧ ¬ (0 : Int32) < 0 ∧ ¬ (6 : Int32) < 0) ∧ (0 : Int32).toNatClampNeg + (6 : Int32).toNatClampNeg ≤ alen 23 ∧ (0 : Int32).toNatClampNeg + (6 : Int32).toNatClampNeg ≤ alen 24 then lt (upk S13 24 (va_cpy (S13 23) (S13 24) (0 : Int32).toNatClampNeg (0 : Int32).toNatClampNeg (6 : Int32).toNatClampNeg)) fun S15 => some S15 else none
set_option maxHeartbeats 4000000 in
set_option maxRecDepth 20000 in
theorem c_X0_copyFrom_kb (l : Launch) (D : va_G) (cI cO : ClassId) (ad : Nat → Nat)  (S : vS) (S9 : vS) (hf : f_X0_copyFrom_kb  S = some S9) : CV l yX0_copyFrom cX0_copyFrom 3 ({ frames := 1, cells := 0, slots := 0, locals := 26 }) [.ref (ad 3), .ref (ad 2)] D cI cO ad S S9 := by
  refine CV.of (r := 0) (by decide +kernel) (Nat.le_of_ble_eq_true rfl) (fun p e s m args below meth c Q ls X hl hw hfin => ?_)
  have hl : lv_has ls 3 [(0, .ref (ad 3)), (1, .ref (ad 2))] := hl
  have hx := X.1
  have hb := X.2.1
  have L10 : ∀ (n : Nat) (x2 : Int32) (S : vS) (res : vS), f_X0_copyFrom_kb_L10 n x2 S = some res → (K : ∀  (S2 : vS), some S2 = some res → ∀ (H : Heap) (locs : List Loc) (ls : Array Slot), WD D cI cO ad s S2 H locs → lv_has ls 3 [(0, .ref (ad 3)), (1, .ref (ad 2))] → W p l e ({ frames := 1, cells := 0, slots := 0, locals := 26 }) s m args below meth c H locs 0 0 Q (F0 m 41 ls [])) → ∀ (H : Heap) (locs : List Loc) (ls : Array Slot), WD D cI cO ad s S H locs → lv_has ls 3 [(0, .ref (ad 3)), (1, .ref (ad 2)), (2, .int x2)] → W p l e ({ frames := 1, cells := 0, slots := 0, locals := 26 }) s m args below meth c H locs 0 0 Q (F0 m 10 ls []) := by
    intro n
    induction n with
    | zero => intro x2 S res hf; cases hf
    | succ n ih =>
      intro x2 S res hf K H locs ls hw hl
      unfold f_X0_copyFrom_kb_L10 at hf
      refine lv_iload_n hx hb dX0_copyFrom_10 rfl (lv_at hl 2 rfl) ?_
      refine lv_bipush (v := 20) hx hb dX0_copyFrom_11 (by decide +kernel) ?_
      refine lv_icmp_ge (tgt := 41) hx hb dX0_copyFrom_13 (by decide) (fun c2 => ?_) (fun c2 => ?_)
      · replace hf := if_t c2 hf
        exact K S hf _ _ _ hw (lv_sub hl [0, 1] rfl)
      · replace hf := if_f c2 hf
        refine lv_aload_n hx hb dX0_copyFrom_16 rfl (lv_at hl 1 rfl) ?_
        refine x_get X hw 2 (Nat.le_of_ble_eq_true rfl) ce2 rfl i_X0 0 (by decide) q113 ⟨rfl, rfl, rfl⟩ rfl dX0_copyFrom_17 ?_
        refine lv_iload_n hx hb dX0_copyFrom_20 rfl (lv_at hl 2 rfl) ?_
        obtain ⟨h3, hf⟩ := if_s hf
        refine x_aald X hw 6 (Nat.le_of_ble_eq_true rfl) ce6 h3 rfl dX0_copyFrom_21 ?_
        refine lv_iconst (v := 0) hx hb dX0_copyFrom_22 (by decide) ?_
        refine lv_aload_n hx hb dX0_copyFrom_23 rfl (lv_at hl 0 rfl) ?_
        refine x_get X hw 3 (Nat.le_of_ble_eq_true rfl) ce3 rfl i_X0 0 (by decide) q113 ⟨rfl, rfl, rfl⟩ rfl dX0_copyFrom_24 ?_
        refine lv_iload_n hx hb dX0_copyFrom_27 rfl (lv_at hl 2 rfl) ?_
        refine x_aald X hw 9 (Nat.le_of_ble_eq_true rfl) ce9 h3 rfl dX0_copyFrom_28 ?_
        refine lv_iconst (v := 0) hx hb dX0_copyFrom_29 (by decide) ?_
        refine lv_bipush (v := 7) hx hb dX0_copyFrom_30 (by decide +kernel) ?_
        obtain ⟨h4, hf⟩ := if_s hf
        refine x_copy X hw hl.1 q110 q112 q111 q62 (34 + x2.toNatClampNeg) (66 + x2.toNatClampNeg) (have q9 := inb_lt h3; ⟨by omega, by omega⟩) (have q9 := inb_lt h3; ⟨by omega, by omega⟩) h4 (Nat.le_of_ble_eq_true rfl) (Nat.le_of_ble_eq_true rfl) dX0_copyFrom_32 (fun S5 eS5 H locs hw => ?_)
        replace hf := lt_e eS5 hf
        refine lv_iinc (v := (x2 + 1)) (lv' := [(2, .int (x2 + 1)), (0, .ref (ad 3)), (1, .ref (ad 2))]) hx hb dX0_copyFrom_35 hl (k := 2) rfl rfl (by decide) rfl (fun ls hl => ?_)
        refine lv_goto (tgt := 10) hx hb dX0_copyFrom_38 (by decide) ?_
        exact ih (x2 + 1) S5 _ hf K _ _ _ hw (lv_sub hl [1, 2, 0] rfl)
  have L43 : ∀ (n : Nat) (x2 : Int32) (S : vS) (res : vS), f_X0_copyFrom_kb_L43 n x2 S = some res → (K : ∀  (S2 : vS), some S2 = some res → ∀ (H : Heap) (locs : List Loc) (ls : Array Slot), WD D cI cO ad s S2 H locs → lv_has ls 3 [(0, .ref (ad 3)), (1, .ref (ad 2))] → W p l e ({ frames := 1, cells := 0, slots := 0, locals := 26 }) s m args below meth c H locs 0 0 Q (F0 m 93 ls [])) → ∀ (H : Heap) (locs : List Loc) (ls : Array Slot), WD D cI cO ad s S H locs → lv_has ls 3 [(0, .ref (ad 3)), (1, .ref (ad 2)), (2, .int x2)] → W p l e ({ frames := 1, cells := 0, slots := 0, locals := 26 }) s m args below meth c H locs 0 0 Q (F0 m 43 ls []) := by
    intro n
    induction n with
    | zero => intro x2 S res hf; cases hf
    | succ n ih =>
      intro x2 S res hf K H locs ls hw hl
      unfold f_X0_copyFrom_kb_L43 at hf
      refine lv_iload_n hx hb dX0_copyFrom_43 rfl (lv_at hl 2 rfl) ?_
      refine lv_bipush (v := 6) hx hb dX0_copyFrom_44 (by decide +kernel) ?_
      refine lv_icmp_ge (tgt := 93) hx hb dX0_copyFrom_46 (by decide) (fun c7 => ?_) (fun c7 => ?_)
      · replace hf := if_t c7 hf
        exact K S hf _ _ _ hw (lv_sub hl [0, 1] rfl)
      · replace hf := if_f c7 hf
        refine lv_aload_n hx hb dX0_copyFrom_49 rfl (lv_at hl 1 rfl) ?_
        refine x_get X hw 2 (Nat.le_of_ble_eq_true rfl) ce2 rfl i_X0 1 (by decide) q115 ⟨rfl, rfl, rfl⟩ rfl dX0_copyFrom_50 ?_
        refine lv_iload_n hx hb dX0_copyFrom_53 rfl (lv_at hl 2 rfl) ?_
        obtain ⟨h8, hf⟩ := if_s hf
        refine x_aald X hw 7 (Nat.le_of_ble_eq_true rfl) ce7 h8 rfl dX0_copyFrom_54 ?_
        refine lv_iconst (v := 0) hx hb dX0_copyFrom_55 (by decide) ?_
        refine lv_aload_n hx hb dX0_copyFrom_56 rfl (lv_at hl 0 rfl) ?_
        refine x_get X hw 3 (Nat.le_of_ble_eq_true rfl) ce3 rfl i_X0 1 (by decide) q115 ⟨rfl, rfl, rfl⟩ rfl dX0_copyFrom_57 ?_
        refine lv_iload_n hx hb dX0_copyFrom_60 rfl (lv_at hl 2 rfl) ?_
        refine x_aald X hw 10 (Nat.le_of_ble_eq_true rfl) ce10 h8 rfl dX0_copyFrom_61 ?_
        refine lv_iconst (v := 0) hx hb dX0_copyFrom_62 (by decide) ?_
        refine lv_bipush (v := 9) hx hb dX0_copyFrom_63 (by decide +kernel) ?_
        obtain ⟨h9, hf⟩ := if_s hf
        refine x_copy X hw hl.1 q110 q112 q111 q62 (54 + x2.toNatClampNeg) (86 + x2.toNatClampNeg) (have q9 := inb_lt h8; ⟨by omega, by omega⟩) (have q9 := inb_lt h8; ⟨by omega, by omega⟩) h9 (Nat.le_of_ble_eq_true rfl) (Nat.le_of_ble_eq_true rfl) dX0_copyFrom_65 (fun S10 eS10 H locs hw => ?_)
        replace hf := lt_e eS10 hf
        refine lv_aload_n hx hb dX0_copyFrom_68 rfl (lv_at hl 1 rfl) ?_
        refine x_get X hw 2 (Nat.le_of_ble_eq_true rfl) ce2 rfl i_X0 3 (by decide) q121 ⟨rfl, rfl, rfl⟩ rfl dX0_copyFrom_69 ?_
        refine lv_iload_n hx hb dX0_copyFrom_72 rfl (lv_at hl 2 rfl) ?_
        refine x_aald X hw 8 (Nat.le_of_ble_eq_true rfl) ce8 h8 rfl dX0_copyFrom_73 ?_
        refine lv_iconst (v := 0) hx hb dX0_copyFrom_74 (by decide) ?_
        refine lv_aload_n hx hb dX0_copyFrom_75 rfl (lv_at hl 0 rfl) ?_
        refine x_get X hw 3 (Nat.le_of_ble_eq_true rfl) ce3 rfl i_X0 3 (by decide) q121 ⟨rfl, rfl, rfl⟩ rfl dX0_copyFrom_76 ?_
        refine lv_iload_n hx hb dX0_copyFrom_79 rfl (lv_at hl 2 rfl) ?_
        refine x_aald X hw 11 (Nat.le_of_ble_eq_true rfl) ce11 h8 rfl dX0_copyFrom_80 ?_
        refine lv_iconst (v := 0) hx hb dX0_copyFrom_81 (by decide) ?_
        refine lv_bipush (v := 6) hx hb dX0_copyFrom_82 (by decide +kernel) ?_
        obtain ⟨h11, hf⟩ := if_s hf
        refine x_copy X hw hl.1 q110 q112 q111 q62 (60 + x2.toNatClampNeg) (92 + x2.toNatClampNeg) (have q9 := inb_lt h8; ⟨by omega, by omega⟩) (have q9 := inb_lt h8; ⟨by omega, by omega⟩) h11 (Nat.le_of_ble_eq_true rfl) (Nat.le_of_ble_eq_true rfl) dX0_copyFrom_84 (fun S12 eS12 H locs hw => ?_)
        replace hf := lt_e eS12 hf
        refine lv_iinc (v := (x2 + 1)) (lv' := [(2, .int (x2 + 1)), (0, .ref (ad 3)), (1, .ref (ad 2))]) hx hb dX0_copyFrom_87 hl (k := 2) rfl rfl (by decide) rfl (fun ls hl => ?_)
        refine lv_goto (tgt := 43) hx hb dX0_copyFrom_90 (by decide) ?_
        exact ih (x2 + 1) S12 _ hf K _ _ _ hw (lv_sub hl [1, 2, 0] rfl)
  unfold f_X0_copyFrom_kb at hf
  refine lv_aload_n hx hb dX0_copyFrom_0 rfl (lv_at hl 0 rfl) ?_
  refine lv_aload_n hx hb dX0_copyFrom_1 rfl (lv_at hl 1 rfl) ?_
  refine x_get X hw 2 (Nat.le_of_ble_eq_true rfl) ce2 rfl i_X0 4 (by decide) q124 ⟨rfl, rfl, rfl⟩ rfl dX0_copyFrom_2 ?_
  refine x_put X hw 3 (Nat.le_of_ble_eq_true rfl) ce3 rfl i_X0 tyX0_ok nmX0 4 (by decide) q124 ⟨rfl, rfl, rfl⟩ rfl pfI rfl rfl (Nat.le_of_ble_eq_true rfl) 13 (ws_13 _) dX0_copyFrom_5 (fun S1 eS1 H locs hw => ?_)
  replace hf := lt_e eS1 hf
  refine lv_iconst (v := 0) hx hb dX0_copyFrom_8 (by decide) ?_
  refine lv_istore_n (lv' := [(2, .int (0 : Int32)), (0, .ref (ad 3)), (1, .ref (ad 2))]) hx hb dX0_copyFrom_9 rfl hl (by decide) rfl (fun ls hl => ?_)
  obtain ⟨S6, h17, hf⟩ := b1_s hf
  refine L10 FU (0 : Int32) S1 _ h17 (fun S6' eK H locs ls hw hl => ?_) _ _ _ hw (lv_sub hl [1, 2, 0] rfl)
  cases eK
  refine lv_iconst (v := 0) hx hb dX0_copyFrom_41 (by decide) ?_
  refine lv_istore_n (lv' := [(2, .int (0 : Int32)), (0, .ref (ad 3)), (1, .ref (ad 2))]) hx hb dX0_copyFrom_42 rfl hl (by decide) rfl (fun ls hl => ?_)
  obtain ⟨S13, h16, hf⟩ := b1_s hf
  refine L43 FU (0 : Int32) S6 _ h16 (fun S13' eK H locs ls hw hl => ?_) _ _ _ hw (lv_sub hl [1, 2, 0] rfl)
  cases eK
  refine lv_aload_n hx hb dX0_copyFrom_93 rfl (lv_at hl 1 rfl) ?_
  refine x_get X hw 2 (Nat.le_of_ble_eq_true rfl) ce2 rfl i_X0 2 (by decide) q118 ⟨rfl, rfl, rfl⟩ rfl dX0_copyFrom_94 ?_
  refine lv_iconst (v := 0) hx hb dX0_copyFrom_97 (by decide) ?_
  refine lv_aload_n hx hb dX0_copyFrom_98 rfl (lv_at hl 0 rfl) ?_
  refine x_get X hw 3 (Nat.le_of_ble_eq_true rfl) ce3 rfl i_X0 2 (by decide) q118 ⟨rfl, rfl, rfl⟩ rfl dX0_copyFrom_99 ?_
  refine lv_iconst (v := 0) hx hb dX0_copyFrom_102 (by decide) ?_
  refine lv_bipush (v := 6) hx hb dX0_copyFrom_103 (by decide +kernel) ?_
  obtain ⟨h14, hf⟩ := if_s hf
  refine x_copy X hw hl.1 q110 q112 q111 q62 23 24 ⟨Nat.le_of_ble_eq_true rfl, Nat.le_of_ble_eq_true rfl⟩ ⟨Nat.le_of_ble_eq_true rfl, Nat.le_of_ble_eq_true rfl⟩ h14 (Nat.le_of_ble_eq_true rfl) (Nat.le_of_ble_eq_true rfl) dX0_copyFrom_105 (fun S15 eS15 H locs hw => ?_)
  replace hf := lt_e eS15 hf
  exact hfin _ _ 0 _ _ _ hw rfl (Option.some.inj hf) dX0_copyFrom_108
/-- java/lang/StringLatin1.canEncode(I)Z -/
theorem dJ1_canEncode_9a6ad_0 : decode cJ1_canEncode_9a6ad 0 = .ok (.iload_n 0, 1) := by decide +kernel
theorem dJ1_canEncode_9a6ad_1 : decode cJ1_canEncode_9a6ad 1 = .ok (.ifCond .lt 14, 3) := by decide +kernel
theorem dJ1_canEncode_9a6ad_4 : decode cJ1_canEncode_9a6ad 4 = .ok (.iload_n 0, 1) := by decide +kernel
theorem dJ1_canEncode_9a6ad_5 : decode cJ1_canEncode_9a6ad 5 = .ok (.sipush 255, 3) := by decide +kernel
theorem dJ1_canEncode_9a6ad_8 : decode cJ1_canEncode_9a6ad 8 = .ok (.if_icmp .gt 7, 3) := by decide +kernel
theorem dJ1_canEncode_9a6ad_11 : decode cJ1_canEncode_9a6ad 11 = .ok (.iconst 1, 1) := by decide +kernel
theorem dJ1_canEncode_9a6ad_12 : decode cJ1_canEncode_9a6ad 12 = .ok (.goto 4, 3) := by decide +kernel
theorem dJ1_canEncode_9a6ad_15 : decode cJ1_canEncode_9a6ad 15 = .ok (.iconst 0, 1) := by decide +kernel
theorem dJ1_canEncode_9a6ad_16 : decode cJ1_canEncode_9a6ad 16 = .ok (.ireturn, 1) := by decide +kernel
theorem hd_J1_canEncode_9a6ad : yJ1_canEncode_9a6ad.cls ≠ "java/lang/invoke/MethodHandle" ∧ yJ1_canEncode_9a6ad.cls ≠ "java/lang/invoke/VarHandle" ∧ (parseMethodDescriptor yJ1_canEncode_9a6ad.desc).map (fun d => d.parameters.length) = some 1 := by decide +kernel
def f_J1_canEncode_9a6ad (a0 : Int32) (S : vS) : Option Int32 := if a0 < 0 then some (0 : Int32) else if (255 : Int32) < a0 then some (0 : Int32) else some (1 : Int32)
set_option maxHeartbeats 4000000 in
set_option maxRecDepth 20000 in
theorem c_J1_canEncode_9a6ad (l : Launch) (D : va_G) (cI cO : ClassId) (ad : Nat → Nat) (a0 : Int32) (S : vS) (R9 : Int32) (hf : f_J1_canEncode_9a6ad a0 S = some R9) : CI l yJ1_canEncode_9a6ad cJ1_canEncode_9a6ad 1 .boolean ({ frames := 0, cells := 0, slots := 0, locals := 0 }) [.int a0] D cI cO ad S R9 S := by
  refine CI.of (by decide +kernel) (Nat.le_of_ble_eq_true rfl) (fun p e s m args below meth c Q ls X hl hw hfin => ?_)
  have hl : lv_has ls 1 [(0, .int a0)] := hl
  have hx := X.1
  have hb := X.2.1
  unfold f_J1_canEncode_9a6ad at hf
  refine lv_iload_n hx hb dJ1_canEncode_9a6ad_0 rfl (lv_at hl 0 rfl) ?_
  refine lv_if_lt (tgt := 15) hx hb dJ1_canEncode_9a6ad_1 (by decide) (fun c1 => ?_) (fun c1 => ?_)
  · replace hf := if_t c1 hf
    refine lv_iconst (v := 0) hx hb dJ1_canEncode_9a6ad_15 (by decide) ?_
    exact hfin _ _ _ _ _ _ hw (Option.some.inj hf) rfl rfl dJ1_canEncode_9a6ad_16
  · replace hf := if_f c1 hf
    refine lv_iload_n hx hb dJ1_canEncode_9a6ad_4 rfl (lv_at hl 0 rfl) ?_
    refine lv_sipush (v := 255) hx hb dJ1_canEncode_9a6ad_5 (by decide +kernel) ?_
    refine lv_icmp_gt (tgt := 15) hx hb dJ1_canEncode_9a6ad_8 (by decide) (fun c2 => ?_) (fun c2 => ?_)
    · replace hf := if_t c2 hf
      refine lv_iconst (v := 0) hx hb dJ1_canEncode_9a6ad_15 (by decide) ?_
      exact hfin _ _ _ _ _ _ hw (Option.some.inj hf) rfl rfl dJ1_canEncode_9a6ad_16
    · replace hf := if_f c2 hf
      refine lv_iconst (v := 1) hx hb dJ1_canEncode_9a6ad_11 (by decide) ?_
      refine lv_goto (tgt := 16) hx hb dJ1_canEncode_9a6ad_12 (by decide) ?_
      exact hfin _ _ _ _ _ _ hw (Option.some.inj hf) rfl rfl dJ1_canEncode_9a6ad_16
/-- java/lang/StringLatin1.indexOfChar([BIII)I -/
theorem dJ1_indexOfChar_4cfef_0 : decode cJ1_indexOfChar_4cfef 0 = .ok (.iload_n 1, 1) := by decide +kernel
theorem dJ1_indexOfChar_4cfef_1 : decode cJ1_indexOfChar_4cfef 1 = .ok (.i2b, 1) := by decide +kernel
theorem dJ1_indexOfChar_4cfef_2 : decode cJ1_indexOfChar_4cfef 2 = .ok (.istore 4, 2) := by decide +kernel
theorem dJ1_indexOfChar_4cfef_4 : decode cJ1_indexOfChar_4cfef 4 = .ok (.iload_n 2, 1) := by decide +kernel
theorem dJ1_indexOfChar_4cfef_5 : decode cJ1_indexOfChar_4cfef 5 = .ok (.istore 5, 2) := by decide +kernel
theorem dJ1_indexOfChar_4cfef_7 : decode cJ1_indexOfChar_4cfef 7 = .ok (.iload 5, 2) := by decide +kernel
theorem dJ1_indexOfChar_4cfef_9 : decode cJ1_indexOfChar_4cfef 9 = .ok (.iload_n 3, 1) := by decide +kernel
theorem dJ1_indexOfChar_4cfef_10 : decode cJ1_indexOfChar_4cfef 10 = .ok (.if_icmp .ge 21, 3) := by decide +kernel
theorem dJ1_indexOfChar_4cfef_13 : decode cJ1_indexOfChar_4cfef 13 = .ok (.aload_n 0, 1) := by decide +kernel
theorem dJ1_indexOfChar_4cfef_14 : decode cJ1_indexOfChar_4cfef 14 = .ok (.iload 5, 2) := by decide +kernel
theorem dJ1_indexOfChar_4cfef_16 : decode cJ1_indexOfChar_4cfef 16 = .ok (.baload, 1) := by decide +kernel
theorem dJ1_indexOfChar_4cfef_17 : decode cJ1_indexOfChar_4cfef 17 = .ok (.iload 4, 2) := by decide +kernel
theorem dJ1_indexOfChar_4cfef_19 : decode cJ1_indexOfChar_4cfef 19 = .ok (.if_icmp .ne 6, 3) := by decide +kernel
theorem dJ1_indexOfChar_4cfef_22 : decode cJ1_indexOfChar_4cfef 22 = .ok (.iload 5, 2) := by decide +kernel
theorem dJ1_indexOfChar_4cfef_24 : decode cJ1_indexOfChar_4cfef 24 = .ok (.ireturn, 1) := by decide +kernel
theorem dJ1_indexOfChar_4cfef_25 : decode cJ1_indexOfChar_4cfef 25 = .ok (.iinc 5 1, 3) := by decide +kernel
theorem dJ1_indexOfChar_4cfef_28 : decode cJ1_indexOfChar_4cfef 28 = .ok (.goto (-21), 3) := by decide +kernel
theorem dJ1_indexOfChar_4cfef_31 : decode cJ1_indexOfChar_4cfef 31 = .ok (.iconst (-1), 1) := by decide +kernel
theorem dJ1_indexOfChar_4cfef_32 : decode cJ1_indexOfChar_4cfef 32 = .ok (.ireturn, 1) := by decide +kernel
theorem hd_J1_indexOfChar_4cfef : yJ1_indexOfChar_4cfef.cls ≠ "java/lang/invoke/MethodHandle" ∧ yJ1_indexOfChar_4cfef.cls ≠ "java/lang/invoke/VarHandle" ∧ (parseMethodDescriptor yJ1_indexOfChar_4cfef.desc).map (fun d => d.parameters.length) = some 4 := by decide +kernel
def f_J1_indexOfChar_4cfef_s0_L7 (S : vS) : Nat → Int32 → Int32 → Int32 →  Option (Unit ⊕ Int32)
  | 0, _, _, _ => none
  | n + 1, x3, x4, x5 => if x3 ≤ x5 then some (.inl (())) else if inb x5 6 = true then if (strJ 0 x5.toNatClampNeg) = x4 then some (.inr x5) else (f_J1_indexOfChar_4cfef_s0_L7 S n) x3 x4 (x5 + 1) else none
def f_J1_indexOfChar_4cfef_s0 (a1 : Int32) (a2 : Int32) (a3 : Int32) (S : vS) : Option Int32 := bS (f_J1_indexOfChar_4cfef_s0_L7 S FU a3 a1.toInt8.toInt32 a2) some fun _ => some (-1 : Int32)
set_option maxHeartbeats 4000000 in
set_option maxRecDepth 20000 in
theorem c_J1_indexOfChar_4cfef_s0 (l : Launch) (D : va_G) (cI cO : ClassId) (ad : Nat → Nat) (a1 : Int32) (a2 : Int32) (a3 : Int32) (S : vS) (R9 : Int32) (hf : f_J1_indexOfChar_4cfef_s0 a1 a2 a3 S = some R9) : CI l yJ1_indexOfChar_4cfef cJ1_indexOfChar_4cfef 6 .int ({ frames := 0, cells := 0, slots := 0, locals := 0 }) [.ref (ad 112), .int a1, .int a2, .int a3] D cI cO ad S R9 S := by
  refine CI.of (by decide +kernel) (Nat.le_of_ble_eq_true rfl) (fun p e s m args below meth c Q ls X hl hw hfin => ?_)
  have hl : lv_has ls 6 [(0, .ref (ad 112)), (1, .int a1), (2, .int a2), (3, .int a3)] := hl
  have hx := X.1
  have hb := X.2.1
  have L7 : ∀ (n : Nat) (x3 : Int32) (x4 : Int32) (x5 : Int32) (res : (Unit ⊕ Int32)), f_J1_indexOfChar_4cfef_s0_L7 S n x3 x4 x5 = some res → (K : some (Sum.inl (())) = some res → ∀ (H : Heap) (locs : List Loc) (ls : Array Slot), WD D cI cO ad s S H locs → lv_has ls 6 [] → W p l e ({ frames := 0, cells := 0, slots := 0, locals := 0 }) s m args below meth c H locs 0 0 Q (F0 m 31 ls [])) → (K2 : ∀ q : Int32, some (Sum.inr q) = some res → some q = some R9) → ∀ (H : Heap) (locs : List Loc) (ls : Array Slot), WD D cI cO ad s S H locs → lv_has ls 6 [(0, .ref (ad 112)), (3, .int x3), (4, .int x4), (5, .int x5)] → W p l e ({ frames := 0, cells := 0, slots := 0, locals := 0 }) s m args below meth c H locs 0 0 Q (F0 m 7 ls []) := by
    intro n
    induction n with
    | zero => intro x3 x4 x5 res hf; cases hf
    | succ n ih =>
      intro x3 x4 x5 res hf K K2 H locs ls hw hl
      unfold f_J1_indexOfChar_4cfef_s0_L7 at hf
      refine lv_iload hx hb dJ1_indexOfChar_4cfef_7 (lv_at hl 3 rfl) ?_
      refine lv_iload_n hx hb dJ1_indexOfChar_4cfef_9 rfl (lv_at hl 1 rfl) ?_
      refine lv_icmp_ge (tgt := 31) hx hb dJ1_indexOfChar_4cfef_10 (by decide) (fun c1 => ?_) (fun c1 => ?_)
      · replace hf := if_t c1 hf
        exact K  hf _ _ _ hw (lv_sub hl [] rfl)
      · replace hf := if_f c1 hf
        refine lv_aload_n hx hb dJ1_indexOfChar_4cfef_13 rfl (lv_at hl 0 rfl) ?_
        refine lv_iload hx hb dJ1_indexOfChar_4cfef_14 (lv_at hl 3 rfl) ?_
        obtain ⟨h2, hf⟩ := if_s hf
        refine x_sald X hw 0 (by decide) rfl h2 dJ1_indexOfChar_4cfef_16 ?_
        refine lv_iload hx hb dJ1_indexOfChar_4cfef_17 (lv_at hl 2 rfl) ?_
        refine lv_icmp_ne (tgt := 25) hx hb dJ1_indexOfChar_4cfef_19 (by decide) (fun c3 => ?_) (fun c3 => ?_)
        · replace hf := if_f c3 hf
          refine lv_iinc (v := (x5 + 1)) (lv' := [(5, .int (x5 + 1)), (0, .ref (ad 112)), (3, .int x3), (4, .int x4)]) hx hb dJ1_indexOfChar_4cfef_25 hl (k := 3) rfl rfl (by decide) rfl (fun ls hl => ?_)
          refine lv_goto (tgt := 7) hx hb dJ1_indexOfChar_4cfef_28 (by decide) ?_
          exact ih x3 x4 (x5 + 1) _ hf K K2 _ _ _ hw (lv_sub hl [1, 2, 3, 0] rfl)
        · replace hf := if_t c3 hf
          refine lv_iload hx hb dJ1_indexOfChar_4cfef_22 (lv_at hl 3 rfl) ?_
          replace hf := K2 _ hf
          exact hfin _ _ _ _ _ _ hw (Option.some.inj hf) rfl (narI _) dJ1_indexOfChar_4cfef_24
  unfold f_J1_indexOfChar_4cfef_s0 at hf
  refine lv_iload_n hx hb dJ1_indexOfChar_4cfef_0 rfl (lv_at hl 1 rfl) ?_
  refine lv_i2b (v := a1.toInt8.toInt32) hx hb dJ1_indexOfChar_4cfef_1 rfl ?_
  refine lv_istore (lv' := [(4, .int a1.toInt8.toInt32), (0, .ref (ad 112)), (1, .int a1), (2, .int a2), (3, .int a3)]) hx hb dJ1_indexOfChar_4cfef_2 hl (by decide) rfl (fun ls hl => ?_)
  refine lv_iload_n hx hb dJ1_indexOfChar_4cfef_4 rfl (lv_at hl 3 rfl) ?_
  refine lv_istore (lv' := [(5, .int a2), (4, .int a1.toInt8.toInt32), (0, .ref (ad 112)), (1, .int a1), (2, .int a2), (3, .int a3)]) hx hb dJ1_indexOfChar_4cfef_5 hl (by decide) rfl (fun ls hl => ?_)
  obtain ⟨res, h4, hk1, hk2⟩ := bS_x hf
  refine L7 FU a3 a1.toInt8.toInt32 a2 res h4 (fun eK H locs ls hw hl => ?_) (fun q eK => hk2 q (Option.some.inj eK).symm) _ _ _ hw (lv_sub hl [2, 5, 1, 0] rfl)
  replace hf := hk1 _ (Option.some.inj eK).symm
  refine lv_iconst (v := -1) hx hb dJ1_indexOfChar_4cfef_31 (by decide) ?_
  exact hfin _ _ _ _ _ _ hw (Option.some.inj hf) rfl (narI _) dJ1_indexOfChar_4cfef_32
/-- java/lang/StringLatin1.indexOfChar([BIII)I -/
def f_J1_indexOfChar_4cfef_s1_L7 (S : vS) : Nat → Int32 → Int32 → Int32 →  Option (Unit ⊕ Int32)
  | 0, _, _, _ => none
  | n + 1, x3, x4, x5 => if x3 ≤ x5 then some (.inl (())) else if inb x5 4 = true then if (strJ 1 x5.toNatClampNeg) = x4 then some (.inr x5) else (f_J1_indexOfChar_4cfef_s1_L7 S n) x3 x4 (x5 + 1) else none
def f_J1_indexOfChar_4cfef_s1 (a1 : Int32) (a2 : Int32) (a3 : Int32) (S : vS) : Option Int32 := bS (f_J1_indexOfChar_4cfef_s1_L7 S FU a3 a1.toInt8.toInt32 a2) some fun _ => some (-1 : Int32)
set_option maxHeartbeats 4000000 in
set_option maxRecDepth 20000 in
theorem c_J1_indexOfChar_4cfef_s1 (l : Launch) (D : va_G) (cI cO : ClassId) (ad : Nat → Nat) (a1 : Int32) (a2 : Int32) (a3 : Int32) (S : vS) (R9 : Int32) (hf : f_J1_indexOfChar_4cfef_s1 a1 a2 a3 S = some R9) : CI l yJ1_indexOfChar_4cfef cJ1_indexOfChar_4cfef 6 .int ({ frames := 0, cells := 0, slots := 0, locals := 0 }) [.ref (ad 113), .int a1, .int a2, .int a3] D cI cO ad S R9 S := by
  refine CI.of (by decide +kernel) (Nat.le_of_ble_eq_true rfl) (fun p e s m args below meth c Q ls X hl hw hfin => ?_)
  have hl : lv_has ls 6 [(0, .ref (ad 113)), (1, .int a1), (2, .int a2), (3, .int a3)] := hl
  have hx := X.1
  have hb := X.2.1
  have L7 : ∀ (n : Nat) (x3 : Int32) (x4 : Int32) (x5 : Int32) (res : (Unit ⊕ Int32)), f_J1_indexOfChar_4cfef_s1_L7 S n x3 x4 x5 = some res → (K : some (Sum.inl (())) = some res → ∀ (H : Heap) (locs : List Loc) (ls : Array Slot), WD D cI cO ad s S H locs → lv_has ls 6 [] → W p l e ({ frames := 0, cells := 0, slots := 0, locals := 0 }) s m args below meth c H locs 0 0 Q (F0 m 31 ls [])) → (K2 : ∀ q : Int32, some (Sum.inr q) = some res → some q = some R9) → ∀ (H : Heap) (locs : List Loc) (ls : Array Slot), WD D cI cO ad s S H locs → lv_has ls 6 [(0, .ref (ad 113)), (3, .int x3), (4, .int x4), (5, .int x5)] → W p l e ({ frames := 0, cells := 0, slots := 0, locals := 0 }) s m args below meth c H locs 0 0 Q (F0 m 7 ls []) := by
    intro n
    induction n with
    | zero => intro x3 x4 x5 res hf; cases hf
    | succ n ih =>
      intro x3 x4 x5 res hf K K2 H locs ls hw hl
      unfold f_J1_indexOfChar_4cfef_s1_L7 at hf
      refine lv_iload hx hb dJ1_indexOfChar_4cfef_7 (lv_at hl 3 rfl) ?_
      refine lv_iload_n hx hb dJ1_indexOfChar_4cfef_9 rfl (lv_at hl 1 rfl) ?_
      refine lv_icmp_ge (tgt := 31) hx hb dJ1_indexOfChar_4cfef_10 (by decide) (fun c1 => ?_) (fun c1 => ?_)
      · replace hf := if_t c1 hf
        exact K  hf _ _ _ hw (lv_sub hl [] rfl)
      · replace hf := if_f c1 hf
        refine lv_aload_n hx hb dJ1_indexOfChar_4cfef_13 rfl (lv_at hl 0 rfl) ?_
        refine lv_iload hx hb dJ1_indexOfChar_4cfef_14 (lv_at hl 3 rfl) ?_
        obtain ⟨h2, hf⟩ := if_s hf
        refine x_sald X hw 1 (by decide) rfl h2 dJ1_indexOfChar_4cfef_16 ?_
        refine lv_iload hx hb dJ1_indexOfChar_4cfef_17 (lv_at hl 2 rfl) ?_
        refine lv_icmp_ne (tgt := 25) hx hb dJ1_indexOfChar_4cfef_19 (by decide) (fun c3 => ?_) (fun c3 => ?_)
        · replace hf := if_f c3 hf
          refine lv_iinc (v := (x5 + 1)) (lv' := [(5, .int (x5 + 1)), (0, .ref (ad 113)), (3, .int x3), (4, .int x4)]) hx hb dJ1_indexOfChar_4cfef_25 hl (k := 3) rfl rfl (by decide) rfl (fun ls hl => ?_)
          refine lv_goto (tgt := 7) hx hb dJ1_indexOfChar_4cfef_28 (by decide) ?_
          exact ih x3 x4 (x5 + 1) _ hf K K2 _ _ _ hw (lv_sub hl [1, 2, 3, 0] rfl)
        · replace hf := if_t c3 hf
          refine lv_iload hx hb dJ1_indexOfChar_4cfef_22 (lv_at hl 3 rfl) ?_
          replace hf := K2 _ hf
          exact hfin _ _ _ _ _ _ hw (Option.some.inj hf) rfl (narI _) dJ1_indexOfChar_4cfef_24
  unfold f_J1_indexOfChar_4cfef_s1 at hf
  refine lv_iload_n hx hb dJ1_indexOfChar_4cfef_0 rfl (lv_at hl 1 rfl) ?_
  refine lv_i2b (v := a1.toInt8.toInt32) hx hb dJ1_indexOfChar_4cfef_1 rfl ?_
  refine lv_istore (lv' := [(4, .int a1.toInt8.toInt32), (0, .ref (ad 113)), (1, .int a1), (2, .int a2), (3, .int a3)]) hx hb dJ1_indexOfChar_4cfef_2 hl (by decide) rfl (fun ls hl => ?_)
  refine lv_iload_n hx hb dJ1_indexOfChar_4cfef_4 rfl (lv_at hl 3 rfl) ?_
  refine lv_istore (lv' := [(5, .int a2), (4, .int a1.toInt8.toInt32), (0, .ref (ad 113)), (1, .int a1), (2, .int a2), (3, .int a3)]) hx hb dJ1_indexOfChar_4cfef_5 hl (by decide) rfl (fun ls hl => ?_)
  obtain ⟨res, h4, hk1, hk2⟩ := bS_x hf
  refine L7 FU a3 a1.toInt8.toInt32 a2 res h4 (fun eK H locs ls hw hl => ?_) (fun q eK => hk2 q (Option.some.inj eK).symm) _ _ _ hw (lv_sub hl [2, 5, 1, 0] rfl)
  replace hf := hk1 _ (Option.some.inj eK).symm
  refine lv_iconst (v := -1) hx hb dJ1_indexOfChar_4cfef_31 (by decide) ?_
  exact hfin _ _ _ _ _ _ hw (Option.some.inj hf) rfl (narI _) dJ1_indexOfChar_4cfef_32
/-- java/lang/StringLatin1.indexOf([BIII)I -/
theorem dJ1_indexOf_4cfef_0 : decode cJ1_indexOf_4cfef 0 = .ok (.iload_n 1, 1) := by decide +kernel
theorem dJ1_indexOf_4cfef_1 : decode cJ1_indexOf_4cfef 1 = .ok (.invokestatic 88, 3) := by decide +kernel
theorem dJ1_indexOf_4cfef_4 : decode cJ1_indexOf_4cfef 4 = .ok (.ifCond .ne 5, 3) := by decide +kernel
theorem dJ1_indexOf_4cfef_7 : decode cJ1_indexOf_4cfef 7 = .ok (.iconst (-1), 1) := by decide +kernel
theorem dJ1_indexOf_4cfef_8 : decode cJ1_indexOf_4cfef 8 = .ok (.ireturn, 1) := by decide +kernel
theorem dJ1_indexOf_4cfef_9 : decode cJ1_indexOf_4cfef 9 = .ok (.iload_n 2, 1) := by decide +kernel
theorem dJ1_indexOf_4cfef_10 : decode cJ1_indexOf_4cfef 10 = .ok (.iconst 0, 1) := by decide +kernel
theorem dJ1_indexOf_4cfef_11 : decode cJ1_indexOf_4cfef 11 = .ok (.invokestatic 92, 3) := by decide +kernel
theorem dJ1_indexOf_4cfef_14 : decode cJ1_indexOf_4cfef 14 = .ok (.istore_n 2, 1) := by decide +kernel
theorem dJ1_indexOf_4cfef_15 : decode cJ1_indexOf_4cfef 15 = .ok (.iload_n 3, 1) := by decide +kernel
theorem dJ1_indexOf_4cfef_16 : decode cJ1_indexOf_4cfef 16 = .ok (.aload_n 0, 1) := by decide +kernel
theorem dJ1_indexOf_4cfef_17 : decode cJ1_indexOf_4cfef 17 = .ok (.arraylength, 1) := by decide +kernel
theorem dJ1_indexOf_4cfef_18 : decode cJ1_indexOf_4cfef 18 = .ok (.invokestatic 38, 3) := by decide +kernel
theorem dJ1_indexOf_4cfef_21 : decode cJ1_indexOf_4cfef 21 = .ok (.istore_n 3, 1) := by decide +kernel
theorem dJ1_indexOf_4cfef_22 : decode cJ1_indexOf_4cfef 22 = .ok (.iload_n 2, 1) := by decide +kernel
theorem dJ1_indexOf_4cfef_23 : decode cJ1_indexOf_4cfef 23 = .ok (.iload_n 3, 1) := by decide +kernel
theorem dJ1_indexOf_4cfef_24 : decode cJ1_indexOf_4cfef 24 = .ok (.if_icmp .lt 5, 3) := by decide +kernel
theorem dJ1_indexOf_4cfef_27 : decode cJ1_indexOf_4cfef 27 = .ok (.iconst (-1), 1) := by decide +kernel
theorem dJ1_indexOf_4cfef_28 : decode cJ1_indexOf_4cfef 28 = .ok (.ireturn, 1) := by decide +kernel
theorem dJ1_indexOf_4cfef_29 : decode cJ1_indexOf_4cfef 29 = .ok (.aload_n 0, 1) := by decide +kernel
theorem dJ1_indexOf_4cfef_30 : decode cJ1_indexOf_4cfef 30 = .ok (.iload_n 1, 1) := by decide +kernel
theorem dJ1_indexOf_4cfef_31 : decode cJ1_indexOf_4cfef 31 = .ok (.iload_n 2, 1) := by decide +kernel
theorem dJ1_indexOf_4cfef_32 : decode cJ1_indexOf_4cfef 32 = .ok (.iload_n 3, 1) := by decide +kernel
theorem dJ1_indexOf_4cfef_33 : decode cJ1_indexOf_4cfef 33 = .ok (.invokestatic 95, 3) := by decide +kernel
theorem dJ1_indexOf_4cfef_36 : decode cJ1_indexOf_4cfef 36 = .ok (.ireturn, 1) := by decide +kernel
theorem hd_J1_indexOf_4cfef : yJ1_indexOf_4cfef.cls ≠ "java/lang/invoke/MethodHandle" ∧ yJ1_indexOf_4cfef.cls ≠ "java/lang/invoke/VarHandle" ∧ (parseMethodDescriptor yJ1_indexOf_4cfef.desc).map (fun d => d.parameters.length) = some 4 := by decide +kernel
def f_J1_indexOf_4cfef_s0 (a1 : Int32) (a2 : Int32) (a3 : Int32) (S : vS) : Option Int32 := b1 (f_J1_canEncode_9a6ad a1 S) fun r2 => if r2 = 0 then some (-1 : Int32) else if (mx a2 (0 : Int32)) < (mn a3 (6 : Int32)) then b1 (f_J1_indexOfChar_4cfef_s0 a1 (mx a2 (0 : Int32)) (mn a3 (6 : Int32)) S) fun r6 => some r6 else some (-1 : Int32)
set_option maxHeartbeats 4000000 in
set_option maxRecDepth 20000 in
theorem c_J1_indexOf_4cfef_s0 (l : Launch) (D : va_G) (cI cO : ClassId) (ad : Nat → Nat) (a1 : Int32) (a2 : Int32) (a3 : Int32) (S : vS) (R9 : Int32) (hf : f_J1_indexOf_4cfef_s0 a1 a2 a3 S = some R9) : CI l yJ1_indexOf_4cfef cJ1_indexOf_4cfef 4 .int ({ frames := 1, cells := 0, slots := 0, locals := 25 }) [.ref (ad 112), .int a1, .int a2, .int a3] D cI cO ad S R9 S := by
  refine CI.of (by decide +kernel) (Nat.le_of_ble_eq_true rfl) (fun p e s m args below meth c Q ls X hl hw hfin => ?_)
  have hl : lv_has ls 4 [(0, .ref (ad 112)), (1, .int a1), (2, .int a2), (3, .int a3)] := hl
  have hx := X.1
  have hb := X.2.1
  unfold f_J1_indexOf_4cfef_s0 at hf
  refine lv_iload_n hx hb dJ1_indexOf_4cfef_0 rfl (lv_at hl 1 rfl) ?_
  obtain ⟨r2, h1, hf⟩ := b1_s hf
  refine kSi X hw (c_J1_canEncode_9a6ad l D cI cO ad a1 S r2 h1) ⟨rfl, rfl⟩ q254 q255 q66 q256 hd_J1_canEncode_9a6ad ⟨Nat.le_of_ble_eq_true rfl, Nat.le_of_ble_eq_true rfl⟩ rfl hl.1 rfl (Nat.le_of_ble_eq_true rfl) dJ1_indexOf_4cfef_1 (fun H locs hw => ?_)
  refine lv_if_ne (tgt := 9) hx hb dJ1_indexOf_4cfef_4 (by decide) (fun c3 => ?_) (fun c3 => ?_)
  · replace hf := if_f c3 hf
    refine lv_iload_n hx hb dJ1_indexOf_4cfef_9 rfl (lv_at hl 2 rfl) ?_
    refine lv_iconst (v := 0) hx hb dJ1_indexOf_4cfef_10 (by decide) ?_
    refine x_max X hl.1 q257 q258 q67 q259 (Nat.le_of_ble_eq_true rfl) (Nat.le_of_ble_eq_true rfl) dJ1_indexOf_4cfef_11 ?_
    refine lv_istore_n (lv' := [(2, .int (mx a2 (0 : Int32))), (0, .ref (ad 112)), (1, .int a1), (3, .int a3)]) hx hb dJ1_indexOf_4cfef_14 rfl hl (by decide) rfl (fun ls hl => ?_)
    refine lv_iload_n hx hb dJ1_indexOf_4cfef_15 rfl (lv_at hl 3 rfl) ?_
    refine lv_aload_n hx hb dJ1_indexOf_4cfef_16 rfl (lv_at hl 1 rfl) ?_
    refine x_slen X hw 0 (by decide) (v := 6) (by decide) dJ1_indexOf_4cfef_17 ?_
    refine x_min X hl.1 q260 q261 q67 q262 (Nat.le_of_ble_eq_true rfl) (Nat.le_of_ble_eq_true rfl) dJ1_indexOf_4cfef_18 ?_
    refine lv_istore_n (lv' := [(3, .int (mn a3 (6 : Int32))), (2, .int (mx a2 (0 : Int32))), (0, .ref (ad 112)), (1, .int a1)]) hx hb dJ1_indexOf_4cfef_21 rfl hl (by decide) rfl (fun ls hl => ?_)
    refine lv_iload_n hx hb dJ1_indexOf_4cfef_22 rfl (lv_at hl 1 rfl) ?_
    refine lv_iload_n hx hb dJ1_indexOf_4cfef_23 rfl (lv_at hl 0 rfl) ?_
    refine lv_icmp_lt (tgt := 29) hx hb dJ1_indexOf_4cfef_24 (by decide) (fun c4 => ?_) (fun c4 => ?_)
    · replace hf := if_t c4 hf
      refine lv_aload_n hx hb dJ1_indexOf_4cfef_29 rfl (lv_at hl 2 rfl) ?_
      refine lv_iload_n hx hb dJ1_indexOf_4cfef_30 rfl (lv_at hl 3 rfl) ?_
      refine lv_iload_n hx hb dJ1_indexOf_4cfef_31 rfl (lv_at hl 1 rfl) ?_
      refine lv_iload_n hx hb dJ1_indexOf_4cfef_32 rfl (lv_at hl 0 rfl) ?_
      obtain ⟨r6, h5, hf⟩ := b1_s hf
      refine kSi X hw (c_J1_indexOfChar_4cfef_s0 l D cI cO ad a1 (mx a2 (0 : Int32)) (mn a3 (6 : Int32)) S r6 h5) ⟨rfl, rfl⟩ q263 q264 q66 q265 hd_J1_indexOfChar_4cfef ⟨Nat.le_of_ble_eq_true rfl, Nat.le_of_ble_eq_true rfl⟩ rfl hl.1 rfl (Nat.le_of_ble_eq_true rfl) dJ1_indexOf_4cfef_33 (fun H locs hw => ?_)
      exact hfin _ _ _ _ _ _ hw (Option.some.inj hf) rfl (narI _) dJ1_indexOf_4cfef_36
    · replace hf := if_f c4 hf
      refine lv_iconst (v := -1) hx hb dJ1_indexOf_4cfef_27 (by decide) ?_
      exact hfin _ _ _ _ _ _ hw (Option.some.inj hf) rfl (narI _) dJ1_indexOf_4cfef_28
  · replace hf := if_t c3 hf
    refine lv_iconst (v := -1) hx hb dJ1_indexOf_4cfef_7 (by decide) ?_
    exact hfin _ _ _ _ _ _ hw (Option.some.inj hf) rfl (narI _) dJ1_indexOf_4cfef_8
/-- java/lang/StringLatin1.indexOf([BIII)I -/
def f_J1_indexOf_4cfef_s1 (a1 : Int32) (a2 : Int32) (a3 : Int32) (S : vS) : Option Int32 := b1 (f_J1_canEncode_9a6ad a1 S) fun r2 => if r2 = 0 then some (-1 : Int32) else if (mx a2 (0 : Int32)) < (mn a3 (4 : Int32)) then b1 (f_J1_indexOfChar_4cfef_s1 a1 (mx a2 (0 : Int32)) (mn a3 (4 : Int32)) S) fun r6 => some r6 else some (-1 : Int32)
set_option maxHeartbeats 4000000 in
set_option maxRecDepth 20000 in
theorem c_J1_indexOf_4cfef_s1 (l : Launch) (D : va_G) (cI cO : ClassId) (ad : Nat → Nat) (a1 : Int32) (a2 : Int32) (a3 : Int32) (S : vS) (R9 : Int32) (hf : f_J1_indexOf_4cfef_s1 a1 a2 a3 S = some R9) : CI l yJ1_indexOf_4cfef cJ1_indexOf_4cfef 4 .int ({ frames := 1, cells := 0, slots := 0, locals := 25 }) [.ref (ad 113), .int a1, .int a2, .int a3] D cI cO ad S R9 S := by
  refine CI.of (by decide +kernel) (Nat.le_of_ble_eq_true rfl) (fun p e s m args below meth c Q ls X hl hw hfin => ?_)
  have hl : lv_has ls 4 [(0, .ref (ad 113)), (1, .int a1), (2, .int a2), (3, .int a3)] := hl
  have hx := X.1
  have hb := X.2.1
  unfold f_J1_indexOf_4cfef_s1 at hf
  refine lv_iload_n hx hb dJ1_indexOf_4cfef_0 rfl (lv_at hl 1 rfl) ?_
  obtain ⟨r2, h1, hf⟩ := b1_s hf
  refine kSi X hw (c_J1_canEncode_9a6ad l D cI cO ad a1 S r2 h1) ⟨rfl, rfl⟩ q254 q255 q66 q256 hd_J1_canEncode_9a6ad ⟨Nat.le_of_ble_eq_true rfl, Nat.le_of_ble_eq_true rfl⟩ rfl hl.1 rfl (Nat.le_of_ble_eq_true rfl) dJ1_indexOf_4cfef_1 (fun H locs hw => ?_)
  refine lv_if_ne (tgt := 9) hx hb dJ1_indexOf_4cfef_4 (by decide) (fun c3 => ?_) (fun c3 => ?_)
  · replace hf := if_f c3 hf
    refine lv_iload_n hx hb dJ1_indexOf_4cfef_9 rfl (lv_at hl 2 rfl) ?_
    refine lv_iconst (v := 0) hx hb dJ1_indexOf_4cfef_10 (by decide) ?_
    refine x_max X hl.1 q257 q258 q67 q259 (Nat.le_of_ble_eq_true rfl) (Nat.le_of_ble_eq_true rfl) dJ1_indexOf_4cfef_11 ?_
    refine lv_istore_n (lv' := [(2, .int (mx a2 (0 : Int32))), (0, .ref (ad 113)), (1, .int a1), (3, .int a3)]) hx hb dJ1_indexOf_4cfef_14 rfl hl (by decide) rfl (fun ls hl => ?_)
    refine lv_iload_n hx hb dJ1_indexOf_4cfef_15 rfl (lv_at hl 3 rfl) ?_
    refine lv_aload_n hx hb dJ1_indexOf_4cfef_16 rfl (lv_at hl 1 rfl) ?_
    refine x_slen X hw 1 (by decide) (v := 4) (by decide) dJ1_indexOf_4cfef_17 ?_
    refine x_min X hl.1 q260 q261 q67 q262 (Nat.le_of_ble_eq_true rfl) (Nat.le_of_ble_eq_true rfl) dJ1_indexOf_4cfef_18 ?_
    refine lv_istore_n (lv' := [(3, .int (mn a3 (4 : Int32))), (2, .int (mx a2 (0 : Int32))), (0, .ref (ad 113)), (1, .int a1)]) hx hb dJ1_indexOf_4cfef_21 rfl hl (by decide) rfl (fun ls hl => ?_)
    refine lv_iload_n hx hb dJ1_indexOf_4cfef_22 rfl (lv_at hl 1 rfl) ?_
    refine lv_iload_n hx hb dJ1_indexOf_4cfef_23 rfl (lv_at hl 0 rfl) ?_
    refine lv_icmp_lt (tgt := 29) hx hb dJ1_indexOf_4cfef_24 (by decide) (fun c4 => ?_) (fun c4 => ?_)
    · replace hf := if_t c4 hf
      refine lv_aload_n hx hb dJ1_indexOf_4cfef_29 rfl (lv_at hl 2 rfl) ?_
      refine lv_iload_n hx hb dJ1_indexOf_4cfef_30 rfl (lv_at hl 3 rfl) ?_
      refine lv_iload_n hx hb dJ1_indexOf_4cfef_31 rfl (lv_at hl 1 rfl) ?_
      refine lv_iload_n hx hb dJ1_indexOf_4cfef_32 rfl (lv_at hl 0 rfl) ?_
      obtain ⟨r6, h5, hf⟩ := b1_s hf
      refine kSi X hw (c_J1_indexOfChar_4cfef_s1 l D cI cO ad a1 (mx a2 (0 : Int32)) (mn a3 (4 : Int32)) S r6 h5) ⟨rfl, rfl⟩ q263 q264 q66 q265 hd_J1_indexOfChar_4cfef ⟨Nat.le_of_ble_eq_true rfl, Nat.le_of_ble_eq_true rfl⟩ rfl hl.1 rfl (Nat.le_of_ble_eq_true rfl) dJ1_indexOf_4cfef_33 (fun H locs hw => ?_)
      exact hfin _ _ _ _ _ _ hw (Option.some.inj hf) rfl (narI _) dJ1_indexOf_4cfef_36
    · replace hf := if_f c4 hf
      refine lv_iconst (v := -1) hx hb dJ1_indexOf_4cfef_27 (by decide) ?_
      exact hfin _ _ _ _ _ _ hw (Option.some.inj hf) rfl (narI _) dJ1_indexOf_4cfef_28
  · replace hf := if_t c3 hf
    refine lv_iconst (v := -1) hx hb dJ1_indexOf_4cfef_7 (by decide) ?_
    exact hfin _ _ _ _ _ _ hw (Option.some.inj hf) rfl (narI _) dJ1_indexOf_4cfef_8
/-- java/lang/String.coder()B -/
theorem dJ0_coder_7d493_0 : decode cJ0_coder_7d493 0 = .ok (.getstatic 38, 3) := by decide +kernel
theorem dJ0_coder_7d493_3 : decode cJ0_coder_7d493 3 = .ok (.ifCond .eq 10, 3) := by decide +kernel
theorem dJ0_coder_7d493_6 : decode cJ0_coder_7d493 6 = .ok (.aload_n 0, 1) := by decide +kernel
theorem dJ0_coder_7d493_7 : decode cJ0_coder_7d493 7 = .ok (.getfield 15, 3) := by decide +kernel
theorem dJ0_coder_7d493_10 : decode cJ0_coder_7d493 10 = .ok (.goto 4, 3) := by decide +kernel
theorem dJ0_coder_7d493_13 : decode cJ0_coder_7d493 13 = .ok (.iconst 1, 1) := by decide +kernel
theorem dJ0_coder_7d493_14 : decode cJ0_coder_7d493 14 = .ok (.ireturn, 1) := by decide +kernel
theorem hd_J0_coder_7d493 : yJ0_coder_7d493.cls ≠ "java/lang/invoke/MethodHandle" ∧ yJ0_coder_7d493.cls ≠ "java/lang/invoke/VarHandle" ∧ (parseMethodDescriptor yJ0_coder_7d493.desc).map (fun d => d.parameters.length) = some 0 := by decide +kernel
def f_J0_coder_7d493_s0  (S : vS) : Option Int32 := if (1 : Int32) = 0 then some (1 : Int32) else some (0 : Int32)
set_option maxHeartbeats 4000000 in
set_option maxRecDepth 20000 in
theorem c_J0_coder_7d493_s0 (l : Launch) (D : va_G) (cI cO : ClassId) (ad : Nat → Nat)  (S : vS) (R9 : Int32) (hf : f_J0_coder_7d493_s0  S = some R9) : CI l yJ0_coder_7d493 cJ0_coder_7d493 1 .byte ({ frames := 0, cells := 0, slots := 0, locals := 0 }) [.ref (ad 110)] D cI cO ad S R9 S := by
  refine CI.of (by decide +kernel) (Nat.le_of_ble_eq_true rfl) (fun p e s m args below meth c Q ls X hl hw hfin => ?_)
  have hl : lv_has ls 1 [(0, .ref (ad 110))] := hl
  have hx := X.1
  have hb := X.2.1
  unfold f_J0_coder_7d493_s0 at hf
  refine x_gets X hw hw.2.2.2.2.2.1 q241 dJ0_coder_7d493_0 ?_
  refine lv_if_eq (tgt := 13) hx hb dJ0_coder_7d493_3 (by decide) (fun c1 => ?_) (fun c1 => ?_)
  · replace hf := if_t c1 hf
    refine lv_iconst (v := 1) hx hb dJ0_coder_7d493_13 (by decide) ?_
    exact hfin _ _ _ _ _ _ hw (Option.some.inj hf) rfl rfl dJ0_coder_7d493_14
  · replace hf := if_f c1 hf
    refine lv_aload_n hx hb dJ0_coder_7d493_6 rfl (lv_at hl 0 rfl) ?_
    refine x_sget X hw (hw.2.2.2.2.2.2.2.2.2.2.1.1 0 (by decide)).2.1 q904 dJ0_coder_7d493_7 ?_
    refine lv_goto (tgt := 14) hx hb dJ0_coder_7d493_10 (by decide) ?_
    exact hfin _ _ _ _ _ _ hw (Option.some.inj hf) rfl rfl dJ0_coder_7d493_14
/-- java/lang/String.coder()B -/
def f_J0_coder_7d493_s1  (S : vS) : Option Int32 := if (1 : Int32) = 0 then some (1 : Int32) else some (0 : Int32)
set_option maxHeartbeats 4000000 in
set_option maxRecDepth 20000 in
theorem c_J0_coder_7d493_s1 (l : Launch) (D : va_G) (cI cO : ClassId) (ad : Nat → Nat)  (S : vS) (R9 : Int32) (hf : f_J0_coder_7d493_s1  S = some R9) : CI l yJ0_coder_7d493 cJ0_coder_7d493 1 .byte ({ frames := 0, cells := 0, slots := 0, locals := 0 }) [.ref (ad 111)] D cI cO ad S R9 S := by
  refine CI.of (by decide +kernel) (Nat.le_of_ble_eq_true rfl) (fun p e s m args below meth c Q ls X hl hw hfin => ?_)
  have hl : lv_has ls 1 [(0, .ref (ad 111))] := hl
  have hx := X.1
  have hb := X.2.1
  unfold f_J0_coder_7d493_s1 at hf
  refine x_gets X hw hw.2.2.2.2.2.1 q241 dJ0_coder_7d493_0 ?_
  refine lv_if_eq (tgt := 13) hx hb dJ0_coder_7d493_3 (by decide) (fun c1 => ?_) (fun c1 => ?_)
  · replace hf := if_t c1 hf
    refine lv_iconst (v := 1) hx hb dJ0_coder_7d493_13 (by decide) ?_
    exact hfin _ _ _ _ _ _ hw (Option.some.inj hf) rfl rfl dJ0_coder_7d493_14
  · replace hf := if_f c1 hf
    refine lv_aload_n hx hb dJ0_coder_7d493_6 rfl (lv_at hl 0 rfl) ?_
    refine x_sget X hw (hw.2.2.2.2.2.2.2.2.2.2.1.1 1 (by decide)).2.1 q904 dJ0_coder_7d493_7 ?_
    refine lv_goto (tgt := 14) hx hb dJ0_coder_7d493_10 (by decide) ?_
    exact hfin _ _ _ _ _ _ hw (Option.some.inj hf) rfl rfl dJ0_coder_7d493_14
/-- java/lang/String.isLatin1()Z -/
theorem dJ0_isLatin1_aae02_0 : decode cJ0_isLatin1_aae02 0 = .ok (.getstatic 38, 3) := by decide +kernel
theorem dJ0_isLatin1_aae02_3 : decode cJ0_isLatin1_aae02 3 = .ok (.ifCond .eq 14, 3) := by decide +kernel
theorem dJ0_isLatin1_aae02_6 : decode cJ0_isLatin1_aae02 6 = .ok (.aload_n 0, 1) := by decide +kernel
theorem dJ0_isLatin1_aae02_7 : decode cJ0_isLatin1_aae02 7 = .ok (.getfield 15, 3) := by decide +kernel
theorem dJ0_isLatin1_aae02_10 : decode cJ0_isLatin1_aae02 10 = .ok (.ifCond .ne 7, 3) := by decide +kernel
theorem dJ0_isLatin1_aae02_13 : decode cJ0_isLatin1_aae02 13 = .ok (.iconst 1, 1) := by decide +kernel
theorem dJ0_isLatin1_aae02_14 : decode cJ0_isLatin1_aae02 14 = .ok (.goto 4, 3) := by decide +kernel
theorem dJ0_isLatin1_aae02_17 : decode cJ0_isLatin1_aae02 17 = .ok (.iconst 0, 1) := by decide +kernel
theorem dJ0_isLatin1_aae02_18 : decode cJ0_isLatin1_aae02 18 = .ok (.ireturn, 1) := by decide +kernel
theorem hd_J0_isLatin1_aae02 : yJ0_isLatin1_aae02.cls ≠ "java/lang/invoke/MethodHandle" ∧ yJ0_isLatin1_aae02.cls ≠ "java/lang/invoke/VarHandle" ∧ (parseMethodDescriptor yJ0_isLatin1_aae02.desc).map (fun d => d.parameters.length) = some 0 := by decide +kernel
def f_J0_isLatin1_aae02_s0  (S : vS) : Option Int32 := if (1 : Int32) = 0 then some (0 : Int32) else if (0 : Int32) = 0 then some (1 : Int32) else some (0 : Int32)
set_option maxHeartbeats 4000000 in
set_option maxRecDepth 20000 in
theorem c_J0_isLatin1_aae02_s0 (l : Launch) (D : va_G) (cI cO : ClassId) (ad : Nat → Nat)  (S : vS) (R9 : Int32) (hf : f_J0_isLatin1_aae02_s0  S = some R9) : CI l yJ0_isLatin1_aae02 cJ0_isLatin1_aae02 1 .boolean ({ frames := 0, cells := 0, slots := 0, locals := 0 }) [.ref (ad 110)] D cI cO ad S R9 S := by
  refine CI.of (by decide +kernel) (Nat.le_of_ble_eq_true rfl) (fun p e s m args below meth c Q ls X hl hw hfin => ?_)
  have hl : lv_has ls 1 [(0, .ref (ad 110))] := hl
  have hx := X.1
  have hb := X.2.1
  unfold f_J0_isLatin1_aae02_s0 at hf
  refine x_gets X hw hw.2.2.2.2.2.1 q241 dJ0_isLatin1_aae02_0 ?_
  refine lv_if_eq (tgt := 17) hx hb dJ0_isLatin1_aae02_3 (by decide) (fun c1 => ?_) (fun c1 => ?_)
  · replace hf := if_t c1 hf
    refine lv_iconst (v := 0) hx hb dJ0_isLatin1_aae02_17 (by decide) ?_
    exact hfin _ _ _ _ _ _ hw (Option.some.inj hf) rfl rfl dJ0_isLatin1_aae02_18
  · replace hf := if_f c1 hf
    refine lv_aload_n hx hb dJ0_isLatin1_aae02_6 rfl (lv_at hl 0 rfl) ?_
    refine x_sget X hw (hw.2.2.2.2.2.2.2.2.2.2.1.1 0 (by decide)).2.1 q904 dJ0_isLatin1_aae02_7 ?_
    refine lv_if_ne (tgt := 17) hx hb dJ0_isLatin1_aae02_10 (by decide) (fun c2 => ?_) (fun c2 => ?_)
    · replace hf := if_f c2 hf
      refine lv_iconst (v := 0) hx hb dJ0_isLatin1_aae02_17 (by decide) ?_
      exact hfin _ _ _ _ _ _ hw (Option.some.inj hf) rfl rfl dJ0_isLatin1_aae02_18
    · replace hf := if_t c2 hf
      refine lv_iconst (v := 1) hx hb dJ0_isLatin1_aae02_13 (by decide) ?_
      refine lv_goto (tgt := 18) hx hb dJ0_isLatin1_aae02_14 (by decide) ?_
      exact hfin _ _ _ _ _ _ hw (Option.some.inj hf) rfl rfl dJ0_isLatin1_aae02_18
/-- java/lang/String.isLatin1()Z -/
def f_J0_isLatin1_aae02_s1  (S : vS) : Option Int32 := if (1 : Int32) = 0 then some (0 : Int32) else if (0 : Int32) = 0 then some (1 : Int32) else some (0 : Int32)
set_option maxHeartbeats 4000000 in
set_option maxRecDepth 20000 in
theorem c_J0_isLatin1_aae02_s1 (l : Launch) (D : va_G) (cI cO : ClassId) (ad : Nat → Nat)  (S : vS) (R9 : Int32) (hf : f_J0_isLatin1_aae02_s1  S = some R9) : CI l yJ0_isLatin1_aae02 cJ0_isLatin1_aae02 1 .boolean ({ frames := 0, cells := 0, slots := 0, locals := 0 }) [.ref (ad 111)] D cI cO ad S R9 S := by
  refine CI.of (by decide +kernel) (Nat.le_of_ble_eq_true rfl) (fun p e s m args below meth c Q ls X hl hw hfin => ?_)
  have hl : lv_has ls 1 [(0, .ref (ad 111))] := hl
  have hx := X.1
  have hb := X.2.1
  unfold f_J0_isLatin1_aae02_s1 at hf
  refine x_gets X hw hw.2.2.2.2.2.1 q241 dJ0_isLatin1_aae02_0 ?_
  refine lv_if_eq (tgt := 17) hx hb dJ0_isLatin1_aae02_3 (by decide) (fun c1 => ?_) (fun c1 => ?_)
  · replace hf := if_t c1 hf
    refine lv_iconst (v := 0) hx hb dJ0_isLatin1_aae02_17 (by decide) ?_
    exact hfin _ _ _ _ _ _ hw (Option.some.inj hf) rfl rfl dJ0_isLatin1_aae02_18
  · replace hf := if_f c1 hf
    refine lv_aload_n hx hb dJ0_isLatin1_aae02_6 rfl (lv_at hl 0 rfl) ?_
    refine x_sget X hw (hw.2.2.2.2.2.2.2.2.2.2.1.1 1 (by decide)).2.1 q904 dJ0_isLatin1_aae02_7 ?_
    refine lv_if_ne (tgt := 17) hx hb dJ0_isLatin1_aae02_10 (by decide) (fun c2 => ?_) (fun c2 => ?_)
    · replace hf := if_f c2 hf
      refine lv_iconst (v := 0) hx hb dJ0_isLatin1_aae02_17 (by decide) ?_
      exact hfin _ _ _ _ _ _ hw (Option.some.inj hf) rfl rfl dJ0_isLatin1_aae02_18
    · replace hf := if_t c2 hf
      refine lv_iconst (v := 1) hx hb dJ0_isLatin1_aae02_13 (by decide) ?_
      refine lv_goto (tgt := 18) hx hb dJ0_isLatin1_aae02_14 (by decide) ?_
      exact hfin _ _ _ _ _ _ hw (Option.some.inj hf) rfl rfl dJ0_isLatin1_aae02_18
/-- java/lang/String.length()I -/
theorem dJ0_length_8abf5_0 : decode cJ0_length_8abf5 0 = .ok (.aload_n 0, 1) := by decide +kernel
theorem dJ0_length_8abf5_1 : decode cJ0_length_8abf5 1 = .ok (.getfield 9, 3) := by decide +kernel
theorem dJ0_length_8abf5_4 : decode cJ0_length_8abf5 4 = .ok (.arraylength, 1) := by decide +kernel
theorem dJ0_length_8abf5_5 : decode cJ0_length_8abf5 5 = .ok (.aload_n 0, 1) := by decide +kernel
theorem dJ0_length_8abf5_6 : decode cJ0_length_8abf5 6 = .ok (.invokevirtual 335, 3) := by decide +kernel
theorem dJ0_length_8abf5_9 : decode cJ0_length_8abf5 9 = .ok (.ishr, 1) := by decide +kernel
theorem dJ0_length_8abf5_10 : decode cJ0_length_8abf5 10 = .ok (.ireturn, 1) := by decide +kernel
theorem hd_J0_length_8abf5 : yJ0_length_8abf5.cls ≠ "java/lang/invoke/MethodHandle" ∧ yJ0_length_8abf5.cls ≠ "java/lang/invoke/VarHandle" ∧ (parseMethodDescriptor yJ0_length_8abf5.desc).map (fun d => d.parameters.length) = some 0 := by decide +kernel
def f_J0_length_8abf5_s0  (S : vS) : Option Int32 := b1 (f_J0_coder_7d493_s0  S) fun r2 => some ((6 : Int32) >>> (r2 &&& 31))
set_option maxHeartbeats 4000000 in
set_option maxRecDepth 20000 in
theorem c_J0_length_8abf5_s0 (l : Launch) (D : va_G) (cI cO : ClassId) (ad : Nat → Nat)  (S : vS) (R9 : Int32) (hf : f_J0_length_8abf5_s0  S = some R9) : CI l yJ0_length_8abf5 cJ0_length_8abf5 1 .int ({ frames := 1, cells := 0, slots := 0, locals := 20 }) [.ref (ad 110)] D cI cO ad S R9 S := by
  refine CI.of (by decide +kernel) (Nat.le_of_ble_eq_true rfl) (fun p e s m args below meth c Q ls X hl hw hfin => ?_)
  have hl : lv_has ls 1 [(0, .ref (ad 110))] := hl
  have hx := X.1
  have hb := X.2.1
  unfold f_J0_length_8abf5_s0 at hf
  refine lv_aload_n hx hb dJ0_length_8abf5_0 rfl (lv_at hl 0 rfl) ?_
  refine x_sget X hw (hw.2.2.2.2.2.2.2.2.2.2.1.1 0 (by decide)).2.2.1 q905 dJ0_length_8abf5_1 ?_
  refine x_slen X hw 0 (by decide) (v := 6) (by decide) dJ0_length_8abf5_4 ?_
  refine lv_aload_n hx hb dJ0_length_8abf5_5 rfl (lv_at hl 0 rfl) ?_
  obtain ⟨r2, h1, hf⟩ := b1_s hf
  refine kTi X hw 0 (by decide) rfl (c_J0_coder_7d493_s0 l D cI cO ad  S r2 h1) ⟨rfl, rfl⟩ q247 q248 q249 q65 q250 hd_J0_coder_7d493 ⟨Nat.le_of_ble_eq_true rfl, Nat.le_of_ble_eq_true rfl⟩ rfl hl.1 rfl (Nat.le_of_ble_eq_true rfl) dJ0_length_8abf5_6 (fun H locs hw => ?_)
  refine lv_ishr hx hb dJ0_length_8abf5_9 ?_
  exact hfin _ _ _ _ _ _ hw (Option.some.inj hf) rfl (narI _) dJ0_length_8abf5_10
/-- java/lang/String.length()I -/
def f_J0_length_8abf5_s1  (S : vS) : Option Int32 := b1 (f_J0_coder_7d493_s1  S) fun r2 => some ((4 : Int32) >>> (r2 &&& 31))
set_option maxHeartbeats 4000000 in
set_option maxRecDepth 20000 in
theorem c_J0_length_8abf5_s1 (l : Launch) (D : va_G) (cI cO : ClassId) (ad : Nat → Nat)  (S : vS) (R9 : Int32) (hf : f_J0_length_8abf5_s1  S = some R9) : CI l yJ0_length_8abf5 cJ0_length_8abf5 1 .int ({ frames := 1, cells := 0, slots := 0, locals := 20 }) [.ref (ad 111)] D cI cO ad S R9 S := by
  refine CI.of (by decide +kernel) (Nat.le_of_ble_eq_true rfl) (fun p e s m args below meth c Q ls X hl hw hfin => ?_)
  have hl : lv_has ls 1 [(0, .ref (ad 111))] := hl
  have hx := X.1
  have hb := X.2.1
  unfold f_J0_length_8abf5_s1 at hf
  refine lv_aload_n hx hb dJ0_length_8abf5_0 rfl (lv_at hl 0 rfl) ?_
  refine x_sget X hw (hw.2.2.2.2.2.2.2.2.2.2.1.1 1 (by decide)).2.2.1 q905 dJ0_length_8abf5_1 ?_
  refine x_slen X hw 1 (by decide) (v := 4) (by decide) dJ0_length_8abf5_4 ?_
  refine lv_aload_n hx hb dJ0_length_8abf5_5 rfl (lv_at hl 0 rfl) ?_
  obtain ⟨r2, h1, hf⟩ := b1_s hf
  refine kTi X hw 1 (by decide) rfl (c_J0_coder_7d493_s1 l D cI cO ad  S r2 h1) ⟨rfl, rfl⟩ q247 q248 q249 q65 q250 hd_J0_coder_7d493 ⟨Nat.le_of_ble_eq_true rfl, Nat.le_of_ble_eq_true rfl⟩ rfl hl.1 rfl (Nat.le_of_ble_eq_true rfl) dJ0_length_8abf5_6 (fun H locs hw => ?_)
  refine lv_ishr hx hb dJ0_length_8abf5_9 ?_
  exact hfin _ _ _ _ _ _ hw (Option.some.inj hf) rfl (narI _) dJ0_length_8abf5_10
/-- java/lang/String.indexOf(II)I -/
theorem dJ0_indexOf_7cf53_0 : decode cJ0_indexOf_7cf53 0 = .ok (.aload_n 0, 1) := by decide +kernel
theorem dJ0_indexOf_7cf53_1 : decode cJ0_indexOf_7cf53 1 = .ok (.invokevirtual 492, 3) := by decide +kernel
theorem dJ0_indexOf_7cf53_4 : decode cJ0_indexOf_7cf53 4 = .ok (.ifCond .eq 19, 3) := by decide +kernel
theorem dJ0_indexOf_7cf53_7 : decode cJ0_indexOf_7cf53 7 = .ok (.aload_n 0, 1) := by decide +kernel
theorem dJ0_indexOf_7cf53_8 : decode cJ0_indexOf_7cf53 8 = .ok (.getfield 9, 3) := by decide +kernel
theorem dJ0_indexOf_7cf53_11 : decode cJ0_indexOf_7cf53 11 = .ok (.iload_n 1, 1) := by decide +kernel
theorem dJ0_indexOf_7cf53_12 : decode cJ0_indexOf_7cf53 12 = .ok (.iload_n 2, 1) := by decide +kernel
theorem dJ0_indexOf_7cf53_13 : decode cJ0_indexOf_7cf53 13 = .ok (.aload_n 0, 1) := by decide +kernel
theorem dJ0_indexOf_7cf53_14 : decode cJ0_indexOf_7cf53 14 = .ok (.invokevirtual 505, 3) := by decide +kernel
theorem dJ0_indexOf_7cf53_17 : decode cJ0_indexOf_7cf53 17 = .ok (.invokestatic 637, 3) := by decide +kernel
theorem dJ0_indexOf_7cf53_20 : decode cJ0_indexOf_7cf53 20 = .ok (.goto 16, 3) := by decide +kernel
theorem dJ0_indexOf_7cf53_23 : decode cJ0_indexOf_7cf53 23 = .ok (.aload_n 0, 1) := by decide +kernel
theorem dJ0_indexOf_7cf53_24 : decode cJ0_indexOf_7cf53 24 = .ok (.getfield 9, 3) := by decide +kernel
theorem dJ0_indexOf_7cf53_27 : decode cJ0_indexOf_7cf53 27 = .ok (.iload_n 1, 1) := by decide +kernel
theorem dJ0_indexOf_7cf53_28 : decode cJ0_indexOf_7cf53 28 = .ok (.iload_n 2, 1) := by decide +kernel
theorem dJ0_indexOf_7cf53_29 : decode cJ0_indexOf_7cf53 29 = .ok (.aload_n 0, 1) := by decide +kernel
theorem dJ0_indexOf_7cf53_30 : decode cJ0_indexOf_7cf53 30 = .ok (.invokevirtual 505, 3) := by decide +kernel
theorem dJ0_indexOf_7cf53_33 : decode cJ0_indexOf_7cf53 33 = .ok (.invokestatic 640, 3) := by decide +kernel
theorem dJ0_indexOf_7cf53_36 : decode cJ0_indexOf_7cf53 36 = .ok (.ireturn, 1) := by decide +kernel
theorem hd_J0_indexOf_7cf53 : yJ0_indexOf_7cf53.cls ≠ "java/lang/invoke/MethodHandle" ∧ yJ0_indexOf_7cf53.cls ≠ "java/lang/invoke/VarHandle" ∧ (parseMethodDescriptor yJ0_indexOf_7cf53.desc).map (fun d => d.parameters.length) = some 2 := by decide +kernel
def f_J0_indexOf_7cf53_s0 (a1 : Int32) (a2 : Int32) (S : vS) : Option Int32 := b1 (f_J0_isLatin1_aae02_s0  S) fun r2 => if r2 = 0 then b1 (f_J0_length_8abf5_s0  S) fun r5 => none else b1 (f_J0_length_8abf5_s0  S) fun r7 => b1 (f_J1_indexOf_4cfef_s0 a1 a2 r7 S) fun r9 => some r9
set_option maxHeartbeats 4000000 in
set_option maxRecDepth 20000 in
theorem c_J0_indexOf_7cf53_s0 (l : Launch) (D : va_G) (cI cO : ClassId) (ad : Nat → Nat) (a1 : Int32) (a2 : Int32) (S : vS) (R9 : Int32) (hf : f_J0_indexOf_7cf53_s0 a1 a2 S = some R9) : CI l yJ0_indexOf_7cf53 cJ0_indexOf_7cf53 3 .int ({ frames := 2, cells := 0, slots := 0, locals := 48 }) [.ref (ad 110), .int a1, .int a2] D cI cO ad S R9 S := by
  refine CI.of (by decide +kernel) (Nat.le_of_ble_eq_true rfl) (fun p e s m args below meth c Q ls X hl hw hfin => ?_)
  have hl : lv_has ls 3 [(0, .ref (ad 110)), (1, .int a1), (2, .int a2)] := hl
  have hx := X.1
  have hb := X.2.1
  unfold f_J0_indexOf_7cf53_s0 at hf
  refine lv_aload_n hx hb dJ0_indexOf_7cf53_0 rfl (lv_at hl 0 rfl) ?_
  obtain ⟨r2, h1, hf⟩ := b1_s hf
  refine kTi X hw 0 (by decide) rfl (c_J0_isLatin1_aae02_s0 l D cI cO ad  S r2 h1) ⟨rfl, rfl⟩ q237 q238 q239 q65 q240 hd_J0_isLatin1_aae02 ⟨Nat.le_of_ble_eq_true rfl, Nat.le_of_ble_eq_true rfl⟩ rfl hl.1 rfl (Nat.le_of_ble_eq_true rfl) dJ0_indexOf_7cf53_1 (fun H locs hw => ?_)
  refine lv_if_eq (tgt := 23) hx hb dJ0_indexOf_7cf53_4 (by decide) (fun c3 => ?_) (fun c3 => ?_)
  · replace hf := if_t c3 hf
    refine lv_aload_n hx hb dJ0_indexOf_7cf53_23 rfl (lv_at hl 0 rfl) ?_
    refine x_sget X hw (hw.2.2.2.2.2.2.2.2.2.2.1.1 0 (by decide)).2.2.1 q905 dJ0_indexOf_7cf53_24 ?_
    refine lv_iload_n hx hb dJ0_indexOf_7cf53_27 rfl (lv_at hl 1 rfl) ?_
    refine lv_iload_n hx hb dJ0_indexOf_7cf53_28 rfl (lv_at hl 2 rfl) ?_
    refine lv_aload_n hx hb dJ0_indexOf_7cf53_29 rfl (lv_at hl 0 rfl) ?_
    obtain ⟨r5, h4, hf⟩ := b1_s hf
    refine kTi X hw 0 (by decide) rfl (c_J0_length_8abf5_s0 l D cI cO ad  S r5 h4) ⟨rfl, rfl⟩ q243 q244 q245 q65 q246 hd_J0_length_8abf5 ⟨Nat.le_of_ble_eq_true rfl, Nat.le_of_ble_eq_true rfl⟩ rfl hl.1 rfl (Nat.le_of_ble_eq_true rfl) dJ0_indexOf_7cf53_30 (fun H locs hw => ?_)
    cases hf
  · replace hf := if_f c3 hf
    refine lv_aload_n hx hb dJ0_indexOf_7cf53_7 rfl (lv_at hl 0 rfl) ?_
    refine x_sget X hw (hw.2.2.2.2.2.2.2.2.2.2.1.1 0 (by decide)).2.2.1 q905 dJ0_indexOf_7cf53_8 ?_
    refine lv_iload_n hx hb dJ0_indexOf_7cf53_11 rfl (lv_at hl 1 rfl) ?_
    refine lv_iload_n hx hb dJ0_indexOf_7cf53_12 rfl (lv_at hl 2 rfl) ?_
    refine lv_aload_n hx hb dJ0_indexOf_7cf53_13 rfl (lv_at hl 0 rfl) ?_
    obtain ⟨r7, h6, hf⟩ := b1_s hf
    refine kTi X hw 0 (by decide) rfl (c_J0_length_8abf5_s0 l D cI cO ad  S r7 h6) ⟨rfl, rfl⟩ q243 q244 q245 q65 q246 hd_J0_length_8abf5 ⟨Nat.le_of_ble_eq_true rfl, Nat.le_of_ble_eq_true rfl⟩ rfl hl.1 rfl (Nat.le_of_ble_eq_true rfl) dJ0_indexOf_7cf53_14 (fun H locs hw => ?_)
    obtain ⟨r9, h8, hf⟩ := b1_s hf
    refine kSi X hw (c_J1_indexOf_4cfef_s0 l D cI cO ad a1 a2 r7 S r9 h8) ⟨rfl, rfl⟩ q251 q252 q66 q253 hd_J1_indexOf_4cfef ⟨Nat.le_of_ble_eq_true rfl, Nat.le_of_ble_eq_true rfl⟩ rfl hl.1 rfl (Nat.le_of_ble_eq_true rfl) dJ0_indexOf_7cf53_17 (fun H locs hw => ?_)
    refine lv_goto (tgt := 36) hx hb dJ0_indexOf_7cf53_20 (by decide) ?_
    exact hfin _ _ _ _ _ _ hw (Option.some.inj hf) rfl (narI _) dJ0_indexOf_7cf53_36
/-- java/lang/String.indexOf(II)I -/
def f_J0_indexOf_7cf53_s1 (a1 : Int32) (a2 : Int32) (S : vS) : Option Int32 := b1 (f_J0_isLatin1_aae02_s1  S) fun r2 => if r2 = 0 then b1 (f_J0_length_8abf5_s1  S) fun r5 => none else b1 (f_J0_length_8abf5_s1  S) fun r7 => b1 (f_J1_indexOf_4cfef_s1 a1 a2 r7 S) fun r9 => some r9
set_option maxHeartbeats 4000000 in
set_option maxRecDepth 20000 in
theorem c_J0_indexOf_7cf53_s1 (l : Launch) (D : va_G) (cI cO : ClassId) (ad : Nat → Nat) (a1 : Int32) (a2 : Int32) (S : vS) (R9 : Int32) (hf : f_J0_indexOf_7cf53_s1 a1 a2 S = some R9) : CI l yJ0_indexOf_7cf53 cJ0_indexOf_7cf53 3 .int ({ frames := 2, cells := 0, slots := 0, locals := 48 }) [.ref (ad 111), .int a1, .int a2] D cI cO ad S R9 S := by
  refine CI.of (by decide +kernel) (Nat.le_of_ble_eq_true rfl) (fun p e s m args below meth c Q ls X hl hw hfin => ?_)
  have hl : lv_has ls 3 [(0, .ref (ad 111)), (1, .int a1), (2, .int a2)] := hl
  have hx := X.1
  have hb := X.2.1
  unfold f_J0_indexOf_7cf53_s1 at hf
  refine lv_aload_n hx hb dJ0_indexOf_7cf53_0 rfl (lv_at hl 0 rfl) ?_
  obtain ⟨r2, h1, hf⟩ := b1_s hf
  refine kTi X hw 1 (by decide) rfl (c_J0_isLatin1_aae02_s1 l D cI cO ad  S r2 h1) ⟨rfl, rfl⟩ q237 q238 q239 q65 q240 hd_J0_isLatin1_aae02 ⟨Nat.le_of_ble_eq_true rfl, Nat.le_of_ble_eq_true rfl⟩ rfl hl.1 rfl (Nat.le_of_ble_eq_true rfl) dJ0_indexOf_7cf53_1 (fun H locs hw => ?_)
  refine lv_if_eq (tgt := 23) hx hb dJ0_indexOf_7cf53_4 (by decide) (fun c3 => ?_) (fun c3 => ?_)
  · replace hf := if_t c3 hf
    refine lv_aload_n hx hb dJ0_indexOf_7cf53_23 rfl (lv_at hl 0 rfl) ?_
    refine x_sget X hw (hw.2.2.2.2.2.2.2.2.2.2.1.1 1 (by decide)).2.2.1 q905 dJ0_indexOf_7cf53_24 ?_
    refine lv_iload_n hx hb dJ0_indexOf_7cf53_27 rfl (lv_at hl 1 rfl) ?_
    refine lv_iload_n hx hb dJ0_indexOf_7cf53_28 rfl (lv_at hl 2 rfl) ?_
    refine lv_aload_n hx hb dJ0_indexOf_7cf53_29 rfl (lv_at hl 0 rfl) ?_
    obtain ⟨r5, h4, hf⟩ := b1_s hf
    refine kTi X hw 1 (by decide) rfl (c_J0_length_8abf5_s1 l D cI cO ad  S r5 h4) ⟨rfl, rfl⟩ q243 q244 q245 q65 q246 hd_J0_length_8abf5 ⟨Nat.le_of_ble_eq_true rfl, Nat.le_of_ble_eq_true rfl⟩ rfl hl.1 rfl (Nat.le_of_ble_eq_true rfl) dJ0_indexOf_7cf53_30 (fun H locs hw => ?_)
    cases hf
  · replace hf := if_f c3 hf
    refine lv_aload_n hx hb dJ0_indexOf_7cf53_7 rfl (lv_at hl 0 rfl) ?_
    refine x_sget X hw (hw.2.2.2.2.2.2.2.2.2.2.1.1 1 (by decide)).2.2.1 q905 dJ0_indexOf_7cf53_8 ?_
    refine lv_iload_n hx hb dJ0_indexOf_7cf53_11 rfl (lv_at hl 1 rfl) ?_
    refine lv_iload_n hx hb dJ0_indexOf_7cf53_12 rfl (lv_at hl 2 rfl) ?_
    refine lv_aload_n hx hb dJ0_indexOf_7cf53_13 rfl (lv_at hl 0 rfl) ?_
    obtain ⟨r7, h6, hf⟩ := b1_s hf
    refine kTi X hw 1 (by decide) rfl (c_J0_length_8abf5_s1 l D cI cO ad  S r7 h6) ⟨rfl, rfl⟩ q243 q244 q245 q65 q246 hd_J0_length_8abf5 ⟨Nat.le_of_ble_eq_true rfl, Nat.le_of_ble_eq_true rfl⟩ rfl hl.1 rfl (Nat.le_of_ble_eq_true rfl) dJ0_indexOf_7cf53_14 (fun H locs hw => ?_)
    obtain ⟨r9, h8, hf⟩ := b1_s hf
    refine kSi X hw (c_J1_indexOf_4cfef_s1 l D cI cO ad a1 a2 r7 S r9 h8) ⟨rfl, rfl⟩ q251 q252 q66 q253 hd_J1_indexOf_4cfef ⟨Nat.le_of_ble_eq_true rfl, Nat.le_of_ble_eq_true rfl⟩ rfl hl.1 rfl (Nat.le_of_ble_eq_true rfl) dJ0_indexOf_7cf53_17 (fun H locs hw => ?_)
    refine lv_goto (tgt := 36) hx hb dJ0_indexOf_7cf53_20 (by decide) ?_
    exact hfin _ _ _ _ _ _ hw (Option.some.inj hf) rfl (narI _) dJ0_indexOf_7cf53_36
/-- java/lang/String.indexOf(I)I -/
theorem dJ0_indexOf_0f7a4_0 : decode cJ0_indexOf_0f7a4 0 = .ok (.aload_n 0, 1) := by decide +kernel
theorem dJ0_indexOf_0f7a4_1 : decode cJ0_indexOf_0f7a4 1 = .ok (.iload_n 1, 1) := by decide +kernel
theorem dJ0_indexOf_0f7a4_2 : decode cJ0_indexOf_0f7a4 2 = .ok (.iconst 0, 1) := by decide +kernel
theorem dJ0_indexOf_0f7a4_3 : decode cJ0_indexOf_0f7a4 3 = .ok (.invokevirtual 633, 3) := by decide +kernel
theorem dJ0_indexOf_0f7a4_6 : decode cJ0_indexOf_0f7a4 6 = .ok (.ireturn, 1) := by decide +kernel
theorem hd_J0_indexOf_0f7a4 : yJ0_indexOf_0f7a4.cls ≠ "java/lang/invoke/MethodHandle" ∧ yJ0_indexOf_0f7a4.cls ≠ "java/lang/invoke/VarHandle" ∧ (parseMethodDescriptor yJ0_indexOf_0f7a4.desc).map (fun d => d.parameters.length) = some 1 := by decide +kernel
def f_J0_indexOf_0f7a4_s0 (a1 : Int32) (S : vS) : Option Int32 := b1 (f_J0_indexOf_7cf53_s0 a1 (0 : Int32) S) fun r2 => some r2
set_option maxHeartbeats 4000000 in
set_option maxRecDepth 20000 in
theorem c_J0_indexOf_0f7a4_s0 (l : Launch) (D : va_G) (cI cO : ClassId) (ad : Nat → Nat) (a1 : Int32) (S : vS) (R9 : Int32) (hf : f_J0_indexOf_0f7a4_s0 a1 S = some R9) : CI l yJ0_indexOf_0f7a4 cJ0_indexOf_0f7a4 2 .int ({ frames := 3, cells := 0, slots := 0, locals := 70 }) [.ref (ad 110), .int a1] D cI cO ad S R9 S := by
  refine CI.of (by decide +kernel) (Nat.le_of_ble_eq_true rfl) (fun p e s m args below meth c Q ls X hl hw hfin => ?_)
  have hl : lv_has ls 2 [(0, .ref (ad 110)), (1, .int a1)] := hl
  have hx := X.1
  have hb := X.2.1
  unfold f_J0_indexOf_0f7a4_s0 at hf
  refine lv_aload_n hx hb dJ0_indexOf_0f7a4_0 rfl (lv_at hl 0 rfl) ?_
  refine lv_iload_n hx hb dJ0_indexOf_0f7a4_1 rfl (lv_at hl 1 rfl) ?_
  refine lv_iconst (v := 0) hx hb dJ0_indexOf_0f7a4_2 (by decide) ?_
  obtain ⟨r2, h1, hf⟩ := b1_s hf
  refine kTi X hw 0 (by decide) rfl (c_J0_indexOf_7cf53_s0 l D cI cO ad a1 (0 : Int32) S r2 h1) ⟨rfl, rfl⟩ q233 q234 q235 q65 q236 hd_J0_indexOf_7cf53 ⟨Nat.le_of_ble_eq_true rfl, Nat.le_of_ble_eq_true rfl⟩ rfl hl.1 rfl (Nat.le_of_ble_eq_true rfl) dJ0_indexOf_0f7a4_3 (fun H locs hw => ?_)
  exact hfin _ _ _ _ _ _ hw (Option.some.inj hf) rfl (narI _) dJ0_indexOf_0f7a4_6
/-- java/lang/String.indexOf(I)I -/
def f_J0_indexOf_0f7a4_s1 (a1 : Int32) (S : vS) : Option Int32 := b1 (f_J0_indexOf_7cf53_s1 a1 (0 : Int32) S) fun r2 => some r2
set_option maxHeartbeats 4000000 in
set_option maxRecDepth 20000 in
theorem c_J0_indexOf_0f7a4_s1 (l : Launch) (D : va_G) (cI cO : ClassId) (ad : Nat → Nat) (a1 : Int32) (S : vS) (R9 : Int32) (hf : f_J0_indexOf_0f7a4_s1 a1 S = some R9) : CI l yJ0_indexOf_0f7a4 cJ0_indexOf_0f7a4 2 .int ({ frames := 3, cells := 0, slots := 0, locals := 70 }) [.ref (ad 111), .int a1] D cI cO ad S R9 S := by
  refine CI.of (by decide +kernel) (Nat.le_of_ble_eq_true rfl) (fun p e s m args below meth c Q ls X hl hw hfin => ?_)
  have hl : lv_has ls 2 [(0, .ref (ad 111)), (1, .int a1)] := hl
  have hx := X.1
  have hb := X.2.1
  unfold f_J0_indexOf_0f7a4_s1 at hf
  refine lv_aload_n hx hb dJ0_indexOf_0f7a4_0 rfl (lv_at hl 0 rfl) ?_
  refine lv_iload_n hx hb dJ0_indexOf_0f7a4_1 rfl (lv_at hl 1 rfl) ?_
  refine lv_iconst (v := 0) hx hb dJ0_indexOf_0f7a4_2 (by decide) ?_
  obtain ⟨r2, h1, hf⟩ := b1_s hf
  refine kTi X hw 1 (by decide) rfl (c_J0_indexOf_7cf53_s1 l D cI cO ad a1 (0 : Int32) S r2 h1) ⟨rfl, rfl⟩ q233 q234 q235 q65 q236 hd_J0_indexOf_7cf53 ⟨Nat.le_of_ble_eq_true rfl, Nat.le_of_ble_eq_true rfl⟩ rfl hl.1 rfl (Nat.le_of_ble_eq_true rfl) dJ0_indexOf_0f7a4_3 (fun H locs hw => ?_)
  exact hfin _ _ _ _ _ _ hw (Option.some.inj hf) rfl (narI _) dJ0_indexOf_0f7a4_6
/-- NineLands$Tape.readChoice([IILjava/lang/String;)Z -/
theorem dX2_readChoice_0 : decode cX2_readChoice 0 = .ok (.aload_n 0, 1) := by decide +kernel
theorem dX2_readChoice_1 : decode cX2_readChoice 1 = .ok (.getfield 19, 3) := by decide +kernel
theorem dX2_readChoice_4 : decode cX2_readChoice 4 = .ok (.aload_n 0, 1) := by decide +kernel
theorem dX2_readChoice_5 : decode cX2_readChoice 5 = .ok (.getfield 15, 3) := by decide +kernel
theorem dX2_readChoice_8 : decode cX2_readChoice 8 = .ok (.if_icmp .ge 20, 3) := by decide +kernel
theorem dX2_readChoice_11 : decode cX2_readChoice 11 = .ok (.aload_n 3, 1) := by decide +kernel
theorem dX2_readChoice_12 : decode cX2_readChoice 12 = .ok (.aload_n 0, 1) := by decide +kernel
theorem dX2_readChoice_13 : decode cX2_readChoice 13 = .ok (.getfield 9, 3) := by decide +kernel
theorem dX2_readChoice_16 : decode cX2_readChoice 16 = .ok (.aload_n 0, 1) := by decide +kernel
theorem dX2_readChoice_17 : decode cX2_readChoice 17 = .ok (.getfield 19, 3) := by decide +kernel
theorem dX2_readChoice_20 : decode cX2_readChoice 20 = .ok (.iaload, 1) := by decide +kernel
theorem dX2_readChoice_21 : decode cX2_readChoice 21 = .ok (.i2c, 1) := by decide +kernel
theorem dX2_readChoice_22 : decode cX2_readChoice 22 = .ok (.invokevirtual 42, 3) := by decide +kernel
theorem dX2_readChoice_25 : decode cX2_readChoice 25 = .ok (.goto 4, 3) := by decide +kernel
theorem dX2_readChoice_28 : decode cX2_readChoice 28 = .ok (.iconst (-1), 1) := by decide +kernel
theorem dX2_readChoice_29 : decode cX2_readChoice 29 = .ok (.istore 4, 2) := by decide +kernel
theorem dX2_readChoice_31 : decode cX2_readChoice 31 = .ok (.iload 4, 2) := by decide +kernel
theorem dX2_readChoice_33 : decode cX2_readChoice 33 = .ok (.ifCond .ge 5, 3) := by decide +kernel
theorem dX2_readChoice_36 : decode cX2_readChoice 36 = .ok (.iconst 0, 1) := by decide +kernel
theorem dX2_readChoice_37 : decode cX2_readChoice 37 = .ok (.ireturn, 1) := by decide +kernel
theorem dX2_readChoice_38 : decode cX2_readChoice 38 = .ok (.aload_n 1, 1) := by decide +kernel
theorem dX2_readChoice_39 : decode cX2_readChoice 39 = .ok (.iload_n 2, 1) := by decide +kernel
theorem dX2_readChoice_40 : decode cX2_readChoice 40 = .ok (.iload 4, 2) := by decide +kernel
theorem dX2_readChoice_42 : decode cX2_readChoice 42 = .ok (.iastore, 1) := by decide +kernel
theorem dX2_readChoice_43 : decode cX2_readChoice 43 = .ok (.aload_n 0, 1) := by decide +kernel
theorem dX2_readChoice_44 : decode cX2_readChoice 44 = .ok (.dup, 1) := by decide +kernel
theorem dX2_readChoice_45 : decode cX2_readChoice 45 = .ok (.getfield 19, 3) := by decide +kernel
theorem dX2_readChoice_48 : decode cX2_readChoice 48 = .ok (.iconst 1, 1) := by decide +kernel
theorem dX2_readChoice_49 : decode cX2_readChoice 49 = .ok (.iadd, 1) := by decide +kernel
theorem dX2_readChoice_50 : decode cX2_readChoice 50 = .ok (.putfield 19, 3) := by decide +kernel
theorem dX2_readChoice_53 : decode cX2_readChoice 53 = .ok (.iconst 1, 1) := by decide +kernel
theorem dX2_readChoice_54 : decode cX2_readChoice 54 = .ok (.ireturn, 1) := by decide +kernel
theorem hd_X2_readChoice : yX2_readChoice.cls ≠ "java/lang/invoke/MethodHandle" ∧ yX2_readChoice.cls ≠ "java/lang/invoke/VarHandle" ∧ (parseMethodDescriptor yX2_readChoice.desc).map (fun d => d.parameters.length) = some 3 := by decide +kernel
def f_X2_readChoice_s0_J29 (x1 : Nat) (x2 : Int32) (k0 : Int32) (S : vS) : Option (Int32 × vS) := if 0 ≤ k0 then if 1 ≤ x1 ∧ x1 ≤ 97 then if inb x2 (alen x1) = true then lt (upk S x1 (upd (S x1) (x2.toNatClampNeg) k0)) fun S5 => lt (upk S5 0 (upd (S5 0) 11 ((S5 0 11) + (1 : Int32)))) fun S6 => some ((1 : Int32), S6) else none else none else some ((0 : Int32), S)
def f_X2_readChoice_s0 (a1 : Nat) (a2 : Int32) (S : vS) : Option (Int32 × vS) := if (S 0 10) ≤ (S 0 11) then f_X2_readChoice_s0_J29 a1 a2 (-1 : Int32) S else if inb (S 0 11) 16 = true then b1 (f_J0_indexOf_0f7a4_s0 (((S 22 ((S 0 11).toNatClampNeg)).toUInt32 % 65536).toInt32) S) fun r9 => f_X2_readChoice_s0_J29 a1 a2 r9 S else none
set_option maxHeartbeats 4000000 in
set_option maxRecDepth 20000 in
theorem c_X2_readChoice_s0 (l : Launch) (D : va_G) (cI cO : ClassId) (ad : Nat → Nat) (a1 : Nat) (a2 : Int32) (S : vS) (R9 : Int32) (S9 : vS) (hf : f_X2_readChoice_s0 a1 a2 S = some (R9, S9)) : CI l yX2_readChoice cX2_readChoice 5 .boolean ({ frames := 4, cells := 0, slots := 0, locals := 91 }) [.ref (ad 1), .ref (ar ad a1), .int a2, .ref (ad 110)] D cI cO ad S R9 S9 := by
  refine CI.of (by decide +kernel) (Nat.le_of_ble_eq_true rfl) (fun p e s m args below meth c Q ls X hl hw hfin => ?_)
  have hl : lv_has ls 5 [(0, .ref (ad 1)), (1, .ref (ar ad a1)), (2, .int a2), (3, .ref (ad 110))] := hl
  have hx := X.1
  have hb := X.2.1
  have J29 : ∀ (x1 : Nat) (x2 : Int32) (k0 : Int32) (S : vS), f_X2_readChoice_s0_J29 x1 x2 k0 S = some (R9, S9) → ∀ (H : Heap) (locs : List Loc) (ls : Array Slot), WD D cI cO ad s S H locs → lv_has ls 5 [(0, .ref (ad 1)), (1, .ref (ar ad x1)), (2, .int x2)] → W p l e ({ frames := 4, cells := 0, slots := 0, locals := 91 }) s m args below meth c H locs 0 0 Q (F0 m 29 ls [.int k0]) := by
    intro x1 x2 k0 S hf H locs ls hw hl
    unfold f_X2_readChoice_s0_J29 at hf
    refine lv_istore (lv' := [(4, .int k0), (0, .ref (ad 1)), (1, .ref (ar ad x1)), (2, .int x2)]) hx hb dX2_readChoice_29 hl (by decide) rfl (fun ls hl => ?_)
    refine lv_iload hx hb dX2_readChoice_31 (lv_at hl 0 rfl) ?_
    refine lv_if_ge (tgt := 38) hx hb dX2_readChoice_33 (by decide) (fun c2 => ?_) (fun c2 => ?_)
    · replace hf := if_t c2 hf
      refine lv_aload_n hx hb dX2_readChoice_38 rfl (lv_at hl 2 rfl) ?_
      refine lv_iload_n hx hb dX2_readChoice_39 rfl (lv_at hl 3 rfl) ?_
      refine lv_iload hx hb dX2_readChoice_40 (lv_at hl 0 rfl) ?_
      obtain ⟨h3, hf⟩ := if_s hf
      obtain ⟨h4, hf⟩ := if_s hf
      refine x_iast X hw x1 h3 rfl h4 (x2.toNatClampNeg) rfl dX2_readChoice_42 (fun S5 eS5 H locs hw => ?_)
      replace hf := lt_e eS5 hf
      refine lv_aload_n hx hb dX2_readChoice_43 rfl (lv_at hl 1 rfl) ?_
      refine lv_dup hx hb dX2_readChoice_44 rfl ?_
      refine x_get X hw 1 (Nat.le_of_ble_eq_true rfl) ce1 rfl i_X2 2 (by decide) q90 ⟨rfl, rfl, rfl⟩ rfl dX2_readChoice_45 ?_
      refine lv_iconst (v := 1) hx hb dX2_readChoice_48 (by decide) ?_
      refine lv_iadd hx hb dX2_readChoice_49 ?_
      refine x_put X hw 1 (Nat.le_of_ble_eq_true rfl) ce1 rfl i_X2 tyX2_ok nmX2 2 (by decide) q90 ⟨rfl, rfl, rfl⟩ rfl pfI rfl rfl (Nat.le_of_ble_eq_true rfl) 11 (ws_11 _) dX2_readChoice_50 (fun S6 eS6 H locs hw => ?_)
      replace hf := lt_e eS6 hf
      refine lv_iconst (v := 1) hx hb dX2_readChoice_53 (by decide) ?_
      exact hfin _ _ _ _ _ _ hw (s2a hf) (s2b hf) rfl dX2_readChoice_54
    · replace hf := if_f c2 hf
      refine lv_iconst (v := 0) hx hb dX2_readChoice_36 (by decide) ?_
      exact hfin _ _ _ _ _ _ hw (s2a hf) (s2b hf) rfl dX2_readChoice_37
  unfold f_X2_readChoice_s0 at hf
  refine lv_aload_n hx hb dX2_readChoice_0 rfl (lv_at hl 0 rfl) ?_
  refine x_get X hw 1 (Nat.le_of_ble_eq_true rfl) ce1 rfl i_X2 2 (by decide) q90 ⟨rfl, rfl, rfl⟩ rfl dX2_readChoice_1 ?_
  refine lv_aload_n hx hb dX2_readChoice_4 rfl (lv_at hl 0 rfl) ?_
  refine x_get X hw 1 (Nat.le_of_ble_eq_true rfl) ce1 rfl i_X2 1 (by decide) q88 ⟨rfl, rfl, rfl⟩ rfl dX2_readChoice_5 ?_
  refine lv_icmp_ge (tgt := 28) hx hb dX2_readChoice_8 (by decide) (fun c1 => ?_) (fun c1 => ?_)
  · replace hf := if_t c1 hf
    refine lv_iconst (v := -1) hx hb dX2_readChoice_28 (by decide) ?_
    exact J29 a1 a2 (-1 : Int32) S hf _ _ _ hw (lv_sub hl [0, 1, 2] rfl)
  · replace hf := if_f c1 hf
    refine lv_aload_n hx hb dX2_readChoice_11 rfl (lv_at hl 3 rfl) ?_
    refine lv_aload_n hx hb dX2_readChoice_12 rfl (lv_at hl 0 rfl) ?_
    refine x_get X hw 1 (Nat.le_of_ble_eq_true rfl) ce1 rfl i_X2 0 (by decide) q86 ⟨rfl, rfl, rfl⟩ rfl dX2_readChoice_13 ?_
    refine lv_aload_n hx hb dX2_readChoice_16 rfl (lv_at hl 0 rfl) ?_
    refine x_get X hw 1 (Nat.le_of_ble_eq_true rfl) ce1 rfl i_X2 2 (by decide) q90 ⟨rfl, rfl, rfl⟩ rfl dX2_readChoice_17 ?_
    obtain ⟨h7, hf⟩ := if_s hf
    refine x_iald X hw 22 ⟨Nat.le_of_ble_eq_true rfl, Nat.le_of_ble_eq_true rfl⟩ rfl h7 ((S 0 11).toNatClampNeg) rfl dX2_readChoice_20 ?_
    refine lv_i2c (v := ((S 22 ((S 0 11).toNatClampNeg)).toUInt32 % 65536).toInt32) hx hb dX2_readChoice_21 rfl ?_
    obtain ⟨r9, h8, hf⟩ := b1_s hf
    refine kTi X hw 0 (by decide) rfl (c_J0_indexOf_0f7a4_s0 l D cI cO ad (((S 22 ((S 0 11).toNatClampNeg)).toUInt32 % 65536).toInt32) S r9 h8) ⟨rfl, rfl⟩ q229 q230 q231 q65 q232 hd_J0_indexOf_0f7a4 ⟨Nat.le_of_ble_eq_true rfl, Nat.le_of_ble_eq_true rfl⟩ rfl hl.1 rfl (Nat.le_of_ble_eq_true rfl) dX2_readChoice_22 (fun H locs hw => ?_)
    refine lv_goto (tgt := 29) hx hb dX2_readChoice_25 (by decide) ?_
    exact J29 a1 a2 r9 S hf _ _ _ hw (lv_sub hl [0, 1, 2] rfl)
/-- NineLands$Tape.readChoice([IILjava/lang/String;)Z -/
def f_X2_readChoice_s1_J29 (x1 : Nat) (x2 : Int32) (k0 : Int32) (S : vS) : Option (Int32 × vS) := if 0 ≤ k0 then if 1 ≤ x1 ∧ x1 ≤ 97 then if inb x2 (alen x1) = true then lt (upk S x1 (upd (S x1) (x2.toNatClampNeg) k0)) fun S5 => lt (upk S5 0 (upd (S5 0) 11 ((S5 0 11) + (1 : Int32)))) fun S6 => some ((1 : Int32), S6) else none else none else some ((0 : Int32), S)
def f_X2_readChoice_s1 (a1 : Nat) (a2 : Int32) (S : vS) : Option (Int32 × vS) := if (S 0 10) ≤ (S 0 11) then f_X2_readChoice_s1_J29 a1 a2 (-1 : Int32) S else if inb (S 0 11) 16 = true then b1 (f_J0_indexOf_0f7a4_s1 (((S 22 ((S 0 11).toNatClampNeg)).toUInt32 % 65536).toInt32) S) fun r9 => f_X2_readChoice_s1_J29 a1 a2 r9 S else none
set_option maxHeartbeats 4000000 in
set_option maxRecDepth 20000 in
theorem c_X2_readChoice_s1 (l : Launch) (D : va_G) (cI cO : ClassId) (ad : Nat → Nat) (a1 : Nat) (a2 : Int32) (S : vS) (R9 : Int32) (S9 : vS) (hf : f_X2_readChoice_s1 a1 a2 S = some (R9, S9)) : CI l yX2_readChoice cX2_readChoice 5 .boolean ({ frames := 4, cells := 0, slots := 0, locals := 91 }) [.ref (ad 1), .ref (ar ad a1), .int a2, .ref (ad 111)] D cI cO ad S R9 S9 := by
  refine CI.of (by decide +kernel) (Nat.le_of_ble_eq_true rfl) (fun p e s m args below meth c Q ls X hl hw hfin => ?_)
  have hl : lv_has ls 5 [(0, .ref (ad 1)), (1, .ref (ar ad a1)), (2, .int a2), (3, .ref (ad 111))] := hl
  have hx := X.1
  have hb := X.2.1
  have J29 : ∀ (x1 : Nat) (x2 : Int32) (k0 : Int32) (S : vS), f_X2_readChoice_s1_J29 x1 x2 k0 S = some (R9, S9) → ∀ (H : Heap) (locs : List Loc) (ls : Array Slot), WD D cI cO ad s S H locs → lv_has ls 5 [(0, .ref (ad 1)), (1, .ref (ar ad x1)), (2, .int x2)] → W p l e ({ frames := 4, cells := 0, slots := 0, locals := 91 }) s m args below meth c H locs 0 0 Q (F0 m 29 ls [.int k0]) := by
    intro x1 x2 k0 S hf H locs ls hw hl
    unfold f_X2_readChoice_s1_J29 at hf
    refine lv_istore (lv' := [(4, .int k0), (0, .ref (ad 1)), (1, .ref (ar ad x1)), (2, .int x2)]) hx hb dX2_readChoice_29 hl (by decide) rfl (fun ls hl => ?_)
    refine lv_iload hx hb dX2_readChoice_31 (lv_at hl 0 rfl) ?_
    refine lv_if_ge (tgt := 38) hx hb dX2_readChoice_33 (by decide) (fun c2 => ?_) (fun c2 => ?_)
    · replace hf := if_t c2 hf
      refine lv_aload_n hx hb dX2_readChoice_38 rfl (lv_at hl 2 rfl) ?_
      refine lv_iload_n hx hb dX2_readChoice_39 rfl (lv_at hl 3 rfl) ?_
      refine lv_iload hx hb dX2_readChoice_40 (lv_at hl 0 rfl) ?_
      obtain ⟨h3, hf⟩ := if_s hf
      obtain ⟨h4, hf⟩ := if_s hf
      refine x_iast X hw x1 h3 rfl h4 (x2.toNatClampNeg) rfl dX2_readChoice_42 (fun S5 eS5 H locs hw => ?_)
      replace hf := lt_e eS5 hf
      refine lv_aload_n hx hb dX2_readChoice_43 rfl (lv_at hl 1 rfl) ?_
      refine lv_dup hx hb dX2_readChoice_44 rfl ?_
      refine x_get X hw 1 (Nat.le_of_ble_eq_true rfl) ce1 rfl i_X2 2 (by decide) q90 ⟨rfl, rfl, rfl⟩ rfl dX2_readChoice_45 ?_
      refine lv_iconst (v := 1) hx hb dX2_readChoice_48 (by decide) ?_
      refine lv_iadd hx hb dX2_readChoice_49 ?_
      refine x_put X hw 1 (Nat.le_of_ble_eq_true rfl) ce1 rfl i_X2 tyX2_ok nmX2 2 (by decide) q90 ⟨rfl, rfl, rfl⟩ rfl pfI rfl rfl (Nat.le_of_ble_eq_true rfl) 11 (ws_11 _) dX2_readChoice_50 (fun S6 eS6 H locs hw => ?_)
      replace hf := lt_e eS6 hf
      refine lv_iconst (v := 1) hx hb dX2_readChoice_53 (by decide) ?_
      exact hfin _ _ _ _ _ _ hw (s2a hf) (s2b hf) rfl dX2_readChoice_54
    · replace hf := if_f c2 hf
      refine lv_iconst (v := 0) hx hb dX2_readChoice_36 (by decide) ?_
      exact hfin _ _ _ _ _ _ hw (s2a hf) (s2b hf) rfl dX2_readChoice_37
  unfold f_X2_readChoice_s1 at hf
  refine lv_aload_n hx hb dX2_readChoice_0 rfl (lv_at hl 0 rfl) ?_
  refine x_get X hw 1 (Nat.le_of_ble_eq_true rfl) ce1 rfl i_X2 2 (by decide) q90 ⟨rfl, rfl, rfl⟩ rfl dX2_readChoice_1 ?_
  refine lv_aload_n hx hb dX2_readChoice_4 rfl (lv_at hl 0 rfl) ?_
  refine x_get X hw 1 (Nat.le_of_ble_eq_true rfl) ce1 rfl i_X2 1 (by decide) q88 ⟨rfl, rfl, rfl⟩ rfl dX2_readChoice_5 ?_
  refine lv_icmp_ge (tgt := 28) hx hb dX2_readChoice_8 (by decide) (fun c1 => ?_) (fun c1 => ?_)
  · replace hf := if_t c1 hf
    refine lv_iconst (v := -1) hx hb dX2_readChoice_28 (by decide) ?_
    exact J29 a1 a2 (-1 : Int32) S hf _ _ _ hw (lv_sub hl [0, 1, 2] rfl)
  · replace hf := if_f c1 hf
    refine lv_aload_n hx hb dX2_readChoice_11 rfl (lv_at hl 3 rfl) ?_
    refine lv_aload_n hx hb dX2_readChoice_12 rfl (lv_at hl 0 rfl) ?_
    refine x_get X hw 1 (Nat.le_of_ble_eq_true rfl) ce1 rfl i_X2 0 (by decide) q86 ⟨rfl, rfl, rfl⟩ rfl dX2_readChoice_13 ?_
    refine lv_aload_n hx hb dX2_readChoice_16 rfl (lv_at hl 0 rfl) ?_
    refine x_get X hw 1 (Nat.le_of_ble_eq_true rfl) ce1 rfl i_X2 2 (by decide) q90 ⟨rfl, rfl, rfl⟩ rfl dX2_readChoice_17 ?_
    obtain ⟨h7, hf⟩ := if_s hf
    refine x_iald X hw 22 ⟨Nat.le_of_ble_eq_true rfl, Nat.le_of_ble_eq_true rfl⟩ rfl h7 ((S 0 11).toNatClampNeg) rfl dX2_readChoice_20 ?_
    refine lv_i2c (v := ((S 22 ((S 0 11).toNatClampNeg)).toUInt32 % 65536).toInt32) hx hb dX2_readChoice_21 rfl ?_
    obtain ⟨r9, h8, hf⟩ := b1_s hf
    refine kTi X hw 1 (by decide) rfl (c_J0_indexOf_0f7a4_s1 l D cI cO ad (((S 22 ((S 0 11).toNatClampNeg)).toUInt32 % 65536).toInt32) S r9 h8) ⟨rfl, rfl⟩ q229 q230 q231 q65 q232 hd_J0_indexOf_0f7a4 ⟨Nat.le_of_ble_eq_true rfl, Nat.le_of_ble_eq_true rfl⟩ rfl hl.1 rfl (Nat.le_of_ble_eq_true rfl) dX2_readChoice_22 (fun H locs hw => ?_)
    refine lv_goto (tgt := 29) hx hb dX2_readChoice_25 (by decide) ?_
    exact J29 a1 a2 r9 S hf _ _ _ hw (lv_sub hl [0, 1, 2] rfl)
/-- NineLands$Tape.readSign(C)Z -/
theorem dX2_readSign_0 : decode cX2_readSign 0 = .ok (.aload_n 0, 1) := by decide +kernel
theorem dX2_readSign_1 : decode cX2_readSign 1 = .ok (.getfield 19, 3) := by decide +kernel
theorem dX2_readSign_4 : decode cX2_readSign 4 = .ok (.aload_n 0, 1) := by decide +kernel
theorem dX2_readSign_5 : decode cX2_readSign 5 = .ok (.getfield 15, 3) := by decide +kernel
theorem dX2_readSign_8 : decode cX2_readSign 8 = .ok (.if_icmp .ge 16, 3) := by decide +kernel
theorem dX2_readSign_11 : decode cX2_readSign 11 = .ok (.aload_n 0, 1) := by decide +kernel
theorem dX2_readSign_12 : decode cX2_readSign 12 = .ok (.getfield 9, 3) := by decide +kernel
theorem dX2_readSign_15 : decode cX2_readSign 15 = .ok (.aload_n 0, 1) := by decide +kernel
theorem dX2_readSign_16 : decode cX2_readSign 16 = .ok (.getfield 19, 3) := by decide +kernel
theorem dX2_readSign_19 : decode cX2_readSign 19 = .ok (.iaload, 1) := by decide +kernel
theorem dX2_readSign_20 : decode cX2_readSign 20 = .ok (.iload_n 1, 1) := by decide +kernel
theorem dX2_readSign_21 : decode cX2_readSign 21 = .ok (.if_icmp .eq 5, 3) := by decide +kernel
theorem dX2_readSign_24 : decode cX2_readSign 24 = .ok (.iconst 0, 1) := by decide +kernel
theorem dX2_readSign_25 : decode cX2_readSign 25 = .ok (.ireturn, 1) := by decide +kernel
theorem dX2_readSign_26 : decode cX2_readSign 26 = .ok (.aload_n 0, 1) := by decide +kernel
theorem dX2_readSign_27 : decode cX2_readSign 27 = .ok (.dup, 1) := by decide +kernel
theorem dX2_readSign_28 : decode cX2_readSign 28 = .ok (.getfield 19, 3) := by decide +kernel
theorem dX2_readSign_31 : decode cX2_readSign 31 = .ok (.iconst 1, 1) := by decide +kernel
theorem dX2_readSign_32 : decode cX2_readSign 32 = .ok (.iadd, 1) := by decide +kernel
theorem dX2_readSign_33 : decode cX2_readSign 33 = .ok (.putfield 19, 3) := by decide +kernel
theorem dX2_readSign_36 : decode cX2_readSign 36 = .ok (.iconst 1, 1) := by decide +kernel
theorem dX2_readSign_37 : decode cX2_readSign 37 = .ok (.ireturn, 1) := by decide +kernel
theorem hd_X2_readSign : yX2_readSign.cls ≠ "java/lang/invoke/MethodHandle" ∧ yX2_readSign.cls ≠ "java/lang/invoke/VarHandle" ∧ (parseMethodDescriptor yX2_readSign.desc).map (fun d => d.parameters.length) = some 1 := by decide +kernel
def f_X2_readSign (a1 : Int32) (S : vS) : Option (Int32 × vS) := if (S 0 10) ≤ (S 0 11) then some ((0 : Int32), S) else if inb (S 0 11) 16 = true then if (S 22 ((S 0 11).toNatClampNeg)) = a1 then lt (upk S 0 (upd (S 0) 11 ((S 0 11) + (1 : Int32)))) fun S4 => some ((1 : Int32), S4) else some ((0 : Int32), S) else none
set_option maxHeartbeats 4000000 in
set_option maxRecDepth 20000 in
theorem c_X2_readSign (l : Launch) (D : va_G) (cI cO : ClassId) (ad : Nat → Nat) (a1 : Int32) (S : vS) (R9 : Int32) (S9 : vS) (hf : f_X2_readSign a1 S = some (R9, S9)) : CI l yX2_readSign cX2_readSign 2 .boolean ({ frames := 0, cells := 0, slots := 0, locals := 0 }) [.ref (ad 1), .int a1] D cI cO ad S R9 S9 := by
  refine CI.of (by decide +kernel) (Nat.le_of_ble_eq_true rfl) (fun p e s m args below meth c Q ls X hl hw hfin => ?_)
  have hl : lv_has ls 2 [(0, .ref (ad 1)), (1, .int a1)] := hl
  have hx := X.1
  have hb := X.2.1
  unfold f_X2_readSign at hf
  refine lv_aload_n hx hb dX2_readSign_0 rfl (lv_at hl 0 rfl) ?_
  refine x_get X hw 1 (Nat.le_of_ble_eq_true rfl) ce1 rfl i_X2 2 (by decide) q90 ⟨rfl, rfl, rfl⟩ rfl dX2_readSign_1 ?_
  refine lv_aload_n hx hb dX2_readSign_4 rfl (lv_at hl 0 rfl) ?_
  refine x_get X hw 1 (Nat.le_of_ble_eq_true rfl) ce1 rfl i_X2 1 (by decide) q88 ⟨rfl, rfl, rfl⟩ rfl dX2_readSign_5 ?_
  refine lv_icmp_ge (tgt := 24) hx hb dX2_readSign_8 (by decide) (fun c1 => ?_) (fun c1 => ?_)
  · replace hf := if_t c1 hf
    refine lv_iconst (v := 0) hx hb dX2_readSign_24 (by decide) ?_
    exact hfin _ _ _ _ _ _ hw (s2a hf) (s2b hf) rfl dX2_readSign_25
  · replace hf := if_f c1 hf
    refine lv_aload_n hx hb dX2_readSign_11 rfl (lv_at hl 0 rfl) ?_
    refine x_get X hw 1 (Nat.le_of_ble_eq_true rfl) ce1 rfl i_X2 0 (by decide) q86 ⟨rfl, rfl, rfl⟩ rfl dX2_readSign_12 ?_
    refine lv_aload_n hx hb dX2_readSign_15 rfl (lv_at hl 0 rfl) ?_
    refine x_get X hw 1 (Nat.le_of_ble_eq_true rfl) ce1 rfl i_X2 2 (by decide) q90 ⟨rfl, rfl, rfl⟩ rfl dX2_readSign_16 ?_
    obtain ⟨h2, hf⟩ := if_s hf
    refine x_iald X hw 22 ⟨Nat.le_of_ble_eq_true rfl, Nat.le_of_ble_eq_true rfl⟩ rfl h2 ((S 0 11).toNatClampNeg) rfl dX2_readSign_19 ?_
    refine lv_iload_n hx hb dX2_readSign_20 rfl (lv_at hl 1 rfl) ?_
    refine lv_icmp_eq (tgt := 26) hx hb dX2_readSign_21 (by decide) (fun c3 => ?_) (fun c3 => ?_)
    · replace hf := if_t c3 hf
      refine lv_aload_n hx hb dX2_readSign_26 rfl (lv_at hl 0 rfl) ?_
      refine lv_dup hx hb dX2_readSign_27 rfl ?_
      refine x_get X hw 1 (Nat.le_of_ble_eq_true rfl) ce1 rfl i_X2 2 (by decide) q90 ⟨rfl, rfl, rfl⟩ rfl dX2_readSign_28 ?_
      refine lv_iconst (v := 1) hx hb dX2_readSign_31 (by decide) ?_
      refine lv_iadd hx hb dX2_readSign_32 ?_
      refine x_put X hw 1 (Nat.le_of_ble_eq_true rfl) ce1 rfl i_X2 tyX2_ok nmX2 2 (by decide) q90 ⟨rfl, rfl, rfl⟩ rfl pfI rfl rfl (Nat.le_of_ble_eq_true rfl) 11 (ws_11 _) dX2_readSign_33 (fun S4 eS4 H locs hw => ?_)
      replace hf := lt_e eS4 hf
      refine lv_iconst (v := 1) hx hb dX2_readSign_36 (by decide) ?_
      exact hfin _ _ _ _ _ _ hw (s2a hf) (s2b hf) rfl dX2_readSign_37
    · replace hf := if_f c3 hf
      refine lv_iconst (v := 0) hx hb dX2_readSign_24 (by decide) ?_
      exact hfin _ _ _ _ _ _ hw (s2a hf) (s2b hf) rfl dX2_readSign_25
/-- NineLands$Tape.readNumber([II)Z -/
theorem dX2_readNumber_0 : decode cX2_readNumber 0 = .ok (.iconst 0, 1) := by decide +kernel
theorem dX2_readNumber_1 : decode cX2_readNumber 1 = .ok (.istore_n 3, 1) := by decide +kernel
theorem dX2_readNumber_2 : decode cX2_readNumber 2 = .ok (.iconst 0, 1) := by decide +kernel
theorem dX2_readNumber_3 : decode cX2_readNumber 3 = .ok (.istore 4, 2) := by decide +kernel
theorem dX2_readNumber_5 : decode cX2_readNumber 5 = .ok (.iload 4, 2) := by decide +kernel
theorem dX2_readNumber_7 : decode cX2_readNumber 7 = .ok (.iconst 3, 1) := by decide +kernel
theorem dX2_readNumber_8 : decode cX2_readNumber 8 = .ok (.if_icmp .ge 76, 3) := by decide +kernel
theorem dX2_readNumber_11 : decode cX2_readNumber 11 = .ok (.aload_n 0, 1) := by decide +kernel
theorem dX2_readNumber_12 : decode cX2_readNumber 12 = .ok (.getfield 19, 3) := by decide +kernel
theorem dX2_readNumber_15 : decode cX2_readNumber 15 = .ok (.aload_n 0, 1) := by decide +kernel
theorem dX2_readNumber_16 : decode cX2_readNumber 16 = .ok (.getfield 15, 3) := by decide +kernel
theorem dX2_readNumber_19 : decode cX2_readNumber 19 = .ok (.if_icmp .ge 65, 3) := by decide +kernel
theorem dX2_readNumber_22 : decode cX2_readNumber 22 = .ok (.aload_n 0, 1) := by decide +kernel
theorem dX2_readNumber_23 : decode cX2_readNumber 23 = .ok (.getfield 9, 3) := by decide +kernel
theorem dX2_readNumber_26 : decode cX2_readNumber 26 = .ok (.aload_n 0, 1) := by decide +kernel
theorem dX2_readNumber_27 : decode cX2_readNumber 27 = .ok (.getfield 19, 3) := by decide +kernel
theorem dX2_readNumber_30 : decode cX2_readNumber 30 = .ok (.iaload, 1) := by decide +kernel
theorem dX2_readNumber_31 : decode cX2_readNumber 31 = .ok (.bipush 48, 2) := by decide +kernel
theorem dX2_readNumber_33 : decode cX2_readNumber 33 = .ok (.if_icmp .lt 51, 3) := by decide +kernel
theorem dX2_readNumber_36 : decode cX2_readNumber 36 = .ok (.aload_n 0, 1) := by decide +kernel
theorem dX2_readNumber_37 : decode cX2_readNumber 37 = .ok (.getfield 9, 3) := by decide +kernel
theorem dX2_readNumber_40 : decode cX2_readNumber 40 = .ok (.aload_n 0, 1) := by decide +kernel
theorem dX2_readNumber_41 : decode cX2_readNumber 41 = .ok (.getfield 19, 3) := by decide +kernel
theorem dX2_readNumber_44 : decode cX2_readNumber 44 = .ok (.iaload, 1) := by decide +kernel
theorem dX2_readNumber_45 : decode cX2_readNumber 45 = .ok (.bipush 57, 2) := by decide +kernel
theorem dX2_readNumber_47 : decode cX2_readNumber 47 = .ok (.if_icmp .gt 37, 3) := by decide +kernel
theorem dX2_readNumber_50 : decode cX2_readNumber 50 = .ok (.iload_n 3, 1) := by decide +kernel
theorem dX2_readNumber_51 : decode cX2_readNumber 51 = .ok (.bipush 10, 2) := by decide +kernel
theorem dX2_readNumber_53 : decode cX2_readNumber 53 = .ok (.imul, 1) := by decide +kernel
theorem dX2_readNumber_54 : decode cX2_readNumber 54 = .ok (.aload_n 0, 1) := by decide +kernel
theorem dX2_readNumber_55 : decode cX2_readNumber 55 = .ok (.getfield 9, 3) := by decide +kernel
theorem dX2_readNumber_58 : decode cX2_readNumber 58 = .ok (.aload_n 0, 1) := by decide +kernel
theorem dX2_readNumber_59 : decode cX2_readNumber 59 = .ok (.getfield 19, 3) := by decide +kernel
theorem dX2_readNumber_62 : decode cX2_readNumber 62 = .ok (.iaload, 1) := by decide +kernel
theorem dX2_readNumber_63 : decode cX2_readNumber 63 = .ok (.iadd, 1) := by decide +kernel
theorem dX2_readNumber_64 : decode cX2_readNumber 64 = .ok (.bipush 48, 2) := by decide +kernel
theorem dX2_readNumber_66 : decode cX2_readNumber 66 = .ok (.isub, 1) := by decide +kernel
theorem dX2_readNumber_67 : decode cX2_readNumber 67 = .ok (.istore_n 3, 1) := by decide +kernel
theorem dX2_readNumber_68 : decode cX2_readNumber 68 = .ok (.iinc 4 1, 3) := by decide +kernel
theorem dX2_readNumber_71 : decode cX2_readNumber 71 = .ok (.aload_n 0, 1) := by decide +kernel
theorem dX2_readNumber_72 : decode cX2_readNumber 72 = .ok (.dup, 1) := by decide +kernel
theorem dX2_readNumber_73 : decode cX2_readNumber 73 = .ok (.getfield 19, 3) := by decide +kernel
theorem dX2_readNumber_76 : decode cX2_readNumber 76 = .ok (.iconst 1, 1) := by decide +kernel
theorem dX2_readNumber_77 : decode cX2_readNumber 77 = .ok (.iadd, 1) := by decide +kernel
theorem dX2_readNumber_78 : decode cX2_readNumber 78 = .ok (.putfield 19, 3) := by decide +kernel
theorem dX2_readNumber_81 : decode cX2_readNumber 81 = .ok (.goto (-76), 3) := by decide +kernel
theorem dX2_readNumber_84 : decode cX2_readNumber 84 = .ok (.aload_n 1, 1) := by decide +kernel
theorem dX2_readNumber_85 : decode cX2_readNumber 85 = .ok (.iload_n 2, 1) := by decide +kernel
theorem dX2_readNumber_86 : decode cX2_readNumber 86 = .ok (.iload_n 3, 1) := by decide +kernel
theorem dX2_readNumber_87 : decode cX2_readNumber 87 = .ok (.iastore, 1) := by decide +kernel
theorem dX2_readNumber_88 : decode cX2_readNumber 88 = .ok (.iload 4, 2) := by decide +kernel
theorem dX2_readNumber_90 : decode cX2_readNumber 90 = .ok (.ifCond .le 7, 3) := by decide +kernel
theorem dX2_readNumber_93 : decode cX2_readNumber 93 = .ok (.iconst 1, 1) := by decide +kernel
theorem dX2_readNumber_94 : decode cX2_readNumber 94 = .ok (.goto 4, 3) := by decide +kernel
theorem dX2_readNumber_97 : decode cX2_readNumber 97 = .ok (.iconst 0, 1) := by decide +kernel
theorem dX2_readNumber_98 : decode cX2_readNumber 98 = .ok (.ireturn, 1) := by decide +kernel
theorem hd_X2_readNumber : yX2_readNumber.cls ≠ "java/lang/invoke/MethodHandle" ∧ yX2_readNumber.cls ≠ "java/lang/invoke/VarHandle" ∧ (parseMethodDescriptor yX2_readNumber.desc).map (fun d => d.parameters.length) = some 2 := by decide +kernel
def f_X2_readNumber_L5 : Nat → Nat → Int32 → Int32 → Int32 → vS → Option (Int32 × Int32 × vS)
  | 0, _, _, _, _, _ => none
  | n + 1, x1, x2, x3, x4, S => if (3 : Int32) ≤ x4 then some (x3, x4, S) else if (S 0 10) ≤ (S 0 11) then some (x3, x4, S) else if inb (S 0 11) 16 = true then if (S 22 ((S 0 11).toNatClampNeg)) < (48 : Int32) then some (x3, x4, S) else if (57 : Int32) < (S 22 ((S 0 11).toNatClampNeg)) then some (x3, x4, S) else lt ((((x3 * (10 : Int32)) + (S 22 ((S 0 11).toNatClampNeg))) - (48 : Int32))) fun v6 => lt (upk S 0 (upd (S 0) 11 ((S 0 11) + (1 : Int32)))) fun S7 => (f_X2_readNumber_L5 n) x1 x2 v6 (x4 + 1) S7 else none
def f_X2_readNumber_J84 (x1 : Nat) (x2 : Int32) (x3 : Int32) (x4 : Int32) (S : vS) : Option (Int32 × vS) := if 1 ≤ x1 ∧ x1 ≤ 97 then if inb x2 (alen x1) = true then lt (upk S x1 (upd (S x1) (x2.toNatClampNeg) x3)) fun S13 => if x4 ≤ 0 then some ((0 : Int32), S13) else some ((1 : Int32), S13) else none else none
def f_X2_readNumber (a1 : Nat) (a2 : Int32) (S : vS) : Option (Int32 × vS) := b3 (f_X2_readNumber_L5 FU a1 a2 (0 : Int32) (0 : Int32) S) fun y8 y9 S10 => f_X2_readNumber_J84 a1 a2 y8 y9 S10
set_option maxHeartbeats 4000000 in
set_option maxRecDepth 20000 in
theorem c_X2_readNumber (l : Launch) (D : va_G) (cI cO : ClassId) (ad : Nat → Nat) (a1 : Nat) (a2 : Int32) (S : vS) (R9 : Int32) (S9 : vS) (hf : f_X2_readNumber a1 a2 S = some (R9, S9)) : CI l yX2_readNumber cX2_readNumber 5 .boolean ({ frames := 0, cells := 0, slots := 0, locals := 0 }) [.ref (ad 1), .ref (ar ad a1), .int a2] D cI cO ad S R9 S9 := by
  refine CI.of (by decide +kernel) (Nat.le_of_ble_eq_true rfl) (fun p e s m args below meth c Q ls X hl hw hfin => ?_)
  have hl : lv_has ls 5 [(0, .ref (ad 1)), (1, .ref (ar ad a1)), (2, .int a2)] := hl
  have hx := X.1
  have hb := X.2.1
  have L5 : ∀ (n : Nat) (x1 : Nat) (x2 : Int32) (x3 : Int32) (x4 : Int32) (S : vS) (res : (Int32 × Int32 × vS)), f_X2_readNumber_L5 n x1 x2 x3 x4 S = some res → (K : ∀ (y3 : Int32) (y4 : Int32) (S2 : vS), some (y3, y4, S2) = some res → ∀ (H : Heap) (locs : List Loc) (ls : Array Slot), WD D cI cO ad s S2 H locs → lv_has ls 5 [(1, .ref (ar ad x1)), (2, .int x2), (3, .int y3), (4, .int y4)] → W p l e ({ frames := 0, cells := 0, slots := 0, locals := 0 }) s m args below meth c H locs 0 0 Q (F0 m 84 ls [])) → ∀ (H : Heap) (locs : List Loc) (ls : Array Slot), WD D cI cO ad s S H locs → lv_has ls 5 [(0, .ref (ad 1)), (1, .ref (ar ad x1)), (2, .int x2), (3, .int x3), (4, .int x4)] → W p l e ({ frames := 0, cells := 0, slots := 0, locals := 0 }) s m args below meth c H locs 0 0 Q (F0 m 5 ls []) := by
    intro n
    induction n with
    | zero => intro x1 x2 x3 x4 S res hf; cases hf
    | succ n ih =>
      intro x1 x2 x3 x4 S res hf K H locs ls hw hl
      unfold f_X2_readNumber_L5 at hf
      refine lv_iload hx hb dX2_readNumber_5 (lv_at hl 4 rfl) ?_
      refine lv_iconst (v := 3) hx hb dX2_readNumber_7 (by decide) ?_
      refine lv_icmp_ge (tgt := 84) hx hb dX2_readNumber_8 (by decide) (fun c1 => ?_) (fun c1 => ?_)
      · replace hf := if_t c1 hf
        exact K x3 x4 S hf _ _ _ hw (lv_sub hl [1, 2, 3, 4] rfl)
      · replace hf := if_f c1 hf
        refine lv_aload_n hx hb dX2_readNumber_11 rfl (lv_at hl 0 rfl) ?_
        refine x_get X hw 1 (Nat.le_of_ble_eq_true rfl) ce1 rfl i_X2 2 (by decide) q90 ⟨rfl, rfl, rfl⟩ rfl dX2_readNumber_12 ?_
        refine lv_aload_n hx hb dX2_readNumber_15 rfl (lv_at hl 0 rfl) ?_
        refine x_get X hw 1 (Nat.le_of_ble_eq_true rfl) ce1 rfl i_X2 1 (by decide) q88 ⟨rfl, rfl, rfl⟩ rfl dX2_readNumber_16 ?_
        refine lv_icmp_ge (tgt := 84) hx hb dX2_readNumber_19 (by decide) (fun c2 => ?_) (fun c2 => ?_)
        · replace hf := if_t c2 hf
          exact K x3 x4 S hf _ _ _ hw (lv_sub hl [1, 2, 3, 4] rfl)
        · replace hf := if_f c2 hf
          refine lv_aload_n hx hb dX2_readNumber_22 rfl (lv_at hl 0 rfl) ?_
          refine x_get X hw 1 (Nat.le_of_ble_eq_true rfl) ce1 rfl i_X2 0 (by decide) q86 ⟨rfl, rfl, rfl⟩ rfl dX2_readNumber_23 ?_
          refine lv_aload_n hx hb dX2_readNumber_26 rfl (lv_at hl 0 rfl) ?_
          refine x_get X hw 1 (Nat.le_of_ble_eq_true rfl) ce1 rfl i_X2 2 (by decide) q90 ⟨rfl, rfl, rfl⟩ rfl dX2_readNumber_27 ?_
          obtain ⟨h3, hf⟩ := if_s hf
          refine x_iald X hw 22 ⟨Nat.le_of_ble_eq_true rfl, Nat.le_of_ble_eq_true rfl⟩ rfl h3 ((S 0 11).toNatClampNeg) rfl dX2_readNumber_30 ?_
          refine lv_bipush (v := 48) hx hb dX2_readNumber_31 (by decide +kernel) ?_
          refine lv_icmp_lt (tgt := 84) hx hb dX2_readNumber_33 (by decide) (fun c4 => ?_) (fun c4 => ?_)
          · replace hf := if_t c4 hf
            exact K x3 x4 S hf _ _ _ hw (lv_sub hl [1, 2, 3, 4] rfl)
          · replace hf := if_f c4 hf
            refine lv_aload_n hx hb dX2_readNumber_36 rfl (lv_at hl 0 rfl) ?_
            refine x_get X hw 1 (Nat.le_of_ble_eq_true rfl) ce1 rfl i_X2 0 (by decide) q86 ⟨rfl, rfl, rfl⟩ rfl dX2_readNumber_37 ?_
            refine lv_aload_n hx hb dX2_readNumber_40 rfl (lv_at hl 0 rfl) ?_
            refine x_get X hw 1 (Nat.le_of_ble_eq_true rfl) ce1 rfl i_X2 2 (by decide) q90 ⟨rfl, rfl, rfl⟩ rfl dX2_readNumber_41 ?_
            refine x_iald X hw 22 ⟨Nat.le_of_ble_eq_true rfl, Nat.le_of_ble_eq_true rfl⟩ rfl h3 ((S 0 11).toNatClampNeg) rfl dX2_readNumber_44 ?_
            refine lv_bipush (v := 57) hx hb dX2_readNumber_45 (by decide +kernel) ?_
            refine lv_icmp_gt (tgt := 84) hx hb dX2_readNumber_47 (by decide) (fun c5 => ?_) (fun c5 => ?_)
            · replace hf := if_t c5 hf
              exact K x3 x4 S hf _ _ _ hw (lv_sub hl [1, 2, 3, 4] rfl)
            · replace hf := if_f c5 hf
              refine lv_iload_n hx hb dX2_readNumber_50 rfl (lv_at hl 3 rfl) ?_
              refine lv_bipush (v := 10) hx hb dX2_readNumber_51 (by decide +kernel) ?_
              refine lv_imul hx hb dX2_readNumber_53 ?_
              refine lv_aload_n hx hb dX2_readNumber_54 rfl (lv_at hl 0 rfl) ?_
              refine x_get X hw 1 (Nat.le_of_ble_eq_true rfl) ce1 rfl i_X2 0 (by decide) q86 ⟨rfl, rfl, rfl⟩ rfl dX2_readNumber_55 ?_
              refine lv_aload_n hx hb dX2_readNumber_58 rfl (lv_at hl 0 rfl) ?_
              refine x_get X hw 1 (Nat.le_of_ble_eq_true rfl) ce1 rfl i_X2 2 (by decide) q90 ⟨rfl, rfl, rfl⟩ rfl dX2_readNumber_59 ?_
              refine x_iald X hw 22 ⟨Nat.le_of_ble_eq_true rfl, Nat.le_of_ble_eq_true rfl⟩ rfl h3 ((S 0 11).toNatClampNeg) rfl dX2_readNumber_62 ?_
              refine lv_iadd hx hb dX2_readNumber_63 ?_
              refine lv_bipush (v := 48) hx hb dX2_readNumber_64 (by decide +kernel) ?_
              refine lv_isub hx hb dX2_readNumber_66 ?_
              refine lv_topi (fun v6 ev6 => ?_)
              replace hf := lt_e ev6 hf
              refine lv_istore_n (lv' := [(3, .int v6), (0, .ref (ad 1)), (1, .ref (ar ad x1)), (2, .int x2), (4, .int x4)]) hx hb dX2_readNumber_67 rfl hl (by decide) rfl (fun ls hl => ?_)
              refine lv_iinc (v := (x4 + 1)) (lv' := [(4, .int (x4 + 1)), (3, .int v6), (0, .ref (ad 1)), (1, .ref (ar ad x1)), (2, .int x2)]) hx hb dX2_readNumber_68 hl (k := 4) rfl rfl (by decide) rfl (fun ls hl => ?_)
              refine lv_aload_n hx hb dX2_readNumber_71 rfl (lv_at hl 2 rfl) ?_
              refine lv_dup hx hb dX2_readNumber_72 rfl ?_
              refine x_get X hw 1 (Nat.le_of_ble_eq_true rfl) ce1 rfl i_X2 2 (by decide) q90 ⟨rfl, rfl, rfl⟩ rfl dX2_readNumber_73 ?_
              refine lv_iconst (v := 1) hx hb dX2_readNumber_76 (by decide) ?_
              refine lv_iadd hx hb dX2_readNumber_77 ?_
              refine x_put X hw 1 (Nat.le_of_ble_eq_true rfl) ce1 rfl i_X2 tyX2_ok nmX2 2 (by decide) q90 ⟨rfl, rfl, rfl⟩ rfl pfI rfl rfl (Nat.le_of_ble_eq_true rfl) 11 (ws_11 _) dX2_readNumber_78 (fun S7 eS7 H locs hw => ?_)
              replace hf := lt_e eS7 hf
              refine lv_goto (tgt := 5) hx hb dX2_readNumber_81 (by decide) ?_
              exact ih x1 x2 v6 (x4 + 1) S7 _ hf K _ _ _ hw (lv_sub hl [2, 3, 4, 1, 0] rfl)
  have J84 : ∀ (x1 : Nat) (x2 : Int32) (x3 : Int32) (x4 : Int32) (S : vS), f_X2_readNumber_J84 x1 x2 x3 x4 S = some (R9, S9) → ∀ (H : Heap) (locs : List Loc) (ls : Array Slot), WD D cI cO ad s S H locs → lv_has ls 5 [(1, .ref (ar ad x1)), (2, .int x2), (3, .int x3), (4, .int x4)] → W p l e ({ frames := 0, cells := 0, slots := 0, locals := 0 }) s m args below meth c H locs 0 0 Q (F0 m 84 ls []) := by
    intro x1 x2 x3 x4 S hf H locs ls hw hl
    unfold f_X2_readNumber_J84 at hf
    refine lv_aload_n hx hb dX2_readNumber_84 rfl (lv_at hl 0 rfl) ?_
    refine lv_iload_n hx hb dX2_readNumber_85 rfl (lv_at hl 1 rfl) ?_
    refine lv_iload_n hx hb dX2_readNumber_86 rfl (lv_at hl 2 rfl) ?_
    obtain ⟨h11, hf⟩ := if_s hf
    obtain ⟨h12, hf⟩ := if_s hf
    refine x_iast X hw x1 h11 rfl h12 (x2.toNatClampNeg) rfl dX2_readNumber_87 (fun S13 eS13 H locs hw => ?_)
    replace hf := lt_e eS13 hf
    refine lv_iload hx hb dX2_readNumber_88 (lv_at hl 3 rfl) ?_
    refine lv_if_le (tgt := 97) hx hb dX2_readNumber_90 (by decide) (fun c14 => ?_) (fun c14 => ?_)
    · replace hf := if_t c14 hf
      refine lv_iconst (v := 0) hx hb dX2_readNumber_97 (by decide) ?_
      exact hfin _ _ _ _ _ _ hw (s2a hf) (s2b hf) rfl dX2_readNumber_98
    · replace hf := if_f c14 hf
      refine lv_iconst (v := 1) hx hb dX2_readNumber_93 (by decide) ?_
      refine lv_goto (tgt := 98) hx hb dX2_readNumber_94 (by decide) ?_
      exact hfin _ _ _ _ _ _ hw (s2a hf) (s2b hf) rfl dX2_readNumber_98
  unfold f_X2_readNumber at hf
  refine lv_iconst (v := 0) hx hb dX2_readNumber_0 (by decide) ?_
  refine lv_istore_n (lv' := [(3, .int (0 : Int32)), (0, .ref (ad 1)), (1, .ref (ar ad a1)), (2, .int a2)]) hx hb dX2_readNumber_1 rfl hl (by decide) rfl (fun ls hl => ?_)
  refine lv_iconst (v := 0) hx hb dX2_readNumber_2 (by decide) ?_
  refine lv_istore (lv' := [(4, .int (0 : Int32)), (3, .int (0 : Int32)), (0, .ref (ad 1)), (1, .ref (ar ad a1)), (2, .int a2)]) hx hb dX2_readNumber_3 hl (by decide) rfl (fun ls hl => ?_)
  obtain ⟨y8, y9, S10, h15, hf⟩ := b3_s hf
  refine L5 FU a1 a2 (0 : Int32) (0 : Int32) S _ h15 (fun y8' y9' S10' eK H locs ls hw hl => ?_) _ _ _ hw (lv_sub hl [2, 3, 4, 1, 0] rfl)
  cases eK
  exact J84 a1 a2 y8 y9 S10 hf _ _ _ hw hl
/-- NineLands$Tape.readTill([I)Z -/
theorem dX2_readTill_0 : decode cX2_readTill 0 = .ok (.aload_n 0, 1) := by decide +kernel
theorem dX2_readTill_1 : decode cX2_readTill 1 = .ok (.getfield 19, 3) := by decide +kernel
theorem dX2_readTill_4 : decode cX2_readTill 4 = .ok (.istore_n 2, 1) := by decide +kernel
theorem dX2_readTill_5 : decode cX2_readTill 5 = .ok (.aload_n 0, 1) := by decide +kernel
theorem dX2_readTill_6 : decode cX2_readTill 6 = .ok (.aload_n 1, 1) := by decide +kernel
theorem dX2_readTill_7 : decode cX2_readTill 7 = .ok (.iconst 3, 1) := by decide +kernel
theorem dX2_readTill_8 : decode cX2_readTill 8 = .ok (.invokevirtual 30, 3) := by decide +kernel
theorem dX2_readTill_11 : decode cX2_readTill 11 = .ok (.ifCond .ne 5, 3) := by decide +kernel
theorem dX2_readTill_14 : decode cX2_readTill 14 = .ok (.iconst 0, 1) := by decide +kernel
theorem dX2_readTill_15 : decode cX2_readTill 15 = .ok (.ireturn, 1) := by decide +kernel
theorem dX2_readTill_16 : decode cX2_readTill 16 = .ok (.aload_n 1, 1) := by decide +kernel
theorem dX2_readTill_17 : decode cX2_readTill 17 = .ok (.iconst 3, 1) := by decide +kernel
theorem dX2_readTill_18 : decode cX2_readTill 18 = .ok (.iaload, 1) := by decide +kernel
theorem dX2_readTill_19 : decode cX2_readTill 19 = .ok (.aload_n 1, 1) := by decide +kernel
theorem dX2_readTill_20 : decode cX2_readTill 20 = .ok (.iconst 2, 1) := by decide +kernel
theorem dX2_readTill_21 : decode cX2_readTill 21 = .ok (.iaload, 1) := by decide +kernel
theorem dX2_readTill_22 : decode cX2_readTill 22 = .ok (.if_icmp .le 14, 3) := by decide +kernel
theorem dX2_readTill_25 : decode cX2_readTill 25 = .ok (.aload_n 1, 1) := by decide +kernel
theorem dX2_readTill_26 : decode cX2_readTill 26 = .ok (.iconst 3, 1) := by decide +kernel
theorem dX2_readTill_27 : decode cX2_readTill 27 = .ok (.iaload, 1) := by decide +kernel
theorem dX2_readTill_28 : decode cX2_readTill 28 = .ok (.sipush 900, 3) := by decide +kernel
theorem dX2_readTill_31 : decode cX2_readTill 31 = .ok (.if_icmp .gt 5, 3) := by decide +kernel
theorem dX2_readTill_34 : decode cX2_readTill 34 = .ok (.iconst 1, 1) := by decide +kernel
theorem dX2_readTill_35 : decode cX2_readTill 35 = .ok (.ireturn, 1) := by decide +kernel
theorem dX2_readTill_36 : decode cX2_readTill 36 = .ok (.aload_n 0, 1) := by decide +kernel
theorem dX2_readTill_37 : decode cX2_readTill 37 = .ok (.iload_n 2, 1) := by decide +kernel
theorem dX2_readTill_38 : decode cX2_readTill 38 = .ok (.putfield 19, 3) := by decide +kernel
theorem dX2_readTill_41 : decode cX2_readTill 41 = .ok (.iconst 0, 1) := by decide +kernel
theorem dX2_readTill_42 : decode cX2_readTill 42 = .ok (.ireturn, 1) := by decide +kernel
theorem hd_X2_readTill : yX2_readTill.cls ≠ "java/lang/invoke/MethodHandle" ∧ yX2_readTill.cls ≠ "java/lang/invoke/VarHandle" ∧ (parseMethodDescriptor yX2_readTill.desc).map (fun d => d.parameters.length) = some 1 := by decide +kernel
def f_X2_readTill (a1 : Nat) (S : vS) : Option (Int32 × vS) := b2 (f_X2_readNumber a1 (3 : Int32) S) fun r3 S2 => if r3 = 0 then some ((0 : Int32), S2) else if 1 ≤ a1 ∧ a1 ≤ 97 then if inb (3 : Int32) (alen a1) = true then if inb (2 : Int32) (alen a1) = true then if (S2 a1 3) ≤ (S2 a1 2) then lt (upk S2 0 (upd (S2 0) 11 (S 0 11))) fun S9 => some ((0 : Int32), S9) else if (900 : Int32) < (S2 a1 3) then lt (upk S2 0 (upd (S2 0) 11 (S 0 11))) fun S11 => some ((0 : Int32), S11) else some ((1 : Int32), S2) else none else none else none
set_option maxHeartbeats 4000000 in
set_option maxRecDepth 20000 in
theorem c_X2_readTill (l : Launch) (D : va_G) (cI cO : ClassId) (ad : Nat → Nat) (a1 : Nat) (S : vS) (R9 : Int32) (S9 : vS) (hf : f_X2_readTill a1 S = some (R9, S9)) : CI l yX2_readTill cX2_readTill 3 .boolean ({ frames := 1, cells := 0, slots := 0, locals := 24 }) [.ref (ad 1), .ref (ar ad a1)] D cI cO ad S R9 S9 := by
  refine CI.of (by decide +kernel) (Nat.le_of_ble_eq_true rfl) (fun p e s m args below meth c Q ls X hl hw hfin => ?_)
  have hl : lv_has ls 3 [(0, .ref (ad 1)), (1, .ref (ar ad a1))] := hl
  have hx := X.1
  have hb := X.2.1
  unfold f_X2_readTill at hf
  refine lv_aload_n hx hb dX2_readTill_0 rfl (lv_at hl 0 rfl) ?_
  refine x_get X hw 1 (Nat.le_of_ble_eq_true rfl) ce1 rfl i_X2 2 (by decide) q90 ⟨rfl, rfl, rfl⟩ rfl dX2_readTill_1 ?_
  refine lv_istore_n (lv' := [(2, .int (S 0 11)), (0, .ref (ad 1)), (1, .ref (ar ad a1))]) hx hb dX2_readTill_4 rfl hl (by decide) rfl (fun ls hl => ?_)
  refine lv_aload_n hx hb dX2_readTill_5 rfl (lv_at hl 1 rfl) ?_
  refine lv_aload_n hx hb dX2_readTill_6 rfl (lv_at hl 2 rfl) ?_
  refine lv_iconst (v := 3) hx hb dX2_readTill_7 (by decide) ?_
  obtain ⟨r3, S2, h1, hf⟩ := b2_s hf
  refine kVi X hw (c_X2_readNumber l D cI cO ad a1 (3 : Int32) S r3 S2 h1) (Nat.le_of_ble_eq_true rfl) ce1 rfl ⟨rfl, rfl⟩ q316 q318 q3 q60 q319 hd_X2_readNumber ⟨Nat.le_of_ble_eq_true rfl, Nat.le_of_ble_eq_true rfl⟩ rfl hl.1 rfl (Nat.le_of_ble_eq_true rfl) dX2_readTill_8 (fun H locs hw => ?_)
  refine lv_if_ne (tgt := 16) hx hb dX2_readTill_11 (by decide) (fun c4 => ?_) (fun c4 => ?_)
  · replace hf := if_f c4 hf
    refine lv_aload_n hx hb dX2_readTill_16 rfl (lv_at hl 2 rfl) ?_
    refine lv_iconst (v := 3) hx hb dX2_readTill_17 (by decide) ?_
    obtain ⟨h5, hf⟩ := if_s hf
    obtain ⟨h6, hf⟩ := if_s hf
    refine x_iald X hw a1 h5 rfl h6 3 (by decide) dX2_readTill_18 ?_
    refine lv_aload_n hx hb dX2_readTill_19 rfl (lv_at hl 2 rfl) ?_
    refine lv_iconst (v := 2) hx hb dX2_readTill_20 (by decide) ?_
    obtain ⟨h7, hf⟩ := if_s hf
    refine x_iald X hw a1 h5 rfl h7 2 (by decide) dX2_readTill_21 ?_
    refine lv_icmp_le (tgt := 36) hx hb dX2_readTill_22 (by decide) (fun c8 => ?_) (fun c8 => ?_)
    · replace hf := if_t c8 hf
      refine lv_aload_n hx hb dX2_readTill_36 rfl (lv_at hl 1 rfl) ?_
      refine lv_iload_n hx hb dX2_readTill_37 rfl (lv_at hl 0 rfl) ?_
      refine x_put X hw 1 (Nat.le_of_ble_eq_true rfl) ce1 rfl i_X2 tyX2_ok nmX2 2 (by decide) q90 ⟨rfl, rfl, rfl⟩ rfl pfI rfl rfl (Nat.le_of_ble_eq_true rfl) 11 (ws_11 _) dX2_readTill_38 (fun S9 eS9 H locs hw => ?_)
      replace hf := lt_e eS9 hf
      refine lv_iconst (v := 0) hx hb dX2_readTill_41 (by decide) ?_
      exact hfin _ _ _ _ _ _ hw (s2a hf) (s2b hf) rfl dX2_readTill_42
    · replace hf := if_f c8 hf
      refine lv_aload_n hx hb dX2_readTill_25 rfl (lv_at hl 2 rfl) ?_
      refine lv_iconst (v := 3) hx hb dX2_readTill_26 (by decide) ?_
      refine x_iald X hw a1 h5 rfl h6 3 (by decide) dX2_readTill_27 ?_
      refine lv_sipush (v := 900) hx hb dX2_readTill_28 (by decide +kernel) ?_
      refine lv_icmp_gt (tgt := 36) hx hb dX2_readTill_31 (by decide) (fun c10 => ?_) (fun c10 => ?_)
      · replace hf := if_t c10 hf
        refine lv_aload_n hx hb dX2_readTill_36 rfl (lv_at hl 1 rfl) ?_
        refine lv_iload_n hx hb dX2_readTill_37 rfl (lv_at hl 0 rfl) ?_
        refine x_put X hw 1 (Nat.le_of_ble_eq_true rfl) ce1 rfl i_X2 tyX2_ok nmX2 2 (by decide) q90 ⟨rfl, rfl, rfl⟩ rfl pfI rfl rfl (Nat.le_of_ble_eq_true rfl) 11 (ws_11 _) dX2_readTill_38 (fun S11 eS11 H locs hw => ?_)
        replace hf := lt_e eS11 hf
        refine lv_iconst (v := 0) hx hb dX2_readTill_41 (by decide) ?_
        exact hfin _ _ _ _ _ _ hw (s2a hf) (s2b hf) rfl dX2_readTill_42
      · replace hf := if_f c10 hf
        refine lv_iconst (v := 1) hx hb dX2_readTill_34 (by decide) ?_
        exact hfin _ _ _ _ _ _ hw (s2a hf) (s2b hf) rfl dX2_readTill_35
  · replace hf := if_t c4 hf
    refine lv_iconst (v := 0) hx hb dX2_readTill_14 (by decide) ?_
    exact hfin _ _ _ _ _ _ hw (s2a hf) (s2b hf) rfl dX2_readTill_15
/-- NineLands$Tape.readInto([I)Z -/
theorem dX2_readInto_0 : decode cX2_readInto 0 = .ok (.aload_n 0, 1) := by decide +kernel
theorem dX2_readInto_1 : decode cX2_readInto 1 = .ok (.iconst 0, 1) := by decide +kernel
theorem dX2_readInto_2 : decode cX2_readInto 2 = .ok (.putfield 19, 3) := by decide +kernel
theorem dX2_readInto_5 : decode cX2_readInto 5 = .ok (.aload_n 0, 1) := by decide +kernel
theorem dX2_readInto_6 : decode cX2_readInto 6 = .ok (.aload_n 1, 1) := by decide +kernel
theorem dX2_readInto_7 : decode cX2_readInto 7 = .ok (.iconst 0, 1) := by decide +kernel
theorem dX2_readInto_8 : decode cX2_readInto 8 = .ok (.ldc 22, 2) := by decide +kernel
theorem dX2_readInto_10 : decode cX2_readInto 10 = .ok (.invokevirtual 24, 3) := by decide +kernel
theorem dX2_readInto_13 : decode cX2_readInto 13 = .ok (.ifCond .eq 62, 3) := by decide +kernel
theorem dX2_readInto_16 : decode cX2_readInto 16 = .ok (.aload_n 0, 1) := by decide +kernel
theorem dX2_readInto_17 : decode cX2_readInto 17 = .ok (.aload_n 1, 1) := by decide +kernel
theorem dX2_readInto_18 : decode cX2_readInto 18 = .ok (.iconst 1, 1) := by decide +kernel
theorem dX2_readInto_19 : decode cX2_readInto 19 = .ok (.ldc 28, 2) := by decide +kernel
theorem dX2_readInto_21 : decode cX2_readInto 21 = .ok (.invokevirtual 24, 3) := by decide +kernel
theorem dX2_readInto_24 : decode cX2_readInto 24 = .ok (.ifCond .eq 51, 3) := by decide +kernel
theorem dX2_readInto_27 : decode cX2_readInto 27 = .ok (.aload_n 0, 1) := by decide +kernel
theorem dX2_readInto_28 : decode cX2_readInto 28 = .ok (.aload_n 1, 1) := by decide +kernel
theorem dX2_readInto_29 : decode cX2_readInto 29 = .ok (.iconst 2, 1) := by decide +kernel
theorem dX2_readInto_30 : decode cX2_readInto 30 = .ok (.invokevirtual 30, 3) := by decide +kernel
theorem dX2_readInto_33 : decode cX2_readInto 33 = .ok (.ifCond .eq 42, 3) := by decide +kernel
theorem dX2_readInto_36 : decode cX2_readInto 36 = .ok (.aload_n 0, 1) := by decide +kernel
theorem dX2_readInto_37 : decode cX2_readInto 37 = .ok (.bipush 45, 2) := by decide +kernel
theorem dX2_readInto_39 : decode cX2_readInto 39 = .ok (.invokevirtual 34, 3) := by decide +kernel
theorem dX2_readInto_42 : decode cX2_readInto 42 = .ok (.ifCond .eq 33, 3) := by decide +kernel
theorem dX2_readInto_45 : decode cX2_readInto 45 = .ok (.aload_n 0, 1) := by decide +kernel
theorem dX2_readInto_46 : decode cX2_readInto 46 = .ok (.aload_n 1, 1) := by decide +kernel
theorem dX2_readInto_47 : decode cX2_readInto 47 = .ok (.invokevirtual 38, 3) := by decide +kernel
theorem dX2_readInto_50 : decode cX2_readInto 50 = .ok (.ifCond .eq 25, 3) := by decide +kernel
theorem dX2_readInto_53 : decode cX2_readInto 53 = .ok (.aload_n 0, 1) := by decide +kernel
theorem dX2_readInto_54 : decode cX2_readInto 54 = .ok (.bipush 42, 2) := by decide +kernel
theorem dX2_readInto_56 : decode cX2_readInto 56 = .ok (.invokevirtual 34, 3) := by decide +kernel
theorem dX2_readInto_59 : decode cX2_readInto 59 = .ok (.ifCond .eq 16, 3) := by decide +kernel
theorem dX2_readInto_62 : decode cX2_readInto 62 = .ok (.aload_n 0, 1) := by decide +kernel
theorem dX2_readInto_63 : decode cX2_readInto 63 = .ok (.aload_n 1, 1) := by decide +kernel
theorem dX2_readInto_64 : decode cX2_readInto 64 = .ok (.iconst 4, 1) := by decide +kernel
theorem dX2_readInto_65 : decode cX2_readInto 65 = .ok (.invokevirtual 30, 3) := by decide +kernel
theorem dX2_readInto_68 : decode cX2_readInto 68 = .ok (.ifCond .eq 7, 3) := by decide +kernel
theorem dX2_readInto_71 : decode cX2_readInto 71 = .ok (.iconst 1, 1) := by decide +kernel
theorem dX2_readInto_72 : decode cX2_readInto 72 = .ok (.goto 4, 3) := by decide +kernel
theorem dX2_readInto_75 : decode cX2_readInto 75 = .ok (.iconst 0, 1) := by decide +kernel
theorem dX2_readInto_76 : decode cX2_readInto 76 = .ok (.istore_n 2, 1) := by decide +kernel
theorem dX2_readInto_77 : decode cX2_readInto 77 = .ok (.iload_n 2, 1) := by decide +kernel
theorem dX2_readInto_78 : decode cX2_readInto 78 = .ok (.ifCond .ne 5, 3) := by decide +kernel
theorem dX2_readInto_81 : decode cX2_readInto 81 = .ok (.iconst 0, 1) := by decide +kernel
theorem dX2_readInto_82 : decode cX2_readInto 82 = .ok (.ireturn, 1) := by decide +kernel
theorem dX2_readInto_83 : decode cX2_readInto 83 = .ok (.aload_n 1, 1) := by decide +kernel
theorem dX2_readInto_84 : decode cX2_readInto 84 = .ok (.iconst 5, 1) := by decide +kernel
theorem dX2_readInto_85 : decode cX2_readInto 85 = .ok (.aload_n 0, 1) := by decide +kernel
theorem dX2_readInto_86 : decode cX2_readInto 86 = .ok (.bipush 33, 2) := by decide +kernel
theorem dX2_readInto_88 : decode cX2_readInto 88 = .ok (.invokevirtual 34, 3) := by decide +kernel
theorem dX2_readInto_91 : decode cX2_readInto 91 = .ok (.ifCond .eq 7, 3) := by decide +kernel
theorem dX2_readInto_94 : decode cX2_readInto 94 = .ok (.iconst 0, 1) := by decide +kernel
theorem dX2_readInto_95 : decode cX2_readInto 95 = .ok (.goto 4, 3) := by decide +kernel
theorem dX2_readInto_98 : decode cX2_readInto 98 = .ok (.iconst 1, 1) := by decide +kernel
theorem dX2_readInto_99 : decode cX2_readInto 99 = .ok (.iastore, 1) := by decide +kernel
theorem dX2_readInto_100 : decode cX2_readInto 100 = .ok (.aload_n 1, 1) := by decide +kernel
theorem dX2_readInto_101 : decode cX2_readInto 101 = .ok (.bipush 6, 2) := by decide +kernel
theorem dX2_readInto_103 : decode cX2_readInto 103 = .ok (.iconst 1, 1) := by decide +kernel
theorem dX2_readInto_104 : decode cX2_readInto 104 = .ok (.iastore, 1) := by decide +kernel
theorem dX2_readInto_105 : decode cX2_readInto 105 = .ok (.aload_n 0, 1) := by decide +kernel
theorem dX2_readInto_106 : decode cX2_readInto 106 = .ok (.getfield 19, 3) := by decide +kernel
theorem dX2_readInto_109 : decode cX2_readInto 109 = .ok (.aload_n 0, 1) := by decide +kernel
theorem dX2_readInto_110 : decode cX2_readInto 110 = .ok (.getfield 15, 3) := by decide +kernel
theorem dX2_readInto_113 : decode cX2_readInto 113 = .ok (.if_icmp .ne 7, 3) := by decide +kernel
theorem dX2_readInto_116 : decode cX2_readInto 116 = .ok (.iconst 1, 1) := by decide +kernel
theorem dX2_readInto_117 : decode cX2_readInto 117 = .ok (.goto 4, 3) := by decide +kernel
theorem dX2_readInto_120 : decode cX2_readInto 120 = .ok (.iconst 0, 1) := by decide +kernel
theorem dX2_readInto_121 : decode cX2_readInto 121 = .ok (.ireturn, 1) := by decide +kernel
theorem hd_X2_readInto : yX2_readInto.cls ≠ "java/lang/invoke/MethodHandle" ∧ yX2_readInto.cls ≠ "java/lang/invoke/VarHandle" ∧ (parseMethodDescriptor yX2_readInto.desc).map (fun d => d.parameters.length) = some 1 := by decide +kernel
def f_X2_readInto_J76 (x1 : Nat) (k0 : Int32) (S : vS) : Option (Int32 × vS) := if k0 = 0 then some ((0 : Int32), S) else b2 (f_X2_readSign (33 : Int32) S) fun r9 S8 => if r9 = 0 then if 1 ≤ x1 ∧ x1 ≤ 97 then if inb (5 : Int32) (alen x1) = true then lt (upk S8 x1 (upd (S8 x1) 5 (1 : Int32))) fun S13 => if inb (6 : Int32) (alen x1) = true then lt (upk S13 x1 (upd (S13 x1) 6 (1 : Int32))) fun S15 => if (S15 0 11) = (S15 0 10) then some ((1 : Int32), S15) else some ((0 : Int32), S15) else none else none else none else if 1 ≤ x1 ∧ x1 ≤ 97 then if inb (5 : Int32) (alen x1) = true then lt (upk S8 x1 (upd (S8 x1) 5 (0 : Int32))) fun S19 => if inb (6 : Int32) (alen x1) = true then lt (upk S19 x1 (upd (S19 x1) 6 (1 : Int32))) fun S21 => if (S21 0 11) = (S21 0 10) then some ((1 : Int32), S21) else some ((0 : Int32), S21) else none else none else none
def f_X2_readInto_J75 (x1 : Nat) (S : vS) : Option (Int32 × vS) := f_X2_readInto_J76 x1 (0 : Int32) S
def f_X2_readInto (a1 : Nat) (S : vS) : Option (Int32 × vS) := lt (upk S 0 (upd (S 0) 11 (0 : Int32))) fun S1 => b2 (f_X2_readChoice_s0 a1 (0 : Int32) S1) fun r4 S3 => if r4 = 0 then f_X2_readInto_J75 a1 S3 else b2 (f_X2_readChoice_s1 a1 (1 : Int32) S3) fun r25 S24 => if r25 = 0 then f_X2_readInto_J75 a1 S24 else b2 (f_X2_readNumber a1 (2 : Int32) S24) fun r29 S28 => if r29 = 0 then f_X2_readInto_J75 a1 S28 else b2 (f_X2_readSign (45 : Int32) S28) fun r33 S32 => if r33 = 0 then f_X2_readInto_J75 a1 S32 else b2 (f_X2_readTill a1 S32) fun r37 S36 => if r37 = 0 then f_X2_readInto_J75 a1 S36 else b2 (f_X2_readSign (42 : Int32) S36) fun r41 S40 => if r41 = 0 then f_X2_readInto_J75 a1 S40 else b2 (f_X2_readNumber a1 (4 : Int32) S40) fun r45 S44 => if r45 = 0 then f_X2_readInto_J75 a1 S44 else f_X2_readInto_J76 a1 (1 : Int32) S44
set_option maxHeartbeats 4000000 in
set_option maxRecDepth 20000 in
theorem c_X2_readInto (l : Launch) (D : va_G) (cI cO : ClassId) (ad : Nat → Nat) (a1 : Nat) (S : vS) (R9 : Int32) (S9 : vS) (hf : f_X2_readInto a1 S = some (R9, S9)) : CI l yX2_readInto cX2_readInto 3 .boolean ({ frames := 5, cells := 0, slots := 0, locals := 115 }) [.ref (ad 1), .ref (ar ad a1)] D cI cO ad S R9 S9 := by
  refine CI.of (by decide +kernel) (Nat.le_of_ble_eq_true rfl) (fun p e s m args below meth c Q ls X hl hw hfin => ?_)
  have hl : lv_has ls 3 [(0, .ref (ad 1)), (1, .ref (ar ad a1))] := hl
  have hx := X.1
  have hb := X.2.1
  have J76 : ∀ (x1 : Nat) (k0 : Int32) (S : vS), f_X2_readInto_J76 x1 k0 S = some (R9, S9) → ∀ (H : Heap) (locs : List Loc) (ls : Array Slot), WD D cI cO ad s S H locs → lv_has ls 3 [(0, .ref (ad 1)), (1, .ref (ar ad x1))] → W p l e ({ frames := 5, cells := 0, slots := 0, locals := 115 }) s m args below meth c H locs 0 0 Q (F0 m 76 ls [.int k0]) := by
    intro x1 k0 S hf H locs ls hw hl
    unfold f_X2_readInto_J76 at hf
    refine lv_istore_n (lv' := [(2, .int k0), (0, .ref (ad 1)), (1, .ref (ar ad x1))]) hx hb dX2_readInto_76 rfl hl (by decide) rfl (fun ls hl => ?_)
    refine lv_iload_n hx hb dX2_readInto_77 rfl (lv_at hl 0 rfl) ?_
    refine lv_if_ne (tgt := 83) hx hb dX2_readInto_78 (by decide) (fun c6 => ?_) (fun c6 => ?_)
    · replace hf := if_f c6 hf
      refine lv_aload_n hx hb dX2_readInto_83 rfl (lv_at hl 2 rfl) ?_
      refine lv_iconst (v := 5) hx hb dX2_readInto_84 (by decide) ?_
      refine lv_aload_n hx hb dX2_readInto_85 rfl (lv_at hl 1 rfl) ?_
      refine lv_bipush (v := 33) hx hb dX2_readInto_86 (by decide +kernel) ?_
      obtain ⟨r9, S8, h7, hf⟩ := b2_s hf
      refine kVi X hw (c_X2_readSign l D cI cO ad (33 : Int32) S r9 S8 h7) (Nat.le_of_ble_eq_true rfl) ce1 rfl ⟨rfl, rfl⟩ q320 q322 q4 q60 q323 hd_X2_readSign ⟨Nat.le_of_ble_eq_true rfl, Nat.le_of_ble_eq_true rfl⟩ rfl hl.1 rfl (Nat.le_of_ble_eq_true rfl) dX2_readInto_88 (fun H locs hw => ?_)
      refine lv_if_eq (tgt := 98) hx hb dX2_readInto_91 (by decide) (fun c10 => ?_) (fun c10 => ?_)
      · replace hf := if_t c10 hf
        refine lv_iconst (v := 1) hx hb dX2_readInto_98 (by decide) ?_
        obtain ⟨h11, hf⟩ := if_s hf
        obtain ⟨h12, hf⟩ := if_s hf
        refine x_iast X hw x1 h11 rfl h12 5 (by decide) dX2_readInto_99 (fun S13 eS13 H locs hw => ?_)
        replace hf := lt_e eS13 hf
        refine lv_aload_n hx hb dX2_readInto_100 rfl (lv_at hl 2 rfl) ?_
        refine lv_bipush (v := 6) hx hb dX2_readInto_101 (by decide +kernel) ?_
        refine lv_iconst (v := 1) hx hb dX2_readInto_103 (by decide) ?_
        obtain ⟨h14, hf⟩ := if_s hf
        refine x_iast X hw x1 h11 rfl h14 6 (by decide) dX2_readInto_104 (fun S15 eS15 H locs hw => ?_)
        replace hf := lt_e eS15 hf
        refine lv_aload_n hx hb dX2_readInto_105 rfl (lv_at hl 1 rfl) ?_
        refine x_get X hw 1 (Nat.le_of_ble_eq_true rfl) ce1 rfl i_X2 2 (by decide) q90 ⟨rfl, rfl, rfl⟩ rfl dX2_readInto_106 ?_
        refine lv_aload_n hx hb dX2_readInto_109 rfl (lv_at hl 1 rfl) ?_
        refine x_get X hw 1 (Nat.le_of_ble_eq_true rfl) ce1 rfl i_X2 1 (by decide) q88 ⟨rfl, rfl, rfl⟩ rfl dX2_readInto_110 ?_
        refine lv_icmp_ne (tgt := 120) hx hb dX2_readInto_113 (by decide) (fun c16 => ?_) (fun c16 => ?_)
        · replace hf := if_f c16 hf
          refine lv_iconst (v := 0) hx hb dX2_readInto_120 (by decide) ?_
          exact hfin _ _ _ _ _ _ hw (s2a hf) (s2b hf) rfl dX2_readInto_121
        · replace hf := if_t c16 hf
          refine lv_iconst (v := 1) hx hb dX2_readInto_116 (by decide) ?_
          refine lv_goto (tgt := 121) hx hb dX2_readInto_117 (by decide) ?_
          exact hfin _ _ _ _ _ _ hw (s2a hf) (s2b hf) rfl dX2_readInto_121
      · replace hf := if_f c10 hf
        refine lv_iconst (v := 0) hx hb dX2_readInto_94 (by decide) ?_
        refine lv_goto (tgt := 99) hx hb dX2_readInto_95 (by decide) ?_
        obtain ⟨h17, hf⟩ := if_s hf
        obtain ⟨h18, hf⟩ := if_s hf
        refine x_iast X hw x1 h17 rfl h18 5 (by decide) dX2_readInto_99 (fun S19 eS19 H locs hw => ?_)
        replace hf := lt_e eS19 hf
        refine lv_aload_n hx hb dX2_readInto_100 rfl (lv_at hl 2 rfl) ?_
        refine lv_bipush (v := 6) hx hb dX2_readInto_101 (by decide +kernel) ?_
        refine lv_iconst (v := 1) hx hb dX2_readInto_103 (by decide) ?_
        obtain ⟨h20, hf⟩ := if_s hf
        refine x_iast X hw x1 h17 rfl h20 6 (by decide) dX2_readInto_104 (fun S21 eS21 H locs hw => ?_)
        replace hf := lt_e eS21 hf
        refine lv_aload_n hx hb dX2_readInto_105 rfl (lv_at hl 1 rfl) ?_
        refine x_get X hw 1 (Nat.le_of_ble_eq_true rfl) ce1 rfl i_X2 2 (by decide) q90 ⟨rfl, rfl, rfl⟩ rfl dX2_readInto_106 ?_
        refine lv_aload_n hx hb dX2_readInto_109 rfl (lv_at hl 1 rfl) ?_
        refine x_get X hw 1 (Nat.le_of_ble_eq_true rfl) ce1 rfl i_X2 1 (by decide) q88 ⟨rfl, rfl, rfl⟩ rfl dX2_readInto_110 ?_
        refine lv_icmp_ne (tgt := 120) hx hb dX2_readInto_113 (by decide) (fun c22 => ?_) (fun c22 => ?_)
        · replace hf := if_f c22 hf
          refine lv_iconst (v := 0) hx hb dX2_readInto_120 (by decide) ?_
          exact hfin _ _ _ _ _ _ hw (s2a hf) (s2b hf) rfl dX2_readInto_121
        · replace hf := if_t c22 hf
          refine lv_iconst (v := 1) hx hb dX2_readInto_116 (by decide) ?_
          refine lv_goto (tgt := 121) hx hb dX2_readInto_117 (by decide) ?_
          exact hfin _ _ _ _ _ _ hw (s2a hf) (s2b hf) rfl dX2_readInto_121
    · replace hf := if_t c6 hf
      refine lv_iconst (v := 0) hx hb dX2_readInto_81 (by decide) ?_
      exact hfin _ _ _ _ _ _ hw (s2a hf) (s2b hf) rfl dX2_readInto_82
  have J75 : ∀ (x1 : Nat) (S : vS), f_X2_readInto_J75 x1 S = some (R9, S9) → ∀ (H : Heap) (locs : List Loc) (ls : Array Slot), WD D cI cO ad s S H locs → lv_has ls 3 [(0, .ref (ad 1)), (1, .ref (ar ad x1))] → W p l e ({ frames := 5, cells := 0, slots := 0, locals := 115 }) s m args below meth c H locs 0 0 Q (F0 m 75 ls []) := by
    intro x1 S hf H locs ls hw hl
    unfold f_X2_readInto_J75 at hf
    refine lv_iconst (v := 0) hx hb dX2_readInto_75 (by decide) ?_
    exact J76 x1 (0 : Int32) S hf _ _ _ hw hl
  unfold f_X2_readInto at hf
  refine lv_aload_n hx hb dX2_readInto_0 rfl (lv_at hl 0 rfl) ?_
  refine lv_iconst (v := 0) hx hb dX2_readInto_1 (by decide) ?_
  refine x_put X hw 1 (Nat.le_of_ble_eq_true rfl) ce1 rfl i_X2 tyX2_ok nmX2 2 (by decide) q90 ⟨rfl, rfl, rfl⟩ rfl pfI rfl rfl (Nat.le_of_ble_eq_true rfl) 11 (ws_11 _) dX2_readInto_2 (fun S1 eS1 H locs hw => ?_)
  replace hf := lt_e eS1 hf
  refine lv_aload_n hx hb dX2_readInto_5 rfl (lv_at hl 0 rfl) ?_
  refine lv_aload_n hx hb dX2_readInto_6 rfl (lv_at hl 1 rfl) ?_
  refine lv_iconst (v := 0) hx hb dX2_readInto_7 (by decide) ?_
  refine x_ldcS X hw.2.2.2.2.2.2.2.2.2.2.2.1 dX2_readInto_8 ?_
  obtain ⟨r4, S3, h2, hf⟩ := b2_s hf
  refine kVi X hw (c_X2_readChoice_s0 l D cI cO ad a1 (0 : Int32) S1 r4 S3 h2) (Nat.le_of_ble_eq_true rfl) ce1 rfl ⟨rfl, rfl⟩ q225 q227 q2 q60 q228 hd_X2_readChoice ⟨Nat.le_of_ble_eq_true rfl, Nat.le_of_ble_eq_true rfl⟩ rfl hl.1 rfl (Nat.le_of_ble_eq_true rfl) dX2_readInto_10 (fun H locs hw => ?_)
  refine lv_if_eq (tgt := 75) hx hb dX2_readInto_13 (by decide) (fun c5 => ?_) (fun c5 => ?_)
  · replace hf := if_t c5 hf
    exact J75 a1 S3 hf _ _ _ hw hl
  · replace hf := if_f c5 hf
    refine lv_aload_n hx hb dX2_readInto_16 rfl (lv_at hl 0 rfl) ?_
    refine lv_aload_n hx hb dX2_readInto_17 rfl (lv_at hl 1 rfl) ?_
    refine lv_iconst (v := 1) hx hb dX2_readInto_18 (by decide) ?_
    refine x_ldcS X hw.2.2.2.2.2.2.2.2.2.2.2.2 dX2_readInto_19 ?_
    obtain ⟨r25, S24, h23, hf⟩ := b2_s hf
    refine kVi X hw (c_X2_readChoice_s1 l D cI cO ad a1 (1 : Int32) S3 r25 S24 h23) (Nat.le_of_ble_eq_true rfl) ce1 rfl ⟨rfl, rfl⟩ q225 q227 q2 q60 q228 hd_X2_readChoice ⟨Nat.le_of_ble_eq_true rfl, Nat.le_of_ble_eq_true rfl⟩ rfl hl.1 rfl (Nat.le_of_ble_eq_true rfl) dX2_readInto_21 (fun H locs hw => ?_)
    refine lv_if_eq (tgt := 75) hx hb dX2_readInto_24 (by decide) (fun c26 => ?_) (fun c26 => ?_)
    · replace hf := if_t c26 hf
      exact J75 a1 S24 hf _ _ _ hw hl
    · replace hf := if_f c26 hf
      refine lv_aload_n hx hb dX2_readInto_27 rfl (lv_at hl 0 rfl) ?_
      refine lv_aload_n hx hb dX2_readInto_28 rfl (lv_at hl 1 rfl) ?_
      refine lv_iconst (v := 2) hx hb dX2_readInto_29 (by decide) ?_
      obtain ⟨r29, S28, h27, hf⟩ := b2_s hf
      refine kVi X hw (c_X2_readNumber l D cI cO ad a1 (2 : Int32) S24 r29 S28 h27) (Nat.le_of_ble_eq_true rfl) ce1 rfl ⟨rfl, rfl⟩ q316 q318 q3 q60 q319 hd_X2_readNumber ⟨Nat.le_of_ble_eq_true rfl, Nat.le_of_ble_eq_true rfl⟩ rfl hl.1 rfl (Nat.le_of_ble_eq_true rfl) dX2_readInto_30 (fun H locs hw => ?_)
      refine lv_if_eq (tgt := 75) hx hb dX2_readInto_33 (by decide) (fun c30 => ?_) (fun c30 => ?_)
      · replace hf := if_t c30 hf
        exact J75 a1 S28 hf _ _ _ hw hl
      · replace hf := if_f c30 hf
        refine lv_aload_n hx hb dX2_readInto_36 rfl (lv_at hl 0 rfl) ?_
        refine lv_bipush (v := 45) hx hb dX2_readInto_37 (by decide +kernel) ?_
        obtain ⟨r33, S32, h31, hf⟩ := b2_s hf
        refine kVi X hw (c_X2_readSign l D cI cO ad (45 : Int32) S28 r33 S32 h31) (Nat.le_of_ble_eq_true rfl) ce1 rfl ⟨rfl, rfl⟩ q320 q322 q4 q60 q323 hd_X2_readSign ⟨Nat.le_of_ble_eq_true rfl, Nat.le_of_ble_eq_true rfl⟩ rfl hl.1 rfl (Nat.le_of_ble_eq_true rfl) dX2_readInto_39 (fun H locs hw => ?_)
        refine lv_if_eq (tgt := 75) hx hb dX2_readInto_42 (by decide) (fun c34 => ?_) (fun c34 => ?_)
        · replace hf := if_t c34 hf
          exact J75 a1 S32 hf _ _ _ hw hl
        · replace hf := if_f c34 hf
          refine lv_aload_n hx hb dX2_readInto_45 rfl (lv_at hl 0 rfl) ?_
          refine lv_aload_n hx hb dX2_readInto_46 rfl (lv_at hl 1 rfl) ?_
          obtain ⟨r37, S36, h35, hf⟩ := b2_s hf
          refine kVi X hw (c_X2_readTill l D cI cO ad a1 S32 r37 S36 h35) (Nat.le_of_ble_eq_true rfl) ce1 rfl ⟨rfl, rfl⟩ q324 q326 q5 q60 q327 hd_X2_readTill ⟨Nat.le_of_ble_eq_true rfl, Nat.le_of_ble_eq_true rfl⟩ rfl hl.1 rfl (Nat.le_of_ble_eq_true rfl) dX2_readInto_47 (fun H locs hw => ?_)
          refine lv_if_eq (tgt := 75) hx hb dX2_readInto_50 (by decide) (fun c38 => ?_) (fun c38 => ?_)
          · replace hf := if_t c38 hf
            exact J75 a1 S36 hf _ _ _ hw hl
          · replace hf := if_f c38 hf
            refine lv_aload_n hx hb dX2_readInto_53 rfl (lv_at hl 0 rfl) ?_
            refine lv_bipush (v := 42) hx hb dX2_readInto_54 (by decide +kernel) ?_
            obtain ⟨r41, S40, h39, hf⟩ := b2_s hf
            refine kVi X hw (c_X2_readSign l D cI cO ad (42 : Int32) S36 r41 S40 h39) (Nat.le_of_ble_eq_true rfl) ce1 rfl ⟨rfl, rfl⟩ q320 q322 q4 q60 q323 hd_X2_readSign ⟨Nat.le_of_ble_eq_true rfl, Nat.le_of_ble_eq_true rfl⟩ rfl hl.1 rfl (Nat.le_of_ble_eq_true rfl) dX2_readInto_56 (fun H locs hw => ?_)
            refine lv_if_eq (tgt := 75) hx hb dX2_readInto_59 (by decide) (fun c42 => ?_) (fun c42 => ?_)
            · replace hf := if_t c42 hf
              exact J75 a1 S40 hf _ _ _ hw hl
            · replace hf := if_f c42 hf
              refine lv_aload_n hx hb dX2_readInto_62 rfl (lv_at hl 0 rfl) ?_
              refine lv_aload_n hx hb dX2_readInto_63 rfl (lv_at hl 1 rfl) ?_
              refine lv_iconst (v := 4) hx hb dX2_readInto_64 (by decide) ?_
              obtain ⟨r45, S44, h43, hf⟩ := b2_s hf
              refine kVi X hw (c_X2_readNumber l D cI cO ad a1 (4 : Int32) S40 r45 S44 h43) (Nat.le_of_ble_eq_true rfl) ce1 rfl ⟨rfl, rfl⟩ q316 q318 q3 q60 q319 hd_X2_readNumber ⟨Nat.le_of_ble_eq_true rfl, Nat.le_of_ble_eq_true rfl⟩ rfl hl.1 rfl (Nat.le_of_ble_eq_true rfl) dX2_readInto_65 (fun H locs hw => ?_)
              refine lv_if_eq (tgt := 75) hx hb dX2_readInto_68 (by decide) (fun c46 => ?_) (fun c46 => ?_)
              · replace hf := if_t c46 hf
                exact J75 a1 S44 hf _ _ _ hw hl
              · replace hf := if_f c46 hf
                refine lv_iconst (v := 1) hx hb dX2_readInto_71 (by decide) ?_
                refine lv_goto (tgt := 76) hx hb dX2_readInto_72 (by decide) ?_
                exact J76 a1 (1 : Int32) S44 hf _ _ _ hw hl
