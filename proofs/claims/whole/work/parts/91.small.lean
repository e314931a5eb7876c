theorem dX2_init_0 : decode cX2_init 0 = .ok (.aload_n 0, 1) := by decide +kernel
theorem dX2_init_1 : decode cX2_init 1 = .ok (.invokespecial 3, 3) := by decide +kernel
theorem dX2_init_4 : decode cX2_init 4 = .ok (.aload_n 0, 1) := by decide +kernel
theorem dX2_init_5 : decode cX2_init 5 = .ok (.bipush 16, 2) := by decide +kernel
theorem dX2_init_7 : decode cX2_init 7 = .ok (.newarray .int, 2) := by decide +kernel
theorem dX2_init_9 : decode cX2_init 9 = .ok (.putfield 9, 3) := by decide +kernel
theorem dX2_init_12 : decode cX2_init 12 = .ok (.aload_n 0, 1) := by decide +kernel
theorem dX2_init_13 : decode cX2_init 13 = .ok (.iconst 0, 1) := by decide +kernel
theorem dX2_init_14 : decode cX2_init 14 = .ok (.putfield 15, 3) := by decide +kernel
theorem dX2_init_17 : decode cX2_init 17 = .ok (.aload_n 0, 1) := by decide +kernel
theorem dX2_init_18 : decode cX2_init 18 = .ok (.iconst 0, 1) := by decide +kernel
theorem dX2_init_19 : decode cX2_init 19 = .ok (.putfield 19, 3) := by decide +kernel
theorem dX2_init_22 : decode cX2_init 22 = .ok (.return_, 1) := by decide +kernel
def csX2_init (cI cO : ClassId) (z : Nat) : List va_E := [.inr (2, [.ref (z + 1), .int 0, .int 0]), zA cI 16]
set_option maxHeartbeats 8000000 in
set_option maxRecDepth 20000 in
theorem mX2_init (l : Launch) (D : va_G) (cI cO : ClassId) (ad : Nat → Nat) (z : Nat) : CN l yX2_init cX2_init 1 ({ frames := 1, cells := 1, slots := 16, locals := 20 } : Room) D cI cO ad z (.inr (2, [.null, .int 0, .int 0])) (csX2_init cI cO z) 1 16 := by
  refine CN.of (by decide +kernel) rfl (Nat.le_of_ble_eq_true rfl) (fun p e s m args below meth c Q ls X hin hl hB hN hfin => ?_)
  have hl : lv_has ls 1 [(0, .ref z)] := hl
  have hx := X.1
  have hb := X.2.1
  have tw : ∀ {w : Cond}, w ∈ tW → w.before args s = true := fun h => X.2.2.2.2 _ (List.mem_cons_of_mem _ h)
  generalize hHe : s.heap = H at hB ⊢
  generalize ([] : List Loc) = locs at hB ⊢
  refine lv_aload_n hx hb dX2_init_0 rfl (lv_at hl 0 rfl) ?_
  refine W.objInit hx hb X.2.2.2.1 (tw u85) (tw u78) (tw u79) rfl (by rw [X.2.2.1]; exact hl.1) rfl dX2_init_1 (Nat.le_of_ble_eq_true rfl) (Nat.le_of_ble_eq_true rfl) ?_
  refine W.eq (g2 := F0 m 4 ls []) rfl ?_
  refine lv_aload_n hx hb dX2_init_4 rfl (lv_at hl 0 rfl) ?_
  refine lv_bipush (v := 16) hx hb dX2_init_5 (by decide +kernel) ?_
  refine b_newa X hB u99 (n := 16) (N := 16) (by decide) rfl (Nat.le_of_ble_eq_true rfl) (Nat.le_of_ble_eq_true rfl) (Nat.le_of_ble_eq_true rfl) dX2_init_7 (q := z + 1) rfl (fun H hB => ?_)
  have hB : BD D cI cO z [.inr (2, [.null, .int 0, .int 0]), zA cI 16] s H locs := hB
  refine b_putF X hB 0 rfl rfl i_X2 tyX2_ok nmX2 0 (by decide) u86 ⟨rfl, rfl, rfl⟩ rfl hin rfl mf1 rfl rfl (Nat.le_of_ble_eq_true rfl) rfl dX2_init_9 (fun H locs hB => ?_)
  have hB : BD D cI cO z [.inr (2, [.ref (z + 1), .int 0, .int 0]), zA cI 16] s H locs := hB
  refine lv_aload_n hx hb dX2_init_12 rfl (lv_at hl 0 rfl) ?_
  refine lv_iconst (v := 0) hx hb dX2_init_13 (by decide) ?_
  refine b_put X hB 0 rfl rfl i_X2 tyX2_ok nmX2 1 (by decide) u88 ⟨rfl, rfl, rfl⟩ rfl pfI rfl rfl (Nat.le_of_ble_eq_true rfl) rfl dX2_init_14 (fun H locs hB => ?_)
  have hB : BD D cI cO z [.inr (2, [.ref (z + 1), .int 0, .int 0]), zA cI 16] s H locs := hB
  refine lv_aload_n hx hb dX2_init_17 rfl (lv_at hl 0 rfl) ?_
  refine lv_iconst (v := 0) hx hb dX2_init_18 (by decide) ?_
  refine b_put X hB 0 rfl rfl i_X2 tyX2_ok nmX2 2 (by decide) u90 ⟨rfl, rfl, rfl⟩ rfl pfI rfl rfl (Nat.le_of_ble_eq_true rfl) rfl dX2_init_19 (fun H locs hB => ?_)
  have hB : BD D cI cO z [.inr (2, [.ref (z + 1), .int 0, .int 0]), zA cI 16] s H locs := hB
  exact hfin _ _ _ _ hB dX2_init_22

theorem dX1_init_0 : decode cX1_init 0 = .ok (.aload_n 0, 1) := by decide +kernel
theorem dX1_init_1 : decode cX1_init 1 = .ok (.invokespecial 3, 3) := by decide +kernel
theorem dX1_init_4 : decode cX1_init 4 = .ok (.aload_n 0, 1) := by decide +kernel
theorem dX1_init_5 : decode cX1_init 5 = .ok (.bipush 6, 2) := by decide +kernel
theorem dX1_init_7 : decode cX1_init 7 = .ok (.newarray .int, 2) := by decide +kernel
theorem dX1_init_9 : decode cX1_init 9 = .ok (.putfield 9, 3) := by decide +kernel
theorem dX1_init_12 : decode cX1_init 12 = .ok (.aload_n 0, 1) := by decide +kernel
theorem dX1_init_13 : decode cX1_init 13 = .ok (.bipush 6, 2) := by decide +kernel
theorem dX1_init_15 : decode cX1_init 15 = .ok (.newarray .int, 2) := by decide +kernel
theorem dX1_init_17 : decode cX1_init 17 = .ok (.putfield 15, 3) := by decide +kernel
theorem dX1_init_20 : decode cX1_init 20 = .ok (.aload_n 0, 1) := by decide +kernel
theorem dX1_init_21 : decode cX1_init 21 = .ok (.bipush 6, 2) := by decide +kernel
theorem dX1_init_23 : decode cX1_init 23 = .ok (.newarray .int, 2) := by decide +kernel
theorem dX1_init_25 : decode cX1_init 25 = .ok (.putfield 18, 3) := by decide +kernel
theorem dX1_init_28 : decode cX1_init 28 = .ok (.aload_n 0, 1) := by decide +kernel
theorem dX1_init_29 : decode cX1_init 29 = .ok (.bipush 6, 2) := by decide +kernel
theorem dX1_init_31 : decode cX1_init 31 = .ok (.newarray .int, 2) := by decide +kernel
theorem dX1_init_33 : decode cX1_init 33 = .ok (.putfield 21, 3) := by decide +kernel
theorem dX1_init_36 : decode cX1_init 36 = .ok (.aload_n 0, 1) := by decide +kernel
theorem dX1_init_37 : decode cX1_init 37 = .ok (.bipush 6, 2) := by decide +kernel
theorem dX1_init_39 : decode cX1_init 39 = .ok (.newarray .int, 2) := by decide +kernel
theorem dX1_init_41 : decode cX1_init 41 = .ok (.putfield 24, 3) := by decide +kernel
theorem dX1_init_44 : decode cX1_init 44 = .ok (.aload_n 0, 1) := by decide +kernel
theorem dX1_init_45 : decode cX1_init 45 = .ok (.bipush 6, 2) := by decide +kernel
theorem dX1_init_47 : decode cX1_init 47 = .ok (.newarray .int, 2) := by decide +kernel
theorem dX1_init_49 : decode cX1_init 49 = .ok (.putfield 27, 3) := by decide +kernel
theorem dX1_init_52 : decode cX1_init 52 = .ok (.aload_n 0, 1) := by decide +kernel
theorem dX1_init_53 : decode cX1_init 53 = .ok (.bipush 6, 2) := by decide +kernel
theorem dX1_init_55 : decode cX1_init 55 = .ok (.newarray .int, 2) := by decide +kernel
theorem dX1_init_57 : decode cX1_init 57 = .ok (.putfield 30, 3) := by decide +kernel
theorem dX1_init_60 : decode cX1_init 60 = .ok (.aload_n 0, 1) := by decide +kernel
theorem dX1_init_61 : decode cX1_init 61 = .ok (.iconst 0, 1) := by decide +kernel
theorem dX1_init_62 : decode cX1_init 62 = .ok (.putfield 33, 3) := by decide +kernel
theorem dX1_init_65 : decode cX1_init 65 = .ok (.aload_n 0, 1) := by decide +kernel
theorem dX1_init_66 : decode cX1_init 66 = .ok (.bipush (-9), 2) := by decide +kernel
theorem dX1_init_68 : decode cX1_init 68 = .ok (.putfield 37, 3) := by decide +kernel
theorem dX1_init_71 : decode cX1_init 71 = .ok (.aload_n 0, 1) := by decide +kernel
theorem dX1_init_72 : decode cX1_init 72 = .ok (.iconst 1, 1) := by decide +kernel
theorem dX1_init_73 : decode cX1_init 73 = .ok (.putfield 40, 3) := by decide +kernel
theorem dX1_init_76 : decode cX1_init 76 = .ok (.return_, 1) := by decide +kernel
def csX1_init (cI cO : ClassId) (z : Nat) : List va_E := [.inr (1, [.ref (z + 1), .ref (z + 2), .ref (z + 3), .ref (z + 4), .ref (z + 5), .ref (z + 6), .ref (z + 7), .int 0, .int (-9), .int 1]), zA cI 6, zA cI 6, zA cI 6, zA cI 6, zA cI 6, zA cI 6, zA cI 6]
set_option maxHeartbeats 8000000 in
set_option maxRecDepth 20000 in
theorem mX1_init (l : Launch) (D : va_G) (cI cO : ClassId) (ad : Nat → Nat) (z : Nat) : CN l yX1_init cX1_init 1 ({ frames := 1, cells := 7, slots := 42, locals := 20 } : Room) D cI cO ad z (.inr (1, [.null, .null, .null, .null, .null, .null, .null, .int 0, .int 0, .int 0])) (csX1_init cI cO z) 7 42 := by
  refine CN.of (by decide +kernel) rfl (Nat.le_of_ble_eq_true rfl) (fun p e s m args below meth c Q ls X hin hl hB hN hfin => ?_)
  have hl : lv_has ls 1 [(0, .ref z)] := hl
  have hx := X.1
  have hb := X.2.1
  have tw : ∀ {w : Cond}, w ∈ tW → w.before args s = true := fun h => X.2.2.2.2 _ (List.mem_cons_of_mem _ h)
  generalize hHe : s.heap = H at hB ⊢
  generalize ([] : List Loc) = locs at hB ⊢
  refine lv_aload_n hx hb dX1_init_0 rfl (lv_at hl 0 rfl) ?_
  refine W.objInit hx hb X.2.2.2.1 (tw u142) (tw u78) (tw u79) rfl (by rw [X.2.2.1]; exact hl.1) rfl dX1_init_1 (Nat.le_of_ble_eq_true rfl) (Nat.le_of_ble_eq_true rfl) ?_
  refine W.eq (g2 := F0 m 4 ls []) rfl ?_
  refine lv_aload_n hx hb dX1_init_4 rfl (lv_at hl 0 rfl) ?_
  refine lv_bipush (v := 6) hx hb dX1_init_5 (by decide +kernel) ?_
  refine b_newa X hB u99 (n := 6) (N := 6) (by decide) rfl (Nat.le_of_ble_eq_true rfl) (Nat.le_of_ble_eq_true rfl) (Nat.le_of_ble_eq_true rfl) dX1_init_7 (q := z + 1) rfl (fun H hB => ?_)
  have hB : BD D cI cO z [.inr (1, [.null, .null, .null, .null, .null, .null, .null, .int 0, .int 0, .int 0]), zA cI 6] s H locs := hB
  refine b_putF X hB 0 rfl rfl i_X1 tyX1_ok nmX1 0 (by decide) u143 ⟨rfl, rfl, rfl⟩ rfl hin rfl mf1 rfl rfl (Nat.le_of_ble_eq_true rfl) rfl dX1_init_9 (fun H locs hB => ?_)
  have hB : BD D cI cO z [.inr (1, [.ref (z + 1), .null, .null, .null, .null, .null, .null, .int 0, .int 0, .int 0]), zA cI 6] s H locs := hB
  refine lv_aload_n hx hb dX1_init_12 rfl (lv_at hl 0 rfl) ?_
  refine lv_bipush (v := 6) hx hb dX1_init_13 (by decide +kernel) ?_
  refine b_newa X hB u99 (n := 6) (N := 6) (by decide) rfl (Nat.le_of_ble_eq_true rfl) (Nat.le_of_ble_eq_true rfl) (Nat.le_of_ble_eq_true rfl) dX1_init_15 (q := z + 2) rfl (fun H hB => ?_)
  have hB : BD D cI cO z [.inr (1, [.ref (z + 1), .null, .null, .null, .null, .null, .null, .int 0, .int 0, .int 0]), zA cI 6, zA cI 6] s H locs := hB
  refine b_putF X hB 0 rfl rfl i_X1 tyX1_ok nmX1 1 (by decide) u144 ⟨rfl, rfl, rfl⟩ rfl hin rfl mf1 rfl rfl (Nat.le_of_ble_eq_true rfl) rfl dX1_init_17 (fun H locs hB => ?_)
  have hB : BD D cI cO z [.inr (1, [.ref (z + 1), .ref (z + 2), .null, .null, .null, .null, .null, .int 0, .int 0, .int 0]), zA cI 6, zA cI 6] s H locs := hB
  refine lv_aload_n hx hb dX1_init_20 rfl (lv_at hl 0 rfl) ?_
  refine lv_bipush (v := 6) hx hb dX1_init_21 (by decide +kernel) ?_
  refine b_newa X hB u99 (n := 6) (N := 6) (by decide) rfl (Nat.le_of_ble_eq_true rfl) (Nat.le_of_ble_eq_true rfl) (Nat.le_of_ble_eq_true rfl) dX1_init_23 (q := z + 3) rfl (fun H hB => ?_)
  have hB : BD D cI cO z [.inr (1, [.ref (z + 1), .ref (z + 2), .null, .null, .null, .null, .null, .int 0, .int 0, .int 0]), zA cI 6, zA cI 6, zA cI 6] s H locs := hB
  refine b_putF X hB 0 rfl rfl i_X1 tyX1_ok nmX1 2 (by decide) u146 ⟨rfl, rfl, rfl⟩ rfl hin rfl mf1 rfl rfl (Nat.le_of_ble_eq_true rfl) rfl dX1_init_25 (fun H locs hB => ?_)
  have hB : BD D cI cO z [.inr (1, [.ref (z + 1), .ref (z + 2), .ref (z + 3), .null, .null, .null, .null, .int 0, .int 0, .int 0]), zA cI 6, zA cI 6, zA cI 6] s H locs := hB
  refine lv_aload_n hx hb dX1_init_28 rfl (lv_at hl 0 rfl) ?_
  refine lv_bipush (v := 6) hx hb dX1_init_29 (by decide +kernel) ?_
  refine b_newa X hB u99 (n := 6) (N := 6) (by decide) rfl (Nat.le_of_ble_eq_true rfl) (Nat.le_of_ble_eq_true rfl) (Nat.le_of_ble_eq_true rfl) dX1_init_31 (q := z + 4) rfl (fun H hB => ?_)
  have hB : BD D cI cO z [.inr (1, [.ref (z + 1), .ref (z + 2), .ref (z + 3), .null, .null, .null, .null, .int 0, .int 0, .int 0]), zA cI 6, zA cI 6, zA cI 6, zA cI 6] s H locs := hB
  refine b_putF X hB 0 rfl rfl i_X1 tyX1_ok nmX1 3 (by decide) u148 ⟨rfl, rfl, rfl⟩ rfl hin rfl mf1 rfl rfl (Nat.le_of_ble_eq_true rfl) rfl dX1_init_33 (fun H locs hB => ?_)
  have hB : BD D cI cO z [.inr (1, [.ref (z + 1), .ref (z + 2), .ref (z + 3), .ref (z + 4), .null, .null, .null, .int 0, .int 0, .int 0]), zA cI 6, zA cI 6, zA cI 6, zA cI 6] s H locs := hB
  refine lv_aload_n hx hb dX1_init_36 rfl (lv_at hl 0 rfl) ?_
  refine lv_bipush (v := 6) hx hb dX1_init_37 (by decide +kernel) ?_
  refine b_newa X hB u99 (n := 6) (N := 6) (by decide) rfl (Nat.le_of_ble_eq_true rfl) (Nat.le_of_ble_eq_true rfl) (Nat.le_of_ble_eq_true rfl) dX1_init_39 (q := z + 5) rfl (fun H hB => ?_)
  have hB : BD D cI cO z [.inr (1, [.ref (z + 1), .ref (z + 2), .ref (z + 3), .ref (z + 4), .null, .null, .null, .int 0, .int 0, .int 0]), zA cI 6, zA cI 6, zA cI 6, zA cI 6, zA cI 6] s H locs := hB
  refine b_putF X hB 0 rfl rfl i_X1 tyX1_ok nmX1 4 (by decide) u150 ⟨rfl, rfl, rfl⟩ rfl hin rfl mf1 rfl rfl (Nat.le_of_ble_eq_true rfl) rfl dX1_init_41 (fun H locs hB => ?_)
  have hB : BD D cI cO z [.inr (1, [.ref (z + 1), .ref (z + 2), .ref (z + 3), .ref (z + 4), .ref (z + 5), .null, .null, .int 0, .int 0, .int 0]), zA cI 6, zA cI 6, zA cI 6, zA cI 6, zA cI 6] s H locs := hB
  refine lv_aload_n hx hb dX1_init_44 rfl (lv_at hl 0 rfl) ?_
  refine lv_bipush (v := 6) hx hb dX1_init_45 (by decide +kernel) ?_
  refine b_newa X hB u99 (n := 6) (N := 6) (by decide) rfl (Nat.le_of_ble_eq_true rfl) (Nat.le_of_ble_eq_true rfl) (Nat.le_of_ble_eq_true rfl) dX1_init_47 (q := z + 6) rfl (fun H hB => ?_)
  have hB : BD D cI cO z [.inr (1, [.ref (z + 1), .ref (z + 2), .ref (z + 3), .ref (z + 4), .ref (z + 5), .null, .null, .int 0, .int 0, .int 0]), zA cI 6, zA cI 6, zA cI 6, zA cI 6, zA cI 6, zA cI 6] s H locs := hB
  refine b_putF X hB 0 rfl rfl i_X1 tyX1_ok nmX1 5 (by decide) u152 ⟨rfl, rfl, rfl⟩ rfl hin rfl mf1 rfl rfl (Nat.le_of_ble_eq_true rfl) rfl dX1_init_49 (fun H locs hB => ?_)
  have hB : BD D cI cO z [.inr (1, [.ref (z + 1), .ref (z + 2), .ref (z + 3), .ref (z + 4), .ref (z + 5), .ref (z + 6), .null, .int 0, .int 0, .int 0]), zA cI 6, zA cI 6, zA cI 6, zA cI 6, zA cI 6, zA cI 6] s H locs := hB
  refine lv_aload_n hx hb dX1_init_52 rfl (lv_at hl 0 rfl) ?_
  refine lv_bipush (v := 6) hx hb dX1_init_53 (by decide +kernel) ?_
  refine b_newa X hB u99 (n := 6) (N := 6) (by decide) rfl (Nat.le_of_ble_eq_true rfl) (Nat.le_of_ble_eq_true rfl) (Nat.le_of_ble_eq_true rfl) dX1_init_55 (q := z + 7) rfl (fun H hB => ?_)
  have hB : BD D cI cO z [.inr (1, [.ref (z + 1), .ref (z + 2), .ref (z + 3), .ref (z + 4), .ref (z + 5), .ref (z + 6), .null, .int 0, .int 0, .int 0]), zA cI 6, zA cI 6, zA cI 6, zA cI 6, zA cI 6, zA cI 6, zA cI 6] s H locs := hB
  refine b_putF X hB 0 rfl rfl i_X1 tyX1_ok nmX1 6 (by decide) u153 ⟨rfl, rfl, rfl⟩ rfl hin rfl mf1 rfl rfl (Nat.le_of_ble_eq_true rfl) rfl dX1_init_57 (fun H locs hB => ?_)
  have hB : BD D cI cO z [.inr (1, [.ref (z + 1), .ref (z + 2), .ref (z + 3), .ref (z + 4), .ref (z + 5), .ref (z + 6), .ref (z + 7), .int 0, .int 0, .int 0]), zA cI 6, zA cI 6, zA cI 6, zA cI 6, zA cI 6, zA cI 6, zA cI 6] s H locs := hB
  refine lv_aload_n hx hb dX1_init_60 rfl (lv_at hl 0 rfl) ?_
  refine lv_iconst (v := 0) hx hb dX1_init_61 (by decide) ?_
  refine b_put X hB 0 rfl rfl i_X1 tyX1_ok nmX1 7 (by decide) u155 ⟨rfl, rfl, rfl⟩ rfl pfI rfl rfl (Nat.le_of_ble_eq_true rfl) rfl dX1_init_62 (fun H locs hB => ?_)
  have hB : BD D cI cO z [.inr (1, [.ref (z + 1), .ref (z + 2), .ref (z + 3), .ref (z + 4), .ref (z + 5), .ref (z + 6), .ref (z + 7), .int 0, .int 0, .int 0]), zA cI 6, zA cI 6, zA cI 6, zA cI 6, zA cI 6, zA cI 6, zA cI 6] s H locs := hB
  refine lv_aload_n hx hb dX1_init_65 rfl (lv_at hl 0 rfl) ?_
  refine lv_bipush (v := -9) hx hb dX1_init_66 (by decide +kernel) ?_
  refine b_put X hB 0 rfl rfl i_X1 tyX1_ok nmX1 8 (by decide) u157 ⟨rfl, rfl, rfl⟩ rfl pfI rfl rfl (Nat.le_of_ble_eq_true rfl) rfl dX1_init_68 (fun H locs hB => ?_)
  have hB : BD D cI cO z [.inr (1, [.ref (z + 1), .ref (z + 2), .ref (z + 3), .ref (z + 4), .ref (z + 5), .ref (z + 6), .ref (z + 7), .int 0, .int (-9), .int 0]), zA cI 6, zA cI 6, zA cI 6, zA cI 6, zA cI 6, zA cI 6, zA cI 6] s H locs := hB
  refine lv_aload_n hx hb dX1_init_71 rfl (lv_at hl 0 rfl) ?_
  refine lv_iconst (v := 1) hx hb dX1_init_72 (by decide) ?_
  refine b_put X hB 0 rfl rfl i_X1 tyX1_ok nmX1 9 (by decide) u159 ⟨rfl, rfl, rfl⟩ rfl pfZ rfl rfl (Nat.le_of_ble_eq_true rfl) rfl dX1_init_73 (fun H locs hB => ?_)
  have hB : BD D cI cO z [.inr (1, [.ref (z + 1), .ref (z + 2), .ref (z + 3), .ref (z + 4), .ref (z + 5), .ref (z + 6), .ref (z + 7), .int 0, .int (-9), .int 1]), zA cI 6, zA cI 6, zA cI 6, zA cI 6, zA cI 6, zA cI 6, zA cI 6] s H locs := hB
  exact hfin _ _ _ _ hB dX1_init_76

theorem dX0_init_0 : decode cX0_init 0 = .ok (.aload_n 0, 1) := by decide +kernel
theorem dX0_init_1 : decode cX0_init 1 = .ok (.invokespecial 3, 3) := by decide +kernel
theorem dX0_init_4 : decode cX0_init 4 = .ok (.aload_n 0, 1) := by decide +kernel
theorem dX0_init_5 : decode cX0_init 5 = .ok (.bipush 20, 2) := by decide +kernel
theorem dX0_init_7 : decode cX0_init 7 = .ok (.bipush 7, 2) := by decide +kernel
theorem dX0_init_9 : decode cX0_init 9 = .ok (.multianewarray 9 2, 4) := by decide +kernel
theorem dX0_init_13 : decode cX0_init 13 = .ok (.putfield 11, 3) := by decide +kernel
theorem dX0_init_16 : decode cX0_init 16 = .ok (.aload_n 0, 1) := by decide +kernel
theorem dX0_init_17 : decode cX0_init 17 = .ok (.bipush 6, 2) := by decide +kernel
theorem dX0_init_19 : decode cX0_init 19 = .ok (.bipush 9, 2) := by decide +kernel
theorem dX0_init_21 : decode cX0_init 21 = .ok (.multianewarray 9 2, 4) := by decide +kernel
theorem dX0_init_25 : decode cX0_init 25 = .ok (.putfield 16, 3) := by decide +kernel
theorem dX0_init_28 : decode cX0_init 28 = .ok (.aload_n 0, 1) := by decide +kernel
theorem dX0_init_29 : decode cX0_init 29 = .ok (.bipush 6, 2) := by decide +kernel
theorem dX0_init_31 : decode cX0_init 31 = .ok (.newarray .int, 2) := by decide +kernel
theorem dX0_init_33 : decode cX0_init 33 = .ok (.putfield 19, 3) := by decide +kernel
theorem dX0_init_36 : decode cX0_init 36 = .ok (.aload_n 0, 1) := by decide +kernel
theorem dX0_init_37 : decode cX0_init 37 = .ok (.bipush 6, 2) := by decide +kernel
theorem dX0_init_39 : decode cX0_init 39 = .ok (.bipush 6, 2) := by decide +kernel
theorem dX0_init_41 : decode cX0_init 41 = .ok (.multianewarray 9 2, 4) := by decide +kernel
theorem dX0_init_45 : decode cX0_init 45 = .ok (.putfield 23, 3) := by decide +kernel
theorem dX0_init_48 : decode cX0_init 48 = .ok (.aload_n 0, 1) := by decide +kernel
theorem dX0_init_49 : decode cX0_init 49 = .ok (.iconst 0, 1) := by decide +kernel
theorem dX0_init_50 : decode cX0_init 50 = .ok (.putfield 26, 3) := by decide +kernel
theorem dX0_init_53 : decode cX0_init 53 = .ok (.iconst 0, 1) := by decide +kernel
theorem dX0_init_54 : decode cX0_init 54 = .ok (.istore_n 1, 1) := by decide +kernel
theorem dX0_init_55 : decode cX0_init 55 = .ok (.iload_n 1, 1) := by decide +kernel
theorem dX0_init_56 : decode cX0_init 56 = .ok (.bipush 6, 2) := by decide +kernel
theorem dX0_init_58 : decode cX0_init 58 = .ok (.if_icmp .ge 25, 3) := by decide +kernel
theorem dX0_init_61 : decode cX0_init 61 = .ok (.getstatic 30, 3) := by decide +kernel
theorem dX0_init_64 : decode cX0_init 64 = .ok (.iconst 0, 1) := by decide +kernel
theorem dX0_init_65 : decode cX0_init 65 = .ok (.aload_n 0, 1) := by decide +kernel
theorem dX0_init_66 : decode cX0_init 66 = .ok (.getfield 16, 3) := by decide +kernel
theorem dX0_init_69 : decode cX0_init 69 = .ok (.iload_n 1, 1) := by decide +kernel
theorem dX0_init_70 : decode cX0_init 70 = .ok (.aaload, 1) := by decide +kernel
theorem dX0_init_71 : decode cX0_init 71 = .ok (.iconst 0, 1) := by decide +kernel
theorem dX0_init_72 : decode cX0_init 72 = .ok (.bipush 9, 2) := by decide +kernel
theorem dX0_init_74 : decode cX0_init 74 = .ok (.invokestatic 33, 3) := by decide +kernel
theorem dX0_init_77 : decode cX0_init 77 = .ok (.iinc 1 1, 3) := by decide +kernel
theorem dX0_init_80 : decode cX0_init 80 = .ok (.goto (-25), 3) := by decide +kernel
theorem dX0_init_83 : decode cX0_init 83 = .ok (.return_, 1) := by decide +kernel
def csX0_init (cI cO : ClassId) (z : Nat) : List va_E := [.inr (0, [.ref (z + 1), .ref (z + 22), .ref (z + 29), .ref (z + 30), .int 0]), .inl (cO, 20, .inr (.inr (.inr (.inr (fun i => some (z + 2 + i)))))), zA cI 7, zA cI 7, zA cI 7, zA cI 7, zA cI 7, zA cI 7, zA cI 7, zA cI 7, zA cI 7, zA cI 7, zA cI 7, zA cI 7, zA cI 7, zA cI 7, zA cI 7, zA cI 7, zA cI 7, zA cI 7, zA cI 7, zA cI 7, .inl (cO, 6, .inr (.inr (.inr (.inr (fun i => some (z + 23 + i)))))), .inl (cI, 9, .inl (va_cpy lawFirst (fun _ => 0) 0 0 9)), .inl (cI, 9, .inl (va_cpy lawFirst (fun _ => 0) 0 0 9)), .inl (cI, 9, .inl (va_cpy lawFirst (fun _ => 0) 0 0 9)), .inl (cI, 9, .inl (va_cpy lawFirst (fun _ => 0) 0 0 9)), .inl (cI, 9, .inl (va_cpy lawFirst (fun _ => 0) 0 0 9)), .inl (cI, 9, .inl (va_cpy lawFirst (fun _ => 0) 0 0 9)), zA cI 6, .inl (cO, 6, .inr (.inr (.inr (.inr (fun i => some (z + 31 + i)))))), zA cI 6, zA cI 6, zA cI 6, zA cI 6, zA cI 6, zA cI 6]
set_option maxHeartbeats 8000000 in
set_option maxRecDepth 20000 in
theorem mX0_init (l : Launch) (D : va_G) (cI cO : ClassId) (ad : Nat → Nat) (z : Nat) : CN l yX0_init cX0_init 2 ({ frames := 1, cells := 36, slots := 268, locals := 40 } : Room) D cI cO ad z (.inr (0, [.null, .null, .null, .null, .int 0])) (csX0_init cI cO z) 36 268 := by
  refine CN.of (by decide +kernel) rfl (Nat.le_of_ble_eq_true rfl) (fun p e s m args below meth c Q ls X hin hl hB hN hfin => ?_)
  have hl : lv_has ls 2 [(0, .ref z)] := hl
  have hx := X.1
  have hb := X.2.1
  have tw : ∀ {w : Cond}, w ∈ tW → w.before args s = true := fun h => X.2.2.2.2 _ (List.mem_cons_of_mem _ h)
  generalize hHe : s.heap = H at hB ⊢
  generalize ([] : List Loc) = locs at hB ⊢
  refine lv_aload_n hx hb dX0_init_0 rfl (lv_at hl 0 rfl) ?_
  refine W.objInit hx hb X.2.2.2.1 (tw u105) (tw u78) (tw u79) rfl (by rw [X.2.2.1]; exact hl.1) rfl dX0_init_1 (Nat.le_of_ble_eq_true rfl) (Nat.le_of_ble_eq_true rfl) ?_
  refine W.eq (g2 := F0 m 4 ls []) rfl ?_
  refine lv_aload_n hx hb dX0_init_4 rfl (lv_at hl 0 rfl) ?_
  refine lv_bipush (v := 20) hx hb dX0_init_5 (by decide +kernel) ?_
  refine lv_bipush (v := 7) hx hb dX0_init_7 (by decide +kernel) ?_
  refine b_mna X hB hN.2.2 u106 u99 (n := 20) (k := 7) (N := 20) (K := 7) (by decide) (by decide) rfl rfl (Nat.le_of_ble_eq_true rfl) (Nat.le_of_ble_eq_true rfl) (Nat.le_of_ble_eq_true rfl) (Nat.le_of_ble_eq_true rfl) (Nat.le_of_ble_eq_true rfl) dX0_init_9 (q := z + 1) rfl (fun H hB => ?_)
  have hB : BD D cI cO z [.inr (0, [.null, .null, .null, .null, .int 0]), .inl (cO, 20, .inr (.inr (.inr (.inr (fun i => some (z + 2 + i)))))), zA cI 7, zA cI 7, zA cI 7, zA cI 7, zA cI 7, zA cI 7, zA cI 7, zA cI 7, zA cI 7, zA cI 7, zA cI 7, zA cI 7, zA cI 7, zA cI 7, zA cI 7, zA cI 7, zA cI 7, zA cI 7, zA cI 7, zA cI 7] s H locs := hB
  refine b_putF X hB 0 rfl rfl i_X0 tyX0_ok nmX0 0 (by decide) u113 ⟨rfl, rfl, rfl⟩ rfl hin rfl mf2 rfl rfl (Nat.le_of_ble_eq_true rfl) rfl dX0_init_13 (fun H locs hB => ?_)
  have hB : BD D cI cO z [.inr (0, [.ref (z + 1), .null, .null, .null, .int 0]), .inl (cO, 20, .inr (.inr (.inr (.inr (fun i => some (z + 2 + i)))))), zA cI 7, zA cI 7, zA cI 7, zA cI 7, zA cI 7, zA cI 7, zA cI 7, zA cI 7, zA cI 7, zA cI 7, zA cI 7, zA cI 7, zA cI 7, zA cI 7, zA cI 7, zA cI 7, zA cI 7, zA cI 7, zA cI 7, zA cI 7] s H locs := hB
  refine lv_aload_n hx hb dX0_init_16 rfl (lv_at hl 0 rfl) ?_
  refine lv_bipush (v := 6) hx hb dX0_init_17 (by decide +kernel) ?_
  refine lv_bipush (v := 9) hx hb dX0_init_19 (by decide +kernel) ?_
  refine b_mna X hB hN.2.2 u106 u99 (n := 6) (k := 9) (N := 6) (K := 9) (by decide) (by decide) rfl rfl (Nat.le_of_ble_eq_true rfl) (Nat.le_of_ble_eq_true rfl) (Nat.le_of_ble_eq_true rfl) (Nat.le_of_ble_eq_true rfl) (Nat.le_of_ble_eq_true rfl) dX0_init_21 (q := z + 22) rfl (fun H hB => ?_)
  have hB : BD D cI cO z [.inr (0, [.ref (z + 1), .null, .null, .null, .int 0]), .inl (cO, 20, .inr (.inr (.inr (.inr (fun i => some (z + 2 + i)))))), zA cI 7, zA cI 7, zA cI 7, zA cI 7, zA cI 7, zA cI 7, zA cI 7, zA cI 7, zA cI 7, zA cI 7, zA cI 7, zA cI 7, zA cI 7, zA cI 7, zA cI 7, zA cI 7, zA cI 7, zA cI 7, zA cI 7, zA cI 7, .inl (cO, 6, .inr (.inr (.inr (.inr (fun i => some (z + 23 + i)))))), zA cI 9, zA cI 9, zA cI 9, zA cI 9, zA cI 9, zA cI 9] s H locs := hB
  refine b_putF X hB 0 rfl rfl i_X0 tyX0_ok nmX0 1 (by decide) u115 ⟨rfl, rfl, rfl⟩ rfl hin rfl mf2 rfl rfl (Nat.le_of_ble_eq_true rfl) rfl dX0_init_25 (fun H locs hB => ?_)
  have hB : BD D cI cO z [.inr (0, [.ref (z + 1), .ref (z + 22), .null, .null, .int 0]), .inl (cO, 20, .inr (.inr (.inr (.inr (fun i => some (z + 2 + i)))))), zA cI 7, zA cI 7, zA cI 7, zA cI 7, zA cI 7, zA cI 7, zA cI 7, zA cI 7, zA cI 7, zA cI 7, zA cI 7, zA cI 7, zA cI 7, zA cI 7, zA cI 7, zA cI 7, zA cI 7, zA cI 7, zA cI 7, zA cI 7, .inl (cO, 6, .inr (.inr (.inr (.inr (fun i => some (z + 23 + i)))))), zA cI 9, zA cI 9, zA cI 9, zA cI 9, zA cI 9, zA cI 9] s H locs := hB
  refine lv_aload_n hx hb dX0_init_28 rfl (lv_at hl 0 rfl) ?_
  refine lv_bipush (v := 6) hx hb dX0_init_29 (by decide +kernel) ?_
  refine b_newa X hB u99 (n := 6) (N := 6) (by decide) rfl (Nat.le_of_ble_eq_true rfl) (Nat.le_of_ble_eq_true rfl) (Nat.le_of_ble_eq_true rfl) dX0_init_31 (q := z + 29) rfl (fun H hB => ?_)
  have hB : BD D cI cO z [.inr (0, [.ref (z + 1), .ref (z + 22), .null, .null, .int 0]), .inl (cO, 20, .inr (.inr (.inr (.inr (fun i => some (z + 2 + i)))))), zA cI 7, zA cI 7, zA cI 7, zA cI 7, zA cI 7, zA cI 7, zA cI 7, zA cI 7, zA cI 7, zA cI 7, zA cI 7, zA cI 7, zA cI 7, zA cI 7, zA cI 7, zA cI 7, zA cI 7, zA cI 7, zA cI 7, zA cI 7, .inl (cO, 6, .inr (.inr (.inr (.inr (fun i => some (z + 23 + i)))))), zA cI 9, zA cI 9, zA cI 9, zA cI 9, zA cI 9, zA cI 9, zA cI 6] s H locs := hB
  refine b_putF X hB 0 rfl rfl i_X0 tyX0_ok nmX0 2 (by decide) u118 ⟨rfl, rfl, rfl⟩ rfl hin rfl mf1 rfl rfl (Nat.le_of_ble_eq_true rfl) rfl dX0_init_33 (fun H locs hB => ?_)
  have hB : BD D cI cO z [.inr (0, [.ref (z + 1), .ref (z + 22), .ref (z + 29), .null, .int 0]), .inl (cO, 20, .inr (.inr (.inr (.inr (fun i => some (z + 2 + i)))))), zA cI 7, zA cI 7, zA cI 7, zA cI 7, zA cI 7, zA cI 7, zA cI 7, zA cI 7, zA cI 7, zA cI 7, zA cI 7, zA cI 7, zA cI 7, zA cI 7, zA cI 7, zA cI 7, zA cI 7, zA cI 7, zA cI 7, zA cI 7, .inl (cO, 6, .inr (.inr (.inr (.inr (fun i => some (z + 23 + i)))))), zA cI 9, zA cI 9, zA cI 9, zA cI 9, zA cI 9, zA cI 9, zA cI 6] s H locs := hB
  refine lv_aload_n hx hb dX0_init_36 rfl (lv_at hl 0 rfl) ?_
  refine lv_bipush (v := 6) hx hb dX0_init_37 (by decide +kernel) ?_
  refine lv_bipush (v := 6) hx hb dX0_init_39 (by decide +kernel) ?_
  refine b_mna X hB hN.2.2 u106 u99 (n := 6) (k := 6) (N := 6) (K := 6) (by decide) (by decide) rfl rfl (Nat.le_of_ble_eq_true rfl) (Nat.le_of_ble_eq_true rfl) (Nat.le_of_ble_eq_true rfl) (Nat.le_of_ble_eq_true rfl) (Nat.le_of_ble_eq_true rfl) dX0_init_41 (q := z + 30) rfl (fun H hB => ?_)
  have hB : BD D cI cO z [.inr (0, [.ref (z + 1), .ref (z + 22), .ref (z + 29), .null, .int 0]), .inl (cO, 20, .inr (.inr (.inr (.inr (fun i => some (z + 2 + i)))))), zA cI 7, zA cI 7, zA cI 7, zA cI 7, zA cI 7, zA cI 7, zA cI 7, zA cI 7, zA cI 7, zA cI 7, zA cI 7, zA cI 7, zA cI 7, zA cI 7, zA cI 7, zA cI 7, zA cI 7, zA cI 7, zA cI 7, zA cI 7, .inl (cO, 6, .inr (.inr (.inr (.inr (fun i => some (z + 23 + i)))))), zA cI 9, zA cI 9, zA cI 9, zA cI 9, zA cI 9, zA cI 9, zA cI 6, .inl (cO, 6, .inr (.inr (.inr (.inr (fun i => some (z + 31 + i)))))), zA cI 6, zA cI 6, zA cI 6, zA cI 6, zA cI 6, zA cI 6] s H locs := hB
  refine b_putF X hB 0 rfl rfl i_X0 tyX0_ok nmX0 3 (by decide) u121 ⟨rfl, rfl, rfl⟩ rfl hin rfl mf2 rfl rfl (Nat.le_of_ble_eq_true rfl) rfl dX0_init_45 (fun H locs hB => ?_)
  have hB : BD D cI cO z [.inr (0, [.ref (z + 1), .ref (z + 22), .ref (z + 29), .ref (z + 30), .int 0]), .inl (cO, 20, .inr (.inr (.inr (.inr (fun i => some (z + 2 + i)))))), zA cI 7, zA cI 7, zA cI 7, zA cI 7, zA cI 7, zA cI 7, zA cI 7, zA cI 7, zA cI 7, zA cI 7, zA cI 7, zA cI 7, zA cI 7, zA cI 7, zA cI 7, zA cI 7, zA cI 7, zA cI 7, zA cI 7, zA cI 7, .inl (cO, 6, .inr (.inr (.inr (.inr (fun i => some (z + 23 + i)))))), zA cI 9, zA cI 9, zA cI 9, zA cI 9, zA cI 9, zA cI 9, zA cI 6, .inl (cO, 6, .inr (.inr (.inr (.inr (fun i => some (z + 31 + i)))))), zA cI 6, zA cI 6, zA cI 6, zA cI 6, zA cI 6, zA cI 6] s H locs := hB
  refine lv_aload_n hx hb dX0_init_48 rfl (lv_at hl 0 rfl) ?_
  refine lv_iconst (v := 0) hx hb dX0_init_49 (by decide) ?_
  refine b_put X hB 0 rfl rfl i_X0 tyX0_ok nmX0 4 (by decide) u124 ⟨rfl, rfl, rfl⟩ rfl pfI rfl rfl (Nat.le_of_ble_eq_true rfl) rfl dX0_init_50 (fun H locs hB => ?_)
  have hB : BD D cI cO z [.inr (0, [.ref (z + 1), .ref (z + 22), .ref (z + 29), .ref (z + 30), .int 0]), .inl (cO, 20, .inr (.inr (.inr (.inr (fun i => some (z + 2 + i)))))), zA cI 7, zA cI 7, zA cI 7, zA cI 7, zA cI 7, zA cI 7, zA cI 7, zA cI 7, zA cI 7, zA cI 7, zA cI 7, zA cI 7, zA cI 7, zA cI 7, zA cI 7, zA cI 7, zA cI 7, zA cI 7, zA cI 7, zA cI 7, .inl (cO, 6, .inr (.inr (.inr (.inr (fun i => some (z + 23 + i)))))), zA cI 9, zA cI 9, zA cI 9, zA cI 9, zA cI 9, zA cI 9, zA cI 6, .inl (cO, 6, .inr (.inr (.inr (.inr (fun i => some (z + 31 + i)))))), zA cI 6, zA cI 6, zA cI 6, zA cI 6, zA cI 6, zA cI 6] s H locs := hB
  refine lv_iconst (v := 0) hx hb dX0_init_53 (by decide) ?_
  refine lv_istore_n (lv' := [(1, .int 0), (0, .ref (z))]) hx hb dX0_init_54 rfl hl (by decide) rfl (fun ls hl => ?_)
  refine lv_iload_n hx hb dX0_init_55 rfl (lv_at hl 0 rfl) ?_
  refine lv_bipush (v := 6) hx hb dX0_init_56 (by decide +kernel) ?_
  refine lv_icmp_ge (tgt := 83) hx hb dX0_init_58 (by decide) (fun c9 => absurd c9 (by decide)) (fun c9 => ?_)
  refine va_getsN hx hb hN.2.1.2.2.1 hB.2.2.1 X.2.2.2.1 (va_Nw.use rfl (hN.1 _ u108)) (fun x h => h) dX0_init_61 ?_
  refine lv_iconst (v := 0) hx hb dX0_init_64 (by decide) ?_
  refine lv_aload_n hx hb dX0_init_65 rfl (lv_at hl 1 rfl) ?_
  refine b_get X hB 0 rfl rfl i_X0 1 (by decide) u115 ⟨rfl, rfl, rfl⟩ rfl rfl dX0_init_66 ?_
  refine lv_iload_n hx hb dX0_init_69 rfl (lv_at hl 0 rfl) ?_
  refine b_aald X hB 22 rfl (i := 0) (by decide) (v := z + 23) rfl rfl dX0_init_70 ?_
  refine lv_iconst (v := 0) hx hb dX0_init_71 (by decide) ?_
  refine lv_bipush (v := 9) hx hb dX0_init_72 (by decide +kernel) ?_
  refine b_copyt X hB hl.1 u110 u112 u111 u62 hN.2.1.2.2.2.2.1 23 (n1 := 9) (g := fun _ => 0) rfl (n := 9) (by decide) (Nat.le_of_ble_eq_true rfl) (Nat.le_of_ble_eq_true rfl) (Nat.le_of_ble_eq_true rfl) (Nat.le_of_ble_eq_true rfl) rfl dX0_init_74 (fun H locs hB => ?_)
  have hB : BD D cI cO z [.inr (0, [.ref (z + 1), .ref (z + 22), .ref (z + 29), .ref (z + 30), .int 0]), .inl (cO, 20, .inr (.inr (.inr (.inr (fun i => some (z + 2 + i)))))), zA cI 7, zA cI 7, zA cI 7, zA cI 7, zA cI 7, zA cI 7, zA cI 7, zA cI 7, zA cI 7, zA cI 7, zA cI 7, zA cI 7, zA cI 7, zA cI 7, zA cI 7, zA cI 7, zA cI 7, zA cI 7, zA cI 7, zA cI 7, .inl (cO, 6, .inr (.inr (.inr (.inr (fun i => some (z + 23 + i)))))), .inl (cI, 9, .inl (va_cpy lawFirst (fun _ => 0) 0 0 9)), zA cI 9, zA cI 9, zA cI 9, zA cI 9, zA cI 9, zA cI 6, .inl (cO, 6, .inr (.inr (.inr (.inr (fun i => some (z + 31 + i)))))), zA cI 6, zA cI 6, zA cI 6, zA cI 6, zA cI 6, zA cI 6] s H locs := hB
  refine lv_iinc (v := 1) (lv' := [(1, .int 1), (0, .ref (z))]) hx hb dX0_init_77 hl (k := 0) rfl rfl (by decide) rfl (fun ls hl => ?_)
  refine lv_goto (tgt := 55) hx hb dX0_init_80 (by decide) ?_
  refine lv_iload_n hx hb dX0_init_55 rfl (lv_at hl 0 rfl) ?_
  refine lv_bipush (v := 6) hx hb dX0_init_56 (by decide +kernel) ?_
  refine lv_icmp_ge (tgt := 83) hx hb dX0_init_58 (by decide) (fun c9 => absurd c9 (by decide)) (fun c9 => ?_)
  refine va_getsN hx hb hN.2.1.2.2.1 hB.2.2.1 X.2.2.2.1 (va_Nw.use rfl (hN.1 _ u108)) (fun x h => h) dX0_init_61 ?_
  refine lv_iconst (v := 0) hx hb dX0_init_64 (by decide) ?_
  refine lv_aload_n hx hb dX0_init_65 rfl (lv_at hl 1 rfl) ?_
  refine b_get X hB 0 rfl rfl i_X0 1 (by decide) u115 ⟨rfl, rfl, rfl⟩ rfl rfl dX0_init_66 ?_
  refine lv_iload_n hx hb dX0_init_69 rfl (lv_at hl 0 rfl) ?_
  refine b_aald X hB 22 rfl (i := 1) (by decide) (v := z + 24) rfl rfl dX0_init_70 ?_
  refine lv_iconst (v := 0) hx hb dX0_init_71 (by decide) ?_
  refine lv_bipush (v := 9) hx hb dX0_init_72 (by decide +kernel) ?_
  refine b_copyt X hB hl.1 u110 u112 u111 u62 hN.2.1.2.2.2.2.1 24 (n1 := 9) (g := fun _ => 0) rfl (n := 9) (by decide) (Nat.le_of_ble_eq_true rfl) (Nat.le_of_ble_eq_true rfl) (Nat.le_of_ble_eq_true rfl) (Nat.le_of_ble_eq_true rfl) rfl dX0_init_74 (fun H locs hB => ?_)
  have hB : BD D cI cO z [.inr (0, [.ref (z + 1), .ref (z + 22), .ref (z + 29), .ref (z + 30), .int 0]), .inl (cO, 20, .inr (.inr (.inr (.inr (fun i => some (z + 2 + i)))))), zA cI 7, zA cI 7, zA cI 7, zA cI 7, zA cI 7, zA cI 7, zA cI 7, zA cI 7, zA cI 7, zA cI 7, zA cI 7, zA cI 7, zA cI 7, zA cI 7, zA cI 7, zA cI 7, zA cI 7, zA cI 7, zA cI 7, zA cI 7, .inl (cO, 6, .inr (.inr (.inr (.inr (fun i => some (z + 23 + i)))))), .inl (cI, 9, .inl (va_cpy lawFirst (fun _ => 0) 0 0 9)), .inl (cI, 9, .inl (va_cpy lawFirst (fun _ => 0) 0 0 9)), zA cI 9, zA cI 9, zA cI 9, zA cI 9, zA cI 6, .inl (cO, 6, .inr (.inr (.inr (.inr (fun i => some (z + 31 + i)))))), zA cI 6, zA cI 6, zA cI 6, zA cI 6, zA cI 6, zA cI 6] s H locs := hB
  refine lv_iinc (v := 2) (lv' := [(1, .int 2), (0, .ref (z))]) hx hb dX0_init_77 hl (k := 0) rfl rfl (by decide) rfl (fun ls hl => ?_)
  refine lv_goto (tgt := 55) hx hb dX0_init_80 (by decide) ?_
  refine lv_iload_n hx hb dX0_init_55 rfl (lv_at hl 0 rfl) ?_
  refine lv_bipush (v := 6) hx hb dX0_init_56 (by decide +kernel) ?_
  refine lv_icmp_ge (tgt := 83) hx hb dX0_init_58 (by decide) (fun c9 => absurd c9 (by decide)) (fun c9 => ?_)
  refine va_getsN hx hb hN.2.1.2.2.1 hB.2.2.1 X.2.2.2.1 (va_Nw.use rfl (hN.1 _ u108)) (fun x h => h) dX0_init_61 ?_
  refine lv_iconst (v := 0) hx hb dX0_init_64 (by decide) ?_
  refine lv_aload_n hx hb dX0_init_65 rfl (lv_at hl 1 rfl) ?_
  refine b_get X hB 0 rfl rfl i_X0 1 (by decide) u115 ⟨rfl, rfl, rfl⟩ rfl rfl dX0_init_66 ?_
  refine lv_iload_n hx hb dX0_init_69 rfl (lv_at hl 0 rfl) ?_
  refine b_aald X hB 22 rfl (i := 2) (by decide) (v := z + 25) rfl rfl dX0_init_70 ?_
  refine lv_iconst (v := 0) hx hb dX0_init_71 (by decide) ?_
  refine lv_bipush (v := 9) hx hb dX0_init_72 (by decide +kernel) ?_
  refine b_copyt X hB hl.1 u110 u112 u111 u62 hN.2.1.2.2.2.2.1 25 (n1 := 9) (g := fun _ => 0) rfl (n := 9) (by decide) (Nat.le_of_ble_eq_true rfl) (Nat.le_of_ble_eq_true rfl) (Nat.le_of_ble_eq_true rfl) (Nat.le_of_ble_eq_true rfl) rfl dX0_init_74 (fun H locs hB => ?_)
  have hB : BD D cI cO z [.inr (0, [.ref (z + 1), .ref (z + 22), .ref (z + 29), .ref (z + 30), .int 0]), .inl (cO, 20, .inr (.inr (.inr (.inr (fun i => some (z + 2 + i)))))), zA cI 7, zA cI 7, zA cI 7, zA cI 7, zA cI 7, zA cI 7, zA cI 7, zA cI 7, zA cI 7, zA cI 7, zA cI 7, zA cI 7, zA cI 7, zA cI 7, zA cI 7, zA cI 7, zA cI 7, zA cI 7, zA cI 7, zA cI 7, .inl (cO, 6, .inr (.inr (.inr (.inr (fun i => some (z + 23 + i)))))), .inl (cI, 9, .inl (va_cpy lawFirst (fun _ => 0) 0 0 9)), .inl (cI, 9, .inl (va_cpy lawFirst (fun _ => 0) 0 0 9)), .inl (cI, 9, .inl (va_cpy lawFirst (fun _ => 0) 0 0 9)), zA cI 9, zA cI 9, zA cI 9, zA cI 6, .inl (cO, 6, .inr (.inr (.inr (.inr (fun i => some (z + 31 + i)))))), zA cI 6, zA cI 6, zA cI 6, zA cI 6, zA cI 6, zA cI 6] s H locs := hB
  refine lv_iinc (v := 3) (lv' := [(1, .int 3), (0, .ref (z))]) hx hb dX0_init_77 hl (k := 0) rfl rfl (by decide) rfl (fun ls hl => ?_)
  refine lv_goto (tgt := 55) hx hb dX0_init_80 (by decide) ?_
  refine lv_iload_n hx hb dX0_init_55 rfl (lv_at hl 0 rfl) ?_
  refine lv_bipush (v := 6) hx hb dX0_init_56 (by decide +kernel) ?_
  refine lv_icmp_ge (tgt := 83) hx hb dX0_init_58 (by decide) (fun c9 => absurd c9 (by decide)) (fun c9 => ?_)
  refine va_getsN hx hb hN.2.1.2.2.1 hB.2.2.1 X.2.2.2.1 (va_Nw.use rfl (hN.1 _ u108)) (fun x h => h) dX0_init_61 ?_
  refine lv_iconst (v := 0) hx hb dX0_init_64 (by decide) ?_
  refine lv_aload_n hx hb dX0_init_65 rfl (lv_at hl 1 rfl) ?_
  refine b_get X hB 0 rfl rfl i_X0 1 (by decide) u115 ⟨rfl, rfl, rfl⟩ rfl rfl dX0_init_66 ?_
  refine lv_iload_n hx hb dX0_init_69 rfl (lv_at hl 0 rfl) ?_
  refine b_aald X hB 22 rfl (i := 3) (by decide) (v := z + 26) rfl rfl dX0_init_70 ?_
  refine lv_iconst (v := 0) hx hb dX0_init_71 (by decide) ?_
  refine lv_bipush (v := 9) hx hb dX0_init_72 (by decide +kernel) ?_
  refine b_copyt X hB hl.1 u110 u112 u111 u62 hN.2.1.2.2.2.2.1 26 (n1 := 9) (g := fun _ => 0) rfl (n := 9) (by decide) (Nat.le_of_ble_eq_true rfl) (Nat.le_of_ble_eq_true rfl) (Nat.le_of_ble_eq_true rfl) (Nat.le_of_ble_eq_true rfl) rfl dX0_init_74 (fun H locs hB => ?_)
  have hB : BD D cI cO z [.inr (0, [.ref (z + 1), .ref (z + 22), .ref (z + 29), .ref (z + 30), .int 0]), .inl (cO, 20, .inr (.inr (.inr (.inr (fun i => some (z + 2 + i)))))), zA cI 7, zA cI 7, zA cI 7, zA cI 7, zA cI 7, zA cI 7, zA cI 7, zA cI 7, zA cI 7, zA cI 7, zA cI 7, zA cI 7, zA cI 7, zA cI 7, zA cI 7, zA cI 7, zA cI 7, zA cI 7, zA cI 7, zA cI 7, .inl (cO, 6, .inr (.inr (.inr (.inr (fun i => some (z + 23 + i)))))), .inl (cI, 9, .inl (va_cpy lawFirst (fun _ => 0) 0 0 9)), .inl (cI, 9, .inl (va_cpy lawFirst (fun _ => 0) 0 0 9)), .inl (cI, 9, .inl (va_cpy lawFirst (fun _ => 0) 0 0 9)), .inl (cI, 9, .inl (va_cpy lawFirst (fun _ => 0) 0 0 9)), zA cI 9, zA cI 9, zA cI 6, .inl (cO, 6, .inr (.inr (.inr (.inr (fun i => some (z + 31 + i)))))), zA cI 6, zA cI 6, zA cI 6, zA cI 6, zA cI 6, zA cI 6] s H locs := hB
  refine lv_iinc (v := 4) (lv' := [(1, .int 4), (0, .ref (z))]) hx hb dX0_init_77 hl (k := 0) rfl rfl (by decide) rfl (fun ls hl => ?_)
  refine lv_goto (tgt := 55) hx hb dX0_init_80 (by decide) ?_
  refine lv_iload_n hx hb dX0_init_55 rfl (lv_at hl 0 rfl) ?_
  refine lv_bipush (v := 6) hx hb dX0_init_56 (by decide +kernel) ?_
  refine lv_icmp_ge (tgt := 83) hx hb dX0_init_58 (by decide) (fun c9 => absurd c9 (by decide)) (fun c9 => ?_)
  refine va_getsN hx hb hN.2.1.2.2.1 hB.2.2.1 X.2.2.2.1 (va_Nw.use rfl (hN.1 _ u108)) (fun x h => h) dX0_init_61 ?_
  refine lv_iconst (v := 0) hx hb dX0_init_64 (by decide) ?_
  refine lv_aload_n hx hb dX0_init_65 rfl (lv_at hl 1 rfl) ?_
  refine b_get X hB 0 rfl rfl i_X0 1 (by decide) u115 ⟨rfl, rfl, rfl⟩ rfl rfl dX0_init_66 ?_
  refine lv_iload_n hx hb dX0_init_69 rfl (lv_at hl 0 rfl) ?_
  refine b_aald X hB 22 rfl (i := 4) (by decide) (v := z + 27) rfl rfl dX0_init_70 ?_
  refine lv_iconst (v := 0) hx hb dX0_init_71 (by decide) ?_
  refine lv_bipush (v := 9) hx hb dX0_init_72 (by decide +kernel) ?_
  refine b_copyt X hB hl.1 u110 u112 u111 u62 hN.2.1.2.2.2.2.1 27 (n1 := 9) (g := fun _ => 0) rfl (n := 9) (by decide) (Nat.le_of_ble_eq_true rfl) (Nat.le_of_ble_eq_true rfl) (Nat.le_of_ble_eq_true rfl) (Nat.le_of_ble_eq_true rfl) rfl dX0_init_74 (fun H locs hB => ?_)
  have hB : BD D cI cO z [.inr (0, [.ref (z + 1), .ref (z + 22), .ref (z + 29), .ref (z + 30), .int 0]), .inl (cO, 20, .inr (.inr (.inr (.inr (fun i => some (z + 2 + i)))))), zA cI 7, zA cI 7, zA cI 7, zA cI 7, zA cI 7, zA cI 7, zA cI 7, zA cI 7, zA cI 7, zA cI 7, zA cI 7, zA cI 7, zA cI 7, zA cI 7, zA cI 7, zA cI 7, zA cI 7, zA cI 7, zA cI 7, zA cI 7, .inl (cO, 6, .inr (.inr (.inr (.inr (fun i => some (z + 23 + i)))))), .inl (cI, 9, .inl (va_cpy lawFirst (fun _ => 0) 0 0 9)), .inl (cI, 9, .inl (va_cpy lawFirst (fun _ => 0) 0 0 9)), .inl (cI, 9, .inl (va_cpy lawFirst (fun _ => 0) 0 0 9)), .inl (cI, 9, .inl (va_cpy lawFirst (fun _ => 0) 0 0 9)), .inl (cI, 9, .inl (va_cpy lawFirst (fun _ => 0) 0 0 9)), zA cI 9, zA cI 6, .inl (cO, 6, .inr (.inr (.inr (.inr (fun i => some (z + 31 + i)))))), zA cI 6, zA cI 6, zA cI 6, zA cI 6, zA cI 6, zA cI 6] s H locs := hB
  refine lv_iinc (v := 5) (lv' := [(1, .int 5), (0, .ref (z))]) hx hb dX0_init_77 hl (k := 0) rfl rfl (by decide) rfl (fun ls hl => ?_)
  refine lv_goto (tgt := 55) hx hb dX0_init_80 (by decide) ?_
  refine lv_iload_n hx hb dX0_init_55 rfl (lv_at hl 0 rfl) ?_
  refine lv_bipush (v := 6) hx hb dX0_init_56 (by decide +kernel) ?_
  refine lv_icmp_ge (tgt := 83) hx hb dX0_init_58 (by decide) (fun c9 => absurd c9 (by decide)) (fun c9 => ?_)
  refine va_getsN hx hb hN.2.1.2.2.1 hB.2.2.1 X.2.2.2.1 (va_Nw.use rfl (hN.1 _ u108)) (fun x h => h) dX0_init_61 ?_
  refine lv_iconst (v := 0) hx hb dX0_init_64 (by decide) ?_
  refine lv_aload_n hx hb dX0_init_65 rfl (lv_at hl 1 rfl) ?_
  refine b_get X hB 0 rfl rfl i_X0 1 (by decide) u115 ⟨rfl, rfl, rfl⟩ rfl rfl dX0_init_66 ?_
  refine lv_iload_n hx hb dX0_init_69 rfl (lv_at hl 0 rfl) ?_
  refine b_aald X hB 22 rfl (i := 5) (by decide) (v := z + 28) rfl rfl dX0_init_70 ?_
  refine lv_iconst (v := 0) hx hb dX0_init_71 (by decide) ?_
  refine lv_bipush (v := 9) hx hb dX0_init_72 (by decide +kernel) ?_
  refine b_copyt X hB hl.1 u110 u112 u111 u62 hN.2.1.2.2.2.2.1 28 (n1 := 9) (g := fun _ => 0) rfl (n := 9) (by decide) (Nat.le_of_ble_eq_true rfl) (Nat.le_of_ble_eq_true rfl) (Nat.le_of_ble_eq_true rfl) (Nat.le_of_ble_eq_true rfl) rfl dX0_init_74 (fun H locs hB => ?_)
  have hB : BD D cI cO z [.inr (0, [.ref (z + 1), .ref (z + 22), .ref (z + 29), .ref (z + 30), .int 0]), .inl (cO, 20, .inr (.inr (.inr (.inr (fun i => some (z + 2 + i)))))), zA cI 7, zA cI 7, zA cI 7, zA cI 7, zA cI 7, zA cI 7, zA cI 7, zA cI 7, zA cI 7, zA cI 7, zA cI 7, zA cI 7, zA cI 7, zA cI 7, zA cI 7, zA cI 7, zA cI 7, zA cI 7, zA cI 7, zA cI 7, .inl (cO, 6, .inr (.inr (.inr (.inr (fun i => some (z + 23 + i)))))), .inl (cI, 9, .inl (va_cpy lawFirst (fun _ => 0) 0 0 9)), .inl (cI, 9, .inl (va_cpy lawFirst (fun _ => 0) 0 0 9)), .inl (cI, 9, .inl (va_cpy lawFirst (fun _ => 0) 0 0 9)), .inl (cI, 9, .inl (va_cpy lawFirst (fun _ => 0) 0 0 9)), .inl (cI, 9, .inl (va_cpy lawFirst (fun _ => 0) 0 0 9)), .inl (cI, 9, .inl (va_cpy lawFirst (fun _ => 0) 0 0 9)), zA cI 6, .inl (cO, 6, .inr (.inr (.inr (.inr (fun i => some (z + 31 + i)))))), zA cI 6, zA cI 6, zA cI 6, zA cI 6, zA cI 6, zA cI 6] s H locs := hB
  refine lv_iinc (v := 6) (lv' := [(1, .int 6), (0, .ref (z))]) hx hb dX0_init_77 hl (k := 0) rfl rfl (by decide) rfl (fun ls hl => ?_)
  refine lv_goto (tgt := 55) hx hb dX0_init_80 (by decide) ?_
  refine lv_iload_n hx hb dX0_init_55 rfl (lv_at hl 0 rfl) ?_
  refine lv_bipush (v := 6) hx hb dX0_init_56 (by decide +kernel) ?_
  refine lv_icmp_ge (tgt := 83) hx hb dX0_init_58 (by decide) (fun c9 => ?_) (fun c9 => absurd (by decide) c9)
  exact hfin _ _ _ _ hB dX0_init_83

