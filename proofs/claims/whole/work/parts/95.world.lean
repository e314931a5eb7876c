/-! the world behind the makings -/
def piL : List Nat := [0, 1, 3, 40, 77, 87, 4, 25, 33, 41, 62, 70, 88, 89, 90, 91, 92, 93, 94, 95, 96, 97, 98, 99, 100, 101, 102, 103, 104, 105, 106, 107, 108, 2, 32, 69, 78, 79, 80, 81, 82, 83, 84, 85, 86, 5, 6, 7, 8, 9, 10, 11, 12, 13, 14, 15, 16, 17, 18, 19, 20, 21, 22, 23, 24, 26, 27, 28, 29, 30, 31, 34, 35, 36, 37, 38, 39, 42, 43, 44, 45, 46, 47, 48, 49, 50, 51, 52, 53, 54, 55, 56, 57, 58, 59, 60, 61, 63, 64, 65, 66, 67, 68, 71, 72, 73, 74, 75, 76]
def ad0 (z : Nat) (tb : Nat → Nat) (k : Nat) : Nat := if k < 109 then z + piL.getD k 0 else tb k
def topL : Nat → Int32 := (upd (upd (upd (upd (upd (upd (upd (upd (upd (fun _ => 0) 0 900) 1 900) 2 99) 3 9999) 4 9999) 5 100) 6 100) 7 50) 8 15)
def ze : Nat → Int32 := fun _ => 0
def S0 : vS := fun a => cond (Nat.beq a 0) (fun j => if j = 3 then -1 else if j = 15 then -9 else if j = 16 then 1 else 0) (cond (Nat.beq a 10) (lawIt 6 0 (fun _ => 0)) (cond (Nat.beq a 13) topL (cond (or (and (Nat.ble 54 a) (Nat.ble a 59)) (and (Nat.ble 86 a) (Nat.ble a 91))) (va_cpy lawFirst (fun _ => 0) 0 0 9) ze)))
theorem pi_inj : ∀ i, i < 109 → ∀ j, j < 109 → piL.getD i 0 = piL.getD j 0 → i = j := by decide +kernel
theorem ad0_in {z k : Nat} {tb : Nat → Nat} (h : k < 109) : ad0 z tb k = z + piL.getD k 0 := if_pos h
theorem ad0_out {z k : Nat} {tb : Nat → Nat} (h : 109 ≤ k) : ad0 z tb k = tb k := if_neg (by omega)
theorem ad0_ge {z k : Nat} {tb : Nat → Nat} (h : k < 109) : z ≤ ad0 z tb k := by rw [ad0_in h]; exact Nat.le_add_right _ _
abbrev csAll (cI cO : ClassId) (z : Nat) : List va_E := csX3_init cI cO z ++ csX4_init cI cO (z + 87)
theorem out_to {H : Heap} {q N : Nat} {c : ClassId} {f g : Nat → Option Nat} (h : H[q]? = some (vp_cell c (N, .inr (.inr (.inr (.inr f)))))) (hfg : ∀ j, j < N → f j = g j) : H[q]? = some (vp_cell c (N, .inr (.inr (.inr (.inr g))))) := by
  rw [h, vp_cell_q, vp_cell_q]
  exact congrArg some (arrV_ext (fun j hj => by rw [hfg j hj]))
theorem pi_6 : ∀ j, j < 20 → piL.getD (11 + (34 + j)) 0 = 5 + j := by decide +kernel
theorem pi_7 : ∀ j, j < 6 → piL.getD (11 + (54 + j)) 0 = 26 + j := by decide +kernel
theorem pi_8 : ∀ j, j < 6 → piL.getD (11 + (60 + j)) 0 = 34 + j := by decide +kernel
theorem pi_9 : ∀ j, j < 20 → piL.getD (11 + (66 + j)) 0 = 42 + j := by decide +kernel
theorem pi_10 : ∀ j, j < 6 → piL.getD (11 + (86 + j)) 0 = 63 + j := by decide +kernel
theorem pi_11 : ∀ j, j < 6 → piL.getD (11 + (92 + j)) 0 = 71 + j := by decide +kernel
set_option maxRecDepth 20000 in
set_option maxHeartbeats 4000000 in
theorem w_obj {D : va_G} {cI cO : ClassId} {z : Nat} {tb : Nat → Nat} {H : Heap} (hW : BW D z (csAll cI cO z) H) : ∀ k, k < 12 → va_at D clsL (ad0 z tb k, cel cI cO (ad0 z tb) S0 k) H := by
  intro k hk
  rcases (show k = 0 ∨ k = 1 ∨ k = 2 ∨ k = 3 ∨ k = 4 ∨ k = 5 ∨ k = 6 ∨ k = 7 ∨ k = 8 ∨ k = 9 ∨ k = 10 ∨ k = 11 by omega) with rfl | rfl | rfl | rfl | rfl | rfl | rfl | rfl | rfl | rfl | rfl | rfl
  · exact hW.2 0 (cel cI cO (ad0 z tb) S0 0) rfl
  · exact hW.2 1 (cel cI cO (ad0 z tb) S0 1) rfl
  · exact hW.2 3 (cel cI cO (ad0 z tb) S0 2) rfl
  · exact hW.2 40 (cel cI cO (ad0 z tb) S0 3) rfl
  · exact hW.2 77 (cel cI cO (ad0 z tb) S0 4) rfl
  · exact hW.2 87 (cel cI cO (ad0 z tb) S0 5) rfl
  · have h : H[z + 4]? = some (vp_cell cO (20, .inr (.inr (.inr (.inr (fun i => some (z + 5 + i))))))) := hW.2 4 _ rfl
    refine out_to (g := fun i => some (ar (ad0 z tb) (34 + i))) h (fun j hj => ?_)
    show some (z + 5 + j) = some (ad0 z tb (11 + (34 + j)))
    rw [ad0_in (by omega), pi_6 j hj, Nat.add_assoc]
  · have h : H[z + 25]? = some (vp_cell cO (6, .inr (.inr (.inr (.inr (fun i => some (z + 26 + i))))))) := hW.2 25 _ rfl
    refine out_to (g := fun i => some (ar (ad0 z tb) (54 + i))) h (fun j hj => ?_)
    show some (z + 26 + j) = some (ad0 z tb (11 + (54 + j)))
    rw [ad0_in (by omega), pi_7 j hj, Nat.add_assoc]
  · have h : H[z + 33]? = some (vp_cell cO (6, .inr (.inr (.inr (.inr (fun i => some (z + 34 + i))))))) := hW.2 33 _ rfl
    refine out_to (g := fun i => some (ar (ad0 z tb) (60 + i))) h (fun j hj => ?_)
    show some (z + 34 + j) = some (ad0 z tb (11 + (60 + j)))
    rw [ad0_in (by omega), pi_8 j hj, Nat.add_assoc]
  · have h : H[z + 41]? = some (vp_cell cO (20, .inr (.inr (.inr (.inr (fun i => some (z + 42 + i))))))) := hW.2 41 _ rfl
    refine out_to (g := fun i => some (ar (ad0 z tb) (66 + i))) h (fun j hj => ?_)
    show some (z + 42 + j) = some (ad0 z tb (11 + (66 + j)))
    rw [ad0_in (by omega), pi_9 j hj, Nat.add_assoc]
  · have h : H[z + 62]? = some (vp_cell cO (6, .inr (.inr (.inr (.inr (fun i => some (z + 63 + i))))))) := hW.2 62 _ rfl
    refine out_to (g := fun i => some (ar (ad0 z tb) (86 + i))) h (fun j hj => ?_)
    show some (z + 63 + j) = some (ad0 z tb (11 + (86 + j)))
    rw [ad0_in (by omega), pi_10 j hj, Nat.add_assoc]
  · have h : H[z + 70]? = some (vp_cell cO (6, .inr (.inr (.inr (.inr (fun i => some (z + 71 + i))))))) := hW.2 70 _ rfl
    refine out_to (g := fun i => some (ar (ad0 z tb) (92 + i))) h (fun j hj => ?_)
    show some (z + 71 + j) = some (ad0 z tb (11 + (92 + j)))
    rw [ad0_in (by omega), pi_11 j hj, Nat.add_assoc]
set_option maxRecDepth 20000 in
set_option maxHeartbeats 4000000 in
theorem w_arr0 {D : va_G} {cI cO : ClassId} {z : Nat} {tb : Nat → Nat} {H : Heap} (hW : BW D z (csAll cI cO z) H) : ∀ k, 12 ≤ k → k < 21 → va_at D clsL (ad0 z tb k, cel cI cO (ad0 z tb) S0 k) H := by
  intro k h1 h2
  rcases (show k = 12 ∨ k = 13 ∨ k = 14 ∨ k = 15 ∨ k = 16 ∨ k = 17 ∨ k = 18 ∨ k = 19 ∨ k = 20 by omega) with rfl | rfl | rfl | rfl | rfl | rfl | rfl | rfl | rfl
  · exact hW.2 88 (cel cI cO (ad0 z tb) S0 12) rfl
  · exact hW.2 89 (cel cI cO (ad0 z tb) S0 13) rfl
  · exact hW.2 90 (cel cI cO (ad0 z tb) S0 14) rfl
  · exact hW.2 91 (cel cI cO (ad0 z tb) S0 15) rfl
  · exact hW.2 92 (cel cI cO (ad0 z tb) S0 16) rfl
  · exact hW.2 93 (cel cI cO (ad0 z tb) S0 17) rfl
  · exact hW.2 94 (cel cI cO (ad0 z tb) S0 18) rfl
  · exact hW.2 95 (cel cI cO (ad0 z tb) S0 19) rfl
  · exact hW.2 96 (cel cI cO (ad0 z tb) S0 20) rfl
set_option maxRecDepth 20000 in
set_option maxHeartbeats 4000000 in
theorem w_arr1 {D : va_G} {cI cO : ClassId} {z : Nat} {tb : Nat → Nat} {H : Heap} (hW : BW D z (csAll cI cO z) H) : ∀ k, 21 ≤ k → k < 30 → va_at D clsL (ad0 z tb k, cel cI cO (ad0 z tb) S0 k) H := by
  intro k h1 h2
  rcases (show k = 21 ∨ k = 22 ∨ k = 23 ∨ k = 24 ∨ k = 25 ∨ k = 26 ∨ k = 27 ∨ k = 28 ∨ k = 29 by omega) with rfl | rfl | rfl | rfl | rfl | rfl | rfl | rfl | rfl
  · exact hW.2 97 (cel cI cO (ad0 z tb) S0 21) rfl
  · exact hW.2 98 (cel cI cO (ad0 z tb) S0 22) rfl
  · exact hW.2 99 (cel cI cO (ad0 z tb) S0 23) rfl
  · exact hW.2 100 (cel cI cO (ad0 z tb) S0 24) rfl
  · exact hW.2 101 (cel cI cO (ad0 z tb) S0 25) rfl
  · exact hW.2 102 (cel cI cO (ad0 z tb) S0 26) rfl
  · exact hW.2 103 (cel cI cO (ad0 z tb) S0 27) rfl
  · exact hW.2 104 (cel cI cO (ad0 z tb) S0 28) rfl
  · exact hW.2 105 (cel cI cO (ad0 z tb) S0 29) rfl
set_option maxRecDepth 20000 in
set_option maxHeartbeats 4000000 in
theorem w_arr2 {D : va_G} {cI cO : ClassId} {z : Nat} {tb : Nat → Nat} {H : Heap} (hW : BW D z (csAll cI cO z) H) : ∀ k, 30 ≤ k → k < 39 → va_at D clsL (ad0 z tb k, cel cI cO (ad0 z tb) S0 k) H := by
  intro k h1 h2
  rcases (show k = 30 ∨ k = 31 ∨ k = 32 ∨ k = 33 ∨ k = 34 ∨ k = 35 ∨ k = 36 ∨ k = 37 ∨ k = 38 by omega) with rfl | rfl | rfl | rfl | rfl | rfl | rfl | rfl | rfl
  · exact hW.2 106 (cel cI cO (ad0 z tb) S0 30) rfl
  · exact hW.2 107 (cel cI cO (ad0 z tb) S0 31) rfl
  · exact hW.2 108 (cel cI cO (ad0 z tb) S0 32) rfl
  · exact hW.2 2 (cel cI cO (ad0 z tb) S0 33) rfl
  · exact hW.2 32 (cel cI cO (ad0 z tb) S0 34) rfl
  · exact hW.2 69 (cel cI cO (ad0 z tb) S0 35) rfl
  · exact hW.2 78 (cel cI cO (ad0 z tb) S0 36) rfl
  · exact hW.2 79 (cel cI cO (ad0 z tb) S0 37) rfl
  · exact hW.2 80 (cel cI cO (ad0 z tb) S0 38) rfl
set_option maxRecDepth 20000 in
set_option maxHeartbeats 4000000 in
theorem w_arr3 {D : va_G} {cI cO : ClassId} {z : Nat} {tb : Nat → Nat} {H : Heap} (hW : BW D z (csAll cI cO z) H) : ∀ k, 39 ≤ k → k < 48 → va_at D clsL (ad0 z tb k, cel cI cO (ad0 z tb) S0 k) H := by
  intro k h1 h2
  rcases (show k = 39 ∨ k = 40 ∨ k = 41 ∨ k = 42 ∨ k = 43 ∨ k = 44 ∨ k = 45 ∨ k = 46 ∨ k = 47 by omega) with rfl | rfl | rfl | rfl | rfl | rfl | rfl | rfl | rfl
  · exact hW.2 81 (cel cI cO (ad0 z tb) S0 39) rfl
  · exact hW.2 82 (cel cI cO (ad0 z tb) S0 40) rfl
  · exact hW.2 83 (cel cI cO (ad0 z tb) S0 41) rfl
  · exact hW.2 84 (cel cI cO (ad0 z tb) S0 42) rfl
  · exact hW.2 85 (cel cI cO (ad0 z tb) S0 43) rfl
  · exact hW.2 86 (cel cI cO (ad0 z tb) S0 44) rfl
  · exact hW.2 5 (cel cI cO (ad0 z tb) S0 45) rfl
  · exact hW.2 6 (cel cI cO (ad0 z tb) S0 46) rfl
  · exact hW.2 7 (cel cI cO (ad0 z tb) S0 47) rfl
set_option maxRecDepth 20000 in
set_option maxHeartbeats 4000000 in
theorem w_arr4 {D : va_G} {cI cO : ClassId} {z : Nat} {tb : Nat → Nat} {H : Heap} (hW : BW D z (csAll cI cO z) H) : ∀ k, 48 ≤ k → k < 57 → va_at D clsL (ad0 z tb k, cel cI cO (ad0 z tb) S0 k) H := by
  intro k h1 h2
  rcases (show k = 48 ∨ k = 49 ∨ k = 50 ∨ k = 51 ∨ k = 52 ∨ k = 53 ∨ k = 54 ∨ k = 55 ∨ k = 56 by omega) with rfl | rfl | rfl | rfl | rfl | rfl | rfl | rfl | rfl
  · exact hW.2 8 (cel cI cO (ad0 z tb) S0 48) rfl
  · exact hW.2 9 (cel cI cO (ad0 z tb) S0 49) rfl
  · exact hW.2 10 (cel cI cO (ad0 z tb) S0 50) rfl
  · exact hW.2 11 (cel cI cO (ad0 z tb) S0 51) rfl
  · exact hW.2 12 (cel cI cO (ad0 z tb) S0 52) rfl
  · exact hW.2 13 (cel cI cO (ad0 z tb) S0 53) rfl
  · exact hW.2 14 (cel cI cO (ad0 z tb) S0 54) rfl
  · exact hW.2 15 (cel cI cO (ad0 z tb) S0 55) rfl
  · exact hW.2 16 (cel cI cO (ad0 z tb) S0 56) rfl
set_option maxRecDepth 20000 in
set_option maxHeartbeats 4000000 in
theorem w_arr5 {D : va_G} {cI cO : ClassId} {z : Nat} {tb : Nat → Nat} {H : Heap} (hW : BW D z (csAll cI cO z) H) : ∀ k, 57 ≤ k → k < 66 → va_at D clsL (ad0 z tb k, cel cI cO (ad0 z tb) S0 k) H := by
  intro k h1 h2
  rcases (show k = 57 ∨ k = 58 ∨ k = 59 ∨ k = 60 ∨ k = 61 ∨ k = 62 ∨ k = 63 ∨ k = 64 ∨ k = 65 by omega) with rfl | rfl | rfl | rfl | rfl | rfl | rfl | rfl | rfl
  · exact hW.2 17 (cel cI cO (ad0 z tb) S0 57) rfl
  · exact hW.2 18 (cel cI cO (ad0 z tb) S0 58) rfl
  · exact hW.2 19 (cel cI cO (ad0 z tb) S0 59) rfl
  · exact hW.2 20 (cel cI cO (ad0 z tb) S0 60) rfl
  · exact hW.2 21 (cel cI cO (ad0 z tb) S0 61) rfl
  · exact hW.2 22 (cel cI cO (ad0 z tb) S0 62) rfl
  · exact hW.2 23 (cel cI cO (ad0 z tb) S0 63) rfl
  · exact hW.2 24 (cel cI cO (ad0 z tb) S0 64) rfl
  · exact hW.2 26 (cel cI cO (ad0 z tb) S0 65) rfl
set_option maxRecDepth 20000 in
set_option maxHeartbeats 4000000 in
theorem w_arr6 {D : va_G} {cI cO : ClassId} {z : Nat} {tb : Nat → Nat} {H : Heap} (hW : BW D z (csAll cI cO z) H) : ∀ k, 66 ≤ k → k < 75 → va_at D clsL (ad0 z tb k, cel cI cO (ad0 z tb) S0 k) H := by
  intro k h1 h2
  rcases (show k = 66 ∨ k = 67 ∨ k = 68 ∨ k = 69 ∨ k = 70 ∨ k = 71 ∨ k = 72 ∨ k = 73 ∨ k = 74 by omega) with rfl | rfl | rfl | rfl | rfl | rfl | rfl | rfl | rfl
  · exact hW.2 27 (cel cI cO (ad0 z tb) S0 66) rfl
  · exact hW.2 28 (cel cI cO (ad0 z tb) S0 67) rfl
  · exact hW.2 29 (cel cI cO (ad0 z tb) S0 68) rfl
  · exact hW.2 30 (cel cI cO (ad0 z tb) S0 69) rfl
  · exact hW.2 31 (cel cI cO (ad0 z tb) S0 70) rfl
  · exact hW.2 34 (cel cI cO (ad0 z tb) S0 71) rfl
  · exact hW.2 35 (cel cI cO (ad0 z tb) S0 72) rfl
  · exact hW.2 36 (cel cI cO (ad0 z tb) S0 73) rfl
  · exact hW.2 37 (cel cI cO (ad0 z tb) S0 74) rfl
set_option maxRecDepth 20000 in
set_option maxHeartbeats 4000000 in
theorem w_arr7 {D : va_G} {cI cO : ClassId} {z : Nat} {tb : Nat → Nat} {H : Heap} (hW : BW D z (csAll cI cO z) H) : ∀ k, 75 ≤ k → k < 84 → va_at D clsL (ad0 z tb k, cel cI cO (ad0 z tb) S0 k) H := by
  intro k h1 h2
  rcases (show k = 75 ∨ k = 76 ∨ k = 77 ∨ k = 78 ∨ k = 79 ∨ k = 80 ∨ k = 81 ∨ k = 82 ∨ k = 83 by omega) with rfl | rfl | rfl | rfl | rfl | rfl | rfl | rfl | rfl
  · exact hW.2 38 (cel cI cO (ad0 z tb) S0 75) rfl
  · exact hW.2 39 (cel cI cO (ad0 z tb) S0 76) rfl
  · exact hW.2 42 (cel cI cO (ad0 z tb) S0 77) rfl
  · exact hW.2 43 (cel cI cO (ad0 z tb) S0 78) rfl
  · exact hW.2 44 (cel cI cO (ad0 z tb) S0 79) rfl
  · exact hW.2 45 (cel cI cO (ad0 z tb) S0 80) rfl
  · exact hW.2 46 (cel cI cO (ad0 z tb) S0 81) rfl
  · exact hW.2 47 (cel cI cO (ad0 z tb) S0 82) rfl
  · exact hW.2 48 (cel cI cO (ad0 z tb) S0 83) rfl
set_option maxRecDepth 20000 in
set_option maxHeartbeats 4000000 in
theorem w_arr8 {D : va_G} {cI cO : ClassId} {z : Nat} {tb : Nat → Nat} {H : Heap} (hW : BW D z (csAll cI cO z) H) : ∀ k, 84 ≤ k → k < 93 → va_at D clsL (ad0 z tb k, cel cI cO (ad0 z tb) S0 k) H := by
  intro k h1 h2
  rcases (show k = 84 ∨ k = 85 ∨ k = 86 ∨ k = 87 ∨ k = 88 ∨ k = 89 ∨ k = 90 ∨ k = 91 ∨ k = 92 by omega) with rfl | rfl | rfl | rfl | rfl | rfl | rfl | rfl | rfl
  · exact hW.2 49 (cel cI cO (ad0 z tb) S0 84) rfl
  · exact hW.2 50 (cel cI cO (ad0 z tb) S0 85) rfl
  · exact hW.2 51 (cel cI cO (ad0 z tb) S0 86) rfl
  · exact hW.2 52 (cel cI cO (ad0 z tb) S0 87) rfl
  · exact hW.2 53 (cel cI cO (ad0 z tb) S0 88) rfl
  · exact hW.2 54 (cel cI cO (ad0 z tb) S0 89) rfl
  · exact hW.2 55 (cel cI cO (ad0 z tb) S0 90) rfl
  · exact hW.2 56 (cel cI cO (ad0 z tb) S0 91) rfl
  · exact hW.2 57 (cel cI cO (ad0 z tb) S0 92) rfl
set_option maxRecDepth 20000 in
set_option maxHeartbeats 4000000 in
theorem w_arr9 {D : va_G} {cI cO : ClassId} {z : Nat} {tb : Nat → Nat} {H : Heap} (hW : BW D z (csAll cI cO z) H) : ∀ k, 93 ≤ k → k < 102 → va_at D clsL (ad0 z tb k, cel cI cO (ad0 z tb) S0 k) H := by
  intro k h1 h2
  rcases (show k = 93 ∨ k = 94 ∨ k = 95 ∨ k = 96 ∨ k = 97 ∨ k = 98 ∨ k = 99 ∨ k = 100 ∨ k = 101 by omega) with rfl | rfl | rfl | rfl | rfl | rfl | rfl | rfl | rfl
  · exact hW.2 58 (cel cI cO (ad0 z tb) S0 93) rfl
  · exact hW.2 59 (cel cI cO (ad0 z tb) S0 94) rfl
  · exact hW.2 60 (cel cI cO (ad0 z tb) S0 95) rfl
  · exact hW.2 61 (cel cI cO (ad0 z tb) S0 96) rfl
  · exact hW.2 63 (cel cI cO (ad0 z tb) S0 97) rfl
  · exact hW.2 64 (cel cI cO (ad0 z tb) S0 98) rfl
  · exact hW.2 65 (cel cI cO (ad0 z tb) S0 99) rfl
  · exact hW.2 66 (cel cI cO (ad0 z tb) S0 100) rfl
  · exact hW.2 67 (cel cI cO (ad0 z tb) S0 101) rfl
set_option maxRecDepth 20000 in
set_option maxHeartbeats 4000000 in
theorem w_arr10 {D : va_G} {cI cO : ClassId} {z : Nat} {tb : Nat → Nat} {H : Heap} (hW : BW D z (csAll cI cO z) H) : ∀ k, 102 ≤ k → k < 109 → va_at D clsL (ad0 z tb k, cel cI cO (ad0 z tb) S0 k) H := by
  intro k h1 h2
  rcases (show k = 102 ∨ k = 103 ∨ k = 104 ∨ k = 105 ∨ k = 106 ∨ k = 107 ∨ k = 108 by omega) with rfl | rfl | rfl | rfl | rfl | rfl | rfl
  · exact hW.2 68 (cel cI cO (ad0 z tb) S0 102) rfl
  · exact hW.2 71 (cel cI cO (ad0 z tb) S0 103) rfl
  · exact hW.2 72 (cel cI cO (ad0 z tb) S0 104) rfl
  · exact hW.2 73 (cel cI cO (ad0 z tb) S0 105) rfl
  · exact hW.2 74 (cel cI cO (ad0 z tb) S0 106) rfl
  · exact hW.2 75 (cel cI cO (ad0 z tb) S0 107) rfl
  · exact hW.2 76 (cel cI cO (ad0 z tb) S0 108) rfl
theorem w_all {D : va_G} {cI cO : ClassId} {z : Nat} {tb : Nat → Nat} {H : Heap} (hW : BW D z (csAll cI cO z) H) : va_P D clsL (wd cI cO (ad0 z tb) S0) H := by
  intro k q hq
  obtain ⟨hk, rfl⟩ := wd_get_inv hq
  by_cases g : k < 12
  · exact w_obj hW k g
  by_cases g0 : k < 21
  · exact w_arr0 hW k (by omega) g0
  by_cases g1 : k < 30
  · exact w_arr1 hW k (by omega) g1
  by_cases g2 : k < 39
  · exact w_arr2 hW k (by omega) g2
  by_cases g3 : k < 48
  · exact w_arr3 hW k (by omega) g3
  by_cases g4 : k < 57
  · exact w_arr4 hW k (by omega) g4
  by_cases g5 : k < 66
  · exact w_arr5 hW k (by omega) g5
  by_cases g6 : k < 75
  · exact w_arr6 hW k (by omega) g6
  by_cases g7 : k < 84
  · exact w_arr7 hW k (by omega) g7
  by_cases g8 : k < 93
  · exact w_arr8 hW k (by omega) g8
  by_cases g9 : k < 102
  · exact w_arr9 hW k (by omega) g9
  by_cases g10 : k < 109
  · exact w_arr10 hW k (by omega) g10
  exact absurd hk g10
theorem w_D {cI cO : ClassId} {z : Nat} {tb : Nat → Nat} : va_D (AA (ad0 z tb) z) (wd cI cO (ad0 z tb) S0) := by
  refine ⟨fun i j p q hp hq e => ?_, fun k q hk => ?_⟩
  · obtain ⟨hi, rfl⟩ := wd_get_inv hp
    obtain ⟨hj, rfl⟩ := wd_get_inv hq
    have e1 : ad0 z tb i = ad0 z tb j := e
    rw [ad0_in hi, ad0_in hj] at e1
    exact pi_inj i hi j hj (Nat.add_left_cancel e1)
  · obtain ⟨hk9, rfl⟩ := wd_get_inv hk
    exact AA.in hk9
theorem AA_ge {z q : Nat} {tb : Nat → Nat} (h : AA (ad0 z tb) z q) : z ≤ q := by
  rcases h with ⟨k, hk, rfl⟩ | h
  · exact ad0_ge hk
  · exact h
theorem w_WD {D : va_G} {cI cO : ClassId} {tb : Nat → Nat} {s : State} {H : Heap} {locs : List Loc} (hB : BD D cI cO s.heap.size (csAll cI cO s.heap.size) s H locs) (hN : BN (ad0 s.heap.size tb) s.heap.size s) : WD D cI cO (ad0 s.heap.size tb) s S0 H locs :=
  ⟨hB.1, w_all hB.2.1, w_D, ⟨hB.2.2.1.1, fun q h1 h2 => hB.2.2.1.2.1 q h1 (fun h => h2 (Or.inr h)), fun q hq => Or.inr (hB.2.2.1.2.2 q hq)⟩, hN.1, hN.2.1.narrow (fun q h => AA_ge h)⟩
def lawFN (j : Nat) : Nat := ([120, 780, 10, 0, 9999, 0, 0, 0, 15] : List Nat).getD j 0
def bk0 : Bk := (0, fun _ _ => 0, fun _ j => lawFN j, fun _ => 0, fun _ _ => 0)
theorem bk0_ok : bOk bk0 := by
  refine ⟨fun s h => absurd h (Nat.not_lt_zero s), fun l j _ hj => ?_, fun l _ => Nat.zero_lt_succ 5, fun x y _ _ => ⟨Nat.zero_le 1, rfl, rfl⟩⟩
  have : ∀ j, j < 9 → lawFN j ≤ mostN j := by decide +kernel
  exact this j hj
theorem S0_laws : ∀ l, l < 6 → ∀ j, j < 9 → S0 (54 + l) j = nI (lawFN j) := by decide +kernel
theorem S0_law : ∀ l, l < 6 → ∀ j, j < 9 → S0 10 (9 * l + j) = nI (lawFN j) := by decide +kernel
theorem S0_pacts : ∀ x, x < 6 → ∀ y, y < 6 → S0 (60 + x) y = nI 0 := by decide +kernel
theorem S0_most : ∀ j, j < 9 → S0 13 j = lawMost j := by decide +kernel
theorem S0_IV : IV S0 := by
  refine ⟨⟨bk0, bk0_ok, Nat.zero_le 20, ⟨rfl, fun s c h => absurd h (Nat.not_lt_zero s), fun l j hl hj => S0_laws l hl j hj, fun l _ => rfl, fun x y hx hy => S0_pacts x hx y hy⟩, ⟨fun s c h => absurd h (Nat.not_lt_zero s), fun l j hl hj => S0_law l hl j hj, fun l _ => rfl, fun x y _ _ => rfl⟩, rfl, rfl⟩, ⟨0, Nat.zero_le 16, rfl, rfl, fun j h => absurd h (Nat.not_lt_zero j)⟩, ⟨0, Nat.zero_le 6, rfl, rfl, fun j h => absurd h (Nat.not_lt_zero j)⟩, fun j => rfl, S0_most, false, bk0, rfl, rfl, fun q => absurd q (by decide)⟩
