/-! what the premises give of statics and strings -/
def tmS (i : Nat) : Term := if i = 0 then .string "NineLands$Tape" 22 else .string "NineLands$Tape" 28
theorem sB_of {args : Array Value} {s : State} (hts : ∀ w ∈ lw_tbl, w.before args s = true) (hgv : (Jvm.Cond.and given_1 narrow_1).before args s = true) : ∃ tb : Nat → Nat, ∀ ad : Nat → Nat, (∀ k, 109 ≤ k → ad k = tb k) → sB ad (fun q => s.heap.size ≤ q) s s.heap := by
  have hs := flat_of_before _ hgv
  have hA : ∀ a : Nat, a < s.heap.size → ¬ (fun q => s.heap.size ≤ q) a := fun a h => Nat.not_le.mpr h
  have zC : va_Z "java/lang/String" "COMPACT_STRINGS" "Z" (.int 1) (fun q => s.heap.size ≤ q) s s.heap := va_Zof (hts (.laysStatic "java/lang/String" "COMPACT_STRINGS" "Z") (by decide +kernel)) (hts (.initialized "java/lang/String") (by decide +kernel)) (va_eqi (hs _ (by decide +kernel))) hA
  obtain ⟨tM, eM, TM⟩ := va_Tof (args := args) (s := s) (tm := .static "NineLands" "LAW_AT_MOST" "[I") (ty := .int) (N := 9) (f := fun j => .int (lawMost j)) (A := fun q => s.heap.size ≤ q) (by decide) (hs _ (by decide +kernel)) (va_eqt (hs _ (by decide +kernel))) (fun j hj => va_eqt (by
    rcases (show j = 0 ∨ j = 1 ∨ j = 2 ∨ j = 3 ∨ j = 4 ∨ j = 5 ∨ j = 6 ∨ j = 7 ∨ j = 8 by omega) with rfl | rfl | rfl | rfl | rfl | rfl | rfl | rfl | rfl <;> exact hs _ (by decide +kernel))) hA
  obtain ⟨tF, eF, TF⟩ := va_Tof (args := args) (s := s) (tm := .static "NineLands" "LAW_AT_FIRST" "[I") (ty := .int) (N := 9) (f := fun j => .int (lawFirst j)) (A := fun q => s.heap.size ≤ q) (by decide) (hs _ (by decide +kernel)) (va_eqt (hs _ (by decide +kernel))) (fun j hj => va_eqt (by
    rcases (show j = 0 ∨ j = 1 ∨ j = 2 ∨ j = 3 ∨ j = 4 ∨ j = 5 ∨ j = 6 ∨ j = 7 ∨ j = 8 by omega) with rfl | rfl | rfl | rfl | rfl | rfl | rfl | rfl | rfl <;> exact hs _ (by decide +kernel))) hA
  have zM : va_Z "NineLands" "LAW_AT_MOST" "[I" (.ref tM) (fun q => s.heap.size ≤ q) s s.heap := va_Zof (hts (.laysStatic "NineLands" "LAW_AT_MOST" "[I") (by decide +kernel)) (hts (.initialized "NineLands") (by decide +kernel)) eM hA
  have zF : va_Z "NineLands" "LAW_AT_FIRST" "[I" (.ref tF) (fun q => s.heap.size ≤ q) s s.heap := va_Zof (hts (.laysStatic "NineLands" "LAW_AT_FIRST" "[I") (by decide +kernel)) (hts (.initialized "NineLands") (by decide +kernel)) eF hA
  have two : ∀ i : Nat, i < 2 → i = 0 ∨ i = 1 := fun i h => by omega
  obtain ⟨adK, adV, hS, hR⟩ := vk_Sof (args := args) (s := s) (N := 2) (tm := tmS) (len := strL) (byt := strB) (A := fun q => s.heap.size ≤ q) (fun i hi => by rcases two i hi with rfl | rfl <;> decide) (fun i hi => by rcases two i hi with rfl | rfl <;> exact hs _ (by decide +kernel)) (fun i hi => by rcases two i hi with rfl | rfl <;> exact hs _ (by decide +kernel)) (fun i hi => by rcases two i hi with rfl | rfl <;> exact hs _ (by decide +kernel)) (fun i hi => by rcases two i hi with rfl | rfl <;> exact hs _ (by decide +kernel)) (fun i hi j hj => by
    rcases two i hi with rfl | rfl
    · have hj : j < 6 := hj
      rcases (show j = 0 ∨ j = 1 ∨ j = 2 ∨ j = 3 ∨ j = 4 ∨ j = 5 by omega) with rfl | rfl | rfl | rfl | rfl | rfl <;> exact hs _ (by decide +kernel)
    · have hj : j < 4 := hj
      rcases (show j = 0 ∨ j = 1 ∨ j = 2 ∨ j = 3 by omega) with rfl | rfl | rfl | rfl <;> exact hs _ (by decide +kernel)) (fun i j hi hj hij => by
    rcases two i hi with rfl | rfl <;> rcases two j hj with rfl | rfl
    · exact absurd rfl hij
    · exact Or.inl (hs _ (by decide +kernel))
    · exact Or.inr (hs _ (by decide +kernel))
    · exact absurd rfl hij) hA
  refine ⟨fun k => if k = 110 then adK 0 else if k = 111 then adK 1 else if k = 112 then adV 0 else if k = 113 then adV 1 else if k = 114 then tF else tM, fun ad had => ?_⟩
  have e0 : ad 110 = adK 0 := had 110 (by omega)
  have e1 : ad 111 = adK 1 := had 111 (by omega)
  have e2 : ad 112 = adV 0 := had 112 (by omega)
  have e3 : ad 113 = adV 1 := had 113 (by omega)
  have e4 : ad 114 = tF := had 114 (by omega)
  have e5 : ad 115 = tM := had 115 (by omega)
  have eK : ∀ i, i < 2 → ad (110 + i) = adK i := fun i hi => by rcases two i hi with rfl | rfl; exact e0; exact e1
  have eV : ∀ i, i < 2 → ad (112 + i) = adV i := fun i hi => by rcases two i hi with rfl | rfl; exact e2; exact e3
  refine ⟨zC, by rw [e5]; exact zM, by rw [e4]; exact zF, by rw [e5]; exact TM, by rw [e4]; exact TF, ⟨fun i hi => ?_, fun i j hi hj e => hS.2 i j hi hj (by rw [← eK i hi, ← eK j hj]; exact e)⟩, ?_, ?_⟩
  · dsimp only
    rw [eK i hi, eV i hi]
    exact hS.1 i hi
  · rw [e0]
    exact vk_R.of (hts (.stringRef "NineLands$Tape" 22 "012345") (by decide +kernel)) (hR 0 (by omega))
  · rw [e1]
    exact vk_R.of (hts (.stringRef "NineLands$Tape" 28 "sfab") (by decide +kernel)) (hR 1 (by omega))
theorem nOk_of {args : Array Value} {s : State} (hts : ∀ w ∈ lw_tbl, w.before args s = true) : nOk s := fun w hw => by
  have h2 := (List.mem_filter.mp hw).2
  have h3 := hts w (List.mem_filter.mp hw).1
  cases w <;> first | (cases h2; done) | exact va_Nw.of rfl h3
theorem K_of {args : Array Value} {s : State} (hts : ∀ w ∈ lw_tbl, w.before args s = true) : ∃ (D : va_G) (cI cO : ClassId), va_K D clsL (tysL cI cO) s := by
  obtain ⟨k0, i0, h0⟩ := u_known (C := RX0) (T := TX0) (N := 5) (n := 5) hts (fun w h => (List.mem_filter.mp (i_X0 w h)).1) (hts (.instantiable "NineLands$Book" 5) (by decide +kernel))
  obtain ⟨k1, i1, h1⟩ := u_known (C := RX1) (T := TX1) (N := 10) (n := 10) hts (fun w h => (List.mem_filter.mp (i_X1 w h)).1) (hts (.instantiable "NineLands$Sums" 10) (by decide +kernel))
  obtain ⟨k2, i2, h2⟩ := u_known (C := RX2) (T := TX2) (N := 3) (n := 3) hts (fun w h => (List.mem_filter.mp (i_X2 w h)).1) (hts (.instantiable "NineLands$Tape" 3) (by decide +kernel))
  obtain ⟨k3, i3, h3⟩ := u_known (C := RX3) (T := TX3) (N := 8) (n := 8) hts (fun w h => (List.mem_filter.mp (i_X3 w h)).1) (hts (.instantiable "NineLands" 8) (by decide +kernel))
  obtain ⟨k4, i4, h4⟩ := u_known (C := RX4) (T := TX4) (N := 30) (n := 30) hts (fun w h => (List.mem_filter.mp (i_X4 w h)).1) (hts (.instantiable "NineLandsModel" 30) (by decide +kernel))
  obtain ⟨cI, kI, pI, a1, a2, a3⟩ := Cond.arrayClass_spec (hts (.arrayClass .int) (by decide +kernel))
  obtain ⟨pO, cO, kO, b1, b2, b3, b4⟩ := Cond.arrayOver_specA (hts (.arrayOver (.array .int)) (by decide +kernel))
  refine ⟨(fun k => if k = 0 then k0 else if k = 1 then k1 else if k = 2 then k2 else if k = 3 then k3 else k4, fun k => if k = 0 then i0 else if k = 1 then i1 else if k = 2 then i2 else if k = 3 then i3 else i4), cI, cO, fun k q hq => ?_, fun k q hq => ?_⟩
  · match k, hq with
    | 0, hq => cases hq; exact h0
    | 1, hq => cases hq; exact h1
    | 2, hq => cases hq; exact h2
    | 3, hq => cases hq; exact h3
    | 4, hq => cases hq; exact h4
    | k + 5, hq => simp [clsL] at hq
  · match k, hq with
    | 0, hq => cases hq; exact ⟨fun n z => ⟨fun k h => (by cases h), kI, a2, pI, a3⟩, a1⟩
    | 1, hq => cases hq; exact ⟨fun n z => ⟨fun k h => (by cases h), kO, b2, pO, b3⟩, b4⟩
    | k + 2, hq => simp [tysL] at hq
theorem ov_of {args : Array Value} {s : State} (hts : ∀ w ∈ lw_tbl, w.before args s = true) : ovI.before #[] s = true := hts (.arrayOver (.array .int)) (by decide +kernel)
