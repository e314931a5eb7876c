/-! makings: a constructor's contract -/
abbrev ovI : Cond := .arrayOver (.array .int)
def PN (D : va_G) (cI cO : ClassId) (ad : Nat → Nat) (z : Nat) (e0 : va_E) (U : State) : Prop := va_K D clsL (tysL cI cO) U ∧ BW D z [e0] U.heap ∧ nOk U ∧ sB ad (fun q => z ≤ q) U U.heap ∧ ovI.before #[] U = true
def CN (l : Launch) (y : MethodName) (b : ByteArray) (nL : Nat) (rm : Room) (D : va_G) (cI cO : ClassId) (ad : Nat → Nat) (z : Nat) (e0 : va_E) (cs : List va_E) (mc ms : Nat) : Prop := Met l y (.code y b nL none :: tW) rm (va_Pc [.ref z] (PN D cI cO ad z e0)) (va_Qv (fun _ : Unit => True) (fun _ t => BW D z cs t.heap) (fun q => z ≤ q)) mc ms (fun q => z ≤ q)
/-- what a making stands on -/
def BN (ad : Nat → Nat) (z : Nat) (s : State) : Prop := nOk s ∧ sB ad (fun q => z ≤ q) s s.heap ∧ ovI.before #[] s = true
theorem CN.of {l : Launch} {y : MethodName} {b : ByteArray} {nL : Nat} {rm : Room} {D : va_G} {cI cO : ClassId} {ad : Nat → Nat} {z : Nat} {e0 : va_E} {cs : List va_E} {mc ms : Nat} (hy : plainName y.cls = true) (hname : y.name = "<init>") (hn : (lg_sl [Value.ref z]).length ≤ nL)
    (body : ∀ (p : Program) (e : Env) (s : State) (m : MethodId) (args : Array Value) (below : List Frame) (meth : Method) (c : Code) (Q : State → Prop) (ls : Array Slot), CallFix p m c b nL s args (.code y b nL none :: tW) y.cls → meth.name = "<init>" → lv_has ls nL (lv_args 0 [Value.ref z]) → BD D cI cO z [e0] s s.heap [] → BN ad z s →
      (∀ (H : Heap) (locs : List Loc) (pc : Nat) (ls : Array Slot), BD D cI cO z cs s H locs → decode b pc = .ok (.return_, 1) → W p l e rm s m args below meth c H locs mc ms Q (F0 m pc ls [])) →
      W p l e rm s m args below meth c s.heap [] 0 0 Q (F0 m 0 ls [])) : CN l y b nL rm D cI cO ad z e0 cs mc ms := by
  refine Met.ofW (cc := b) (maxL := nL) (ret := none) hy rfl ?_
  intro p e s m args below meth c s₁ B hml hv
  obtain ⟨rfl, hK, hW, hnO, hsB, hov⟩ := hv
  have hts := atoms_spec (ws := .code y b nL none :: tW) B.pre
  have hown : s.vm.findClass y.cls = some m.cls := findClass_of_methodNamed B.named
  have hin : meth.name = "<init>" := (name_of_methodNamed B.named B.method).1.trans hname
  have hlocks := B.notSynchronized
  have hl := lv_entry [Value.ref z] (n := nL) hn
  rw [lg_entry_eq]
  generalize (lg_sl [Value.ref z] ++ List.replicate (nL - (lg_sl [Value.ref z]).length) Slot.unset).toArray = ls at hl ⊢
  refine body p e s m _ below meth c _ ls ⟨B.exec, B.bytes, hml, hown, hts⟩ hin hl ⟨hK, hW, va_S.rf, by rw [hW.1]; omega⟩ ⟨hnO, hsB, hov⟩ ?_
  intro H locs pc ls hB hdg
  exact W.vret B.exec B.bytes B.returns (fun t ht hW => ⟨⟨(), rfl, trivial, by show BW _ _ _ t.heap; rw [ht]; exact hB.2.1⟩, hB.2.2.1.F ht⟩) hB.2.2.1.2.2 hdg
section XN
variable {p : Program} {l : Launch} {e : Env} {R : Room} {s : State} {m : MethodId} {args : Array Value} {below : List Frame} {meth : Method} {c : Code} {H : Heap} {locs : List Loc} {Q : State → Prop} {cc : ByteArray} {pc nL CC SS : Nat} {ls : Array Slot} {rest : List Value} {D : va_G} {cI cO : ClassId} {ad : Nat → Nat} {own : String} {c0 : Cond} {z : Nat} {cs : List va_E}
theorem pn_blind {as : List Value} {z : Nat} {e0 : va_E} : FrameBlind (va_Pc as (PN D cI cO ad z e0)) := fun a U g mk q => by
  obtain ⟨q0, qK, qW, qN, qB, qO⟩ := q
  exact ⟨q0, va_K.moved (u := U) (U := U.calling g mk a) (Vm.Alike.refl U.vm) qK, qW, nOk.same (u := U) (U := U.calling g mk a) rfl qN, sB.same (u := U) (U := U.calling g mk a) rfl qB, arrayOver_alikeB (s := U) (U := U.calling g mk a) (Vm.Alike.refl U.vm) qO⟩
theorem pn_pre {n0 : Nat} {cs0 : List va_E} {e0 : va_E} (hB : BD D cI cO z (cs0 ++ [e0]) s H locs) (hN : BN ad z s) (hn0 : cs0.length = n0) : ∀ U : State, U.heap = H → s.WarmedH U.vm → va_Pc [Value.ref (z + n0)] (PN D cI cO ad (z + n0) e0) [Value.ref (z + n0)].toArray U := fun U hU hW => by
  obtain ⟨hK, hWd, hS, hz⟩ := hB
  refine ⟨rfl, va_K.moved hW.alike hK, ?_, nOk.warm hW hN.1, ?_, arrayOver_alikeB hW.alike hN.2.2⟩
  · rw [hU]
    refine ⟨by rw [hWd.1, List.length_append, hn0]; show _ = z + n0 + 1; rfl, fun k x hx => ?_⟩
    have hk : k < 1 := (List.getElem?_eq_some_iff.mp hx).1
    rw [show k = 0 by omega] at hx ⊢
    cases hx
    exact hWd.2 n0 _ (by rw [List.getElem?_append_right (by omega), hn0, Nat.sub_self]; rfl)
  · rw [hU]
    exact sB.warm hW ((hN.2.1.kept hS.2.1).narrow (fun q (h : z + n0 ≤ q) => show z ≤ q by omega))
theorem bw_join {n0 : Nat} {cs0 cs1 : List va_E} {e0 : va_E} {H1 : Heap} (hW : BW D z (cs0 ++ [e0]) H) (hn0 : cs0.length = n0) (h1 : BW D (z + n0) cs1 H1) (hk : ∀ q : Nat, q < H.size → ¬ z + n0 ≤ q → H1[q]? = H[q]?) : BW D z (cs0 ++ cs1) H1 := by
  subst hn0
  refine ⟨by rw [h1.1, List.length_append]; omega, fun k x hx => ?_⟩
  by_cases h : k < cs0.length
  · rw [List.getElem?_append_left h] at hx
    refine (hW.2 k x (by rw [List.getElem?_append_left h]; exact hx)).kept (hk _ ?_ ?_)
    · show z + k < _
      rw [hW.1, List.length_append]; omega
    · show ¬ _ ≤ z + k
      omega
  · rw [List.getElem?_append_right (by omega)] at hx
    have := h1.2 (k - cs0.length) x hx
    rw [show z + cs0.length + (k - cs0.length) = z + k by omega] at this
    exact this
theorem b_callN (X : CallFix p m c cc nL s args (c0 :: tW) own) {n0 : Nat} {cs0 cs1 : List va_E} {e0 : va_E} (hB : BD D cI cO z (cs0 ++ [e0]) s H locs) (hN : BN ad z s) (hn0 : cs0.length = n0) {y : MethodName} {b : ByteArray} {nM mc ms index : Nat} {rm : Room} {host : String} (hM : CN l y b nM rm D cI cO ad (z + n0) e0 cs1 mc ms) (hrm : rm.cells = mc ∧ rm.slots = ms) (h1 : Cond.methodLinkNest own index y host ∈ nW) (h2 : Cond.instanceMethod y ∈ tW) (h4 : Cond.initialized y.cls ∈ tW) (h5 : Cond.code y b nM none ∈ tW)
    (hd : y.cls ≠ "java/lang/invoke/MethodHandle" ∧ y.cls ≠ "java/lang/invoke/VarHandle" ∧ (parseMethodDescriptor y.desc).map (fun d => d.parameters.length) = some 0) (hy : y.name = "<init>") (hR : rm.frames + 1 ≤ R.frames ∧ 8 + (nM + 11) + rm.locals ≤ R.locals) (hls : ls.size = nL) (hcat : (rest.map fun v => v.category).sum ≤ 8) (hf : CC + mc ≤ R.cells ∧ SS + ms ≤ R.slots) (hdg : decode cc pc = .ok (.invokespecial index, 3)) {a : Nat} (ha : z + n0 = a)
    (kk : ∀ (H1 : Heap) (locs1 : List Loc), BD D cI cO z (cs0 ++ cs1) s H1 locs1 → W p l e R s m args below meth c H1 locs1 (CC + mc) (SS + ms) Q (F0 m (pc + 3) ls rest)) : W p l e R s m args below meth c H locs CC SS Q (F0 m pc ls (.ref a :: rest)) := by
  subst ha
  have hts := X.2.2.2.2
  have tw : ∀ {w : Cond}, w ∈ tW → w.before args s = true := fun h => hts _ (List.mem_cons_of_mem _ h)
  refine va_callv (A0 := fun q => z ≤ q) (H0 := s.heap) (va_runIN (As := []) (rest := rest) X hM ⟨va_cnB 0 hts (gTc h5) rfl hrm.1 hrm.2 (hN.1 _ h1) (tw h4) hd hR, hy, tw h2⟩ ⟨pn_blind, pn_pre hB hN hn0⟩ rfl rfl hls rfl (lv_room hcat) hdg hf) hB.2.2.1 (fun q _ (h : z + n0 ≤ q) => show z ≤ q by omega) (fun q (h : z + n0 ≤ q) => show z ≤ q by omega) (fun u t H1 locs1 ht hvm hq hW1 hz hk hS => ?_)
  rw [ht] at hW1
  exact kk H1 locs1 ⟨hB.1, bw_join hB.2.1 hn0 hW1 hk, hS, hB.2.2.2⟩
theorem b_callP (X : CallFix p m c cc nL s args (c0 :: tW) own) {n0 : Nat} {cs0 cs1 : List va_E} {e0 : va_E} (hB : BD D cI cO z (cs0 ++ [e0]) s H locs) (hN : BN ad z s) (hn0 : cs0.length = n0) {y : MethodName} {b : ByteArray} {nM mc ms index : Nat} {rm : Room} (hM : CN l y b nM rm D cI cO ad (z + n0) e0 cs1 mc ms) (hrm : rm.cells = mc ∧ rm.slots = ms) (h1 : Cond.methodLink own index y ∈ tW) (h2 : Cond.instanceMethod y ∈ tW) (h4 : Cond.initialized y.cls ∈ tW) (h5 : Cond.code y b nM none ∈ tW)
    (hd : y.cls ≠ "java/lang/invoke/MethodHandle" ∧ y.cls ≠ "java/lang/invoke/VarHandle" ∧ (parseMethodDescriptor y.desc).map (fun d => d.parameters.length) = some 0) (hy : y.name = "<init>") (hR : rm.frames + 1 ≤ R.frames ∧ 8 + (nM + 11) + rm.locals ≤ R.locals) (hls : ls.size = nL) (hcat : (rest.map fun v => v.category).sum ≤ 8) (hf : CC + mc ≤ R.cells ∧ SS + ms ≤ R.slots) (hdg : decode cc pc = .ok (.invokespecial index, 3)) {a : Nat} (ha : z + n0 = a)
    (kk : ∀ (H1 : Heap) (locs1 : List Loc), BD D cI cO z (cs0 ++ cs1) s H1 locs1 → W p l e R s m args below meth c H1 locs1 (CC + mc) (SS + ms) Q (F0 m (pc + 3) ls rest)) : W p l e R s m args below meth c H locs CC SS Q (F0 m pc ls (.ref a :: rest)) := by
  subst ha
  have hts := X.2.2.2.2
  have tw : ∀ {w : Cond}, w ∈ tW → w.before args s = true := fun h => hts _ (List.mem_cons_of_mem _ h)
  refine va_callv (A0 := fun q => z ≤ q) (H0 := s.heap) (va_runI (As := []) (rest := rest) X hM ⟨callB_of 0 hts (gTc h5) rfl hrm.1 hrm.2 (tw h4) (tw h1) hd hR, hy, tw h2⟩ ⟨pn_blind, pn_pre hB hN hn0⟩ rfl rfl hls rfl (lv_room hcat) hdg hf) hB.2.2.1 (fun q _ (h : z + n0 ≤ q) => show z ≤ q by omega) (fun q (h : z + n0 ≤ q) => show z ≤ q by omega) (fun u t H1 locs1 ht hvm hq hW1 hz hk hS => ?_)
  rw [ht] at hW1
  exact kk H1 locs1 ⟨hB.1, bw_join hB.2.1 hn0 hW1 hk, hS, hB.2.2.2⟩
end XN
