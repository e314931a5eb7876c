/-! makings: a world that grows, its cells at z, z + 1, .. in the order of their making -/
def BW (D : va_G) (z : Nat) (cs : List va_E) (H : Heap) : Prop := H.size = z + cs.length ∧ ∀ (k : Nat) (e : va_E), cs[k]? = some e → va_at D clsL (z + k, e) H
def BD (D : va_G) (cI cO : ClassId) (z : Nat) (cs : List va_E) (s : State) (H : Heap) (locs : List Loc) : Prop := va_K D clsL (tysL cI cO) s ∧ BW D z cs H ∧ va_S (fun q => z ≤ q) s.heap H locs ∧ z ≤ s.heap.size
theorem BW.push {D : va_G} {z : Nat} {cs : List va_E} {H H1 : Heap} {e : va_E} (h : BW D z cs H) (hz : H1.size = z + cs.length + 1) (ho : ∀ q : Nat, q < z + cs.length → H1[q]? = H[q]?) (he : va_at D clsL (z + cs.length, e) H1) : BW D z (cs ++ [e]) H1 := by
  refine ⟨by rw [hz, List.length_append]; rfl, fun k x hx => ?_⟩
  by_cases hk : k < cs.length
  · rw [List.getElem?_append_left hk] at hx
    exact (h.2 k x hx).kept (ho _ (by show z + k < _; omega))
  · have hk2 := (List.getElem?_eq_some_iff.mp hx).1
    rw [List.length_append, List.length_singleton] at hk2
    have e1 : k = cs.length := by omega
    subst e1
    rw [List.getElem?_append_right (Nat.le_refl _), Nat.sub_self] at hx
    cases hx
    exact he
theorem BW.set {D : va_G} {z k : Nat} {cs : List va_E} {H H1 : Heap} {e : va_E} (h : BW D z cs H) (hk : k < cs.length) (hz : H1.size = H.size) (ho : ∀ q : Nat, q ≠ z + k → H1[q]? = H[q]?) (he : va_at D clsL (z + k, e) H1) : BW D z (cs.set k e) H1 := by
  refine ⟨by rw [hz, List.length_set]; exact h.1, fun j x hx => ?_⟩
  rw [List.getElem?_set] at hx
  by_cases e1 : k = j
  · subst e1
    rw [if_pos rfl, if_pos hk] at hx
    cases hx
    exact he
  · rw [if_neg e1] at hx
    exact (h.2 j x hx).kept (ho _ (by show z + j ≠ _; omega))
theorem sgrow {A : Nat → Prop} {H0 H H1 : Heap} {locs : List Loc} (h : va_S A H0 H locs) (hz : H.size ≤ H1.size) (ho : ∀ q : Nat, q < H.size → H1[q]? = H[q]?) : va_S A H0 H1 locs := ⟨Nat.le_trans h.1 hz, fun q h1 h2 => (ho q (Nat.lt_of_lt_of_le h1 h.1)).trans (h.2.1 q h1 h2), h.2.2⟩
theorem celt {cs : List va_E} {k : Nat} {e : va_E} (h : cs[k]? = some e) : k < cs.length := (List.getElem?_eq_some_iff.mp h).1
theorem vr_out2 (c : ClassId) (N h0 : Nat) : ∀ i : Nat, Jvm.Free.Multi.outerC c N h0 i = arrV c N (fun j => va_rf (if j < i then some (h0 + 1 + j) else none))
  | 0 => by
    show ({ cls := c, slots := Array.replicate N .null, vm := .none } : Cell) = _
    rw [arrV_new]
    refine congrArg (arrV c N) (funext fun j => ?_)
    simp [va_rf]
  | i + 1 => by
    show (Jvm.Free.Multi.outerC c N h0 i).setSlot i (.ref (h0 + 1 + i)) = _
    rw [vr_out2 c N h0 i, arrV_store]
    refine congrArg (arrV c N) (funext fun j => ?_)
    by_cases e : j = i
    · subst e
      simp [updV, va_rf]
    · by_cases h : j < i
      · simp [updV, e, h, Nat.lt_succ_of_lt h]
      · simp [updV, e, h, show ¬ j < i + 1 by omega]
theorem arrV_ext {c : ClassId} {N : Nat} {f g : Nat → Value} (h : ∀ j, j < N → f j = g j) : arrV c N f = arrV c N g := by
  unfold arrV
  congr 1
  apply Array.ext
  · simp
  · intro i h1 h2
    simp only [Array.size_ofFn] at h1
    simp [h i h1]
section XM
variable {p : Program} {l : Launch} {e : Env} {R : Room} {s : State} {m : MethodId} {args : Array Value} {below : List Frame} {meth : Method} {c : Code} {H : Heap} {locs : List Loc} {Q : State → Prop} {cc : ByteArray} {pc nL CC SS : Nat} {ls : Array Slot} {rest : List Value} {D : va_G} {cI cO : ClassId} {ad : Nat → Nat} {own : String} {c0 : Cond} {z : Nat} {cs : List va_E}
theorem b_newa (X : CallFix p m c cc nL s args (c0 :: tW) own) (hB : BD D cI cO z cs s H locs) (harr : Cond.arrayClass .int ∈ tW) {n : Int32} {N : Nat} (hn : ¬ n < 0) (hN : n.toNatClampNeg = N) (hb : N * componentBytes (newarray.typeOf .int) ≤ 536870912) (hc : CC + 1 ≤ R.cells) (hs : SS + N ≤ R.slots) (hdg : decode cc pc = .ok (.newarray .int, 2)) {q : Nat} (hq : z + cs.length = q)
    (kk : ∀ H1 : Heap, BD D cI cO z (cs ++ [.inl (cI, N, .inl (fun _ => 0))]) s H1 locs → W p l e R s m args below meth c H1 locs (CC + 1) (SS + N) Q (F0 m (pc + 2) ls (.ref q :: rest))) : W p l e R s m args below meth c H locs CC SS Q (F0 m pc ls (.int n :: rest)) := by
  subst hq
  obtain ⟨hK, hW, hS, hz⟩ := hB
  refine va_newaK (atype := .int) X.1 X.2.1 (X.2.2.2.2 _ (List.mem_cons_of_mem _ harr)) rfl hdg rfl hn hN hb hc hs hW.1 (fun H1 cA e1 z1 o1 _ hNm => ?_)
  have ec : cA = cI := Option.some.inj (hNm.symm.trans (hK.2 0 (cI, .int) rfl).2)
  subst ec
  exact kk H1 ⟨hK, hW.push z1 o1 (show H1[_]? = some (vp_cell _ _) from e1), sgrow hS (by rw [z1, hW.1]; omega) (fun q hq => o1 q (by rw [← hW.1]; exact hq)), hz⟩
theorem b_new (X : CallFix p m c cc nL s args (c0 :: tW) own) (hB : BD D cI cO z cs s H locs) {C : String} {T : u_T} {N ci index : Nat} (hc : clsL[ci]? = some (C, T, N)) (hin : ∀ w ∈ u_ws C T N, w ∈ tW) {ty : Nat → FieldType} (hty : ∀ k, k < N → parseFieldDescriptor (T k).2.2.1 = some (ty k)) (h1 : Cond.classLink own index C ∈ tW) (h2 : Cond.instantiable C N ∈ tW) (h3 : Cond.initialized C ∈ tW) (fs : List Value) (hfs : ∀ j, j < N → defaultValue (ty j) = vp_V fs j) (hcl : CC + 1 ≤ R.cells) (hsl : SS + N ≤ R.slots) (hdg : decode cc pc = .ok (.new index, 3)) {q : Nat} (hq : z + cs.length = q)
    (kk : ∀ H1 : Heap, BD D cI cO z (cs ++ [.inr (ci, fs)]) s H1 locs → W p l e R s m args below meth c H1 locs (CC + 1) (SS + N) Q (F0 m (pc + 3) ls (.ref q :: rest))) : W p l e R s m args below meth c H locs CC SS Q (F0 m pc ls rest) := by
  subst hq
  obtain ⟨hK, hW, hS, hz⟩ := hB
  have hts := X.2.2.2.2
  have tw : ∀ {w : Cond}, w ∈ tW → w.before args s = true := fun h => hts _ (List.mem_cons_of_mem _ h)
  have hKn := hK.1 ci _ hc
  refine W.newcK X.1 X.2.1 X.2.2.2.1 (tw h1) (tw h2) (tw h3) rfl hdg hcl hsl hKn.2.1 hW.1 (fun H1 kC hkC e1 z1 o1 => ?_)
  exact kk H1 ⟨hK, hW.push z1 o1 ⟨_, hc, (u_born (ws := c0 :: tW) ty hts (fun w h => List.mem_cons_of_mem _ (hin w h)) hKn hkC e1 hty).to hfs⟩, sgrow hS (by rw [z1, hW.1]; omega) (fun q hq => o1 q (by rw [← hW.1]; exact hq)), hz⟩
theorem b_putF (X : CallFix p m c cc nL s args (c0 :: tW) own) (hB : BD D cI cO z cs s H locs) (k0 : Nat) {ci : Nat} {fs : List Value} (he : cs[k0]? = some (.inr (ci, fs))) {C : String} {T : u_T} {N : Nat} (hc : clsL[ci]? = some (C, T, N)) (hin : ∀ w ∈ u_ws C T N, w ∈ tW) {ty0 : Nat → FieldType} (hty : ∀ k, k < N → parseFieldDescriptor (T k).2.2.1 = some (ty0 k)) (hnm : ∀ a, a < N → ∀ b, b < N → a ≠ b → (T a).2.1 ≠ (T b).2.1) (k : Nat) (hk : k < N) {index : Nat} {nm ds : String} (hl : Cond.fieldLink own index C nm ds ∈ tW) (hT : (T k).1 = C ∧ (T k).2.1 = nm ∧ (T k).2.2.1 = ds) (hfin : (T k).2.2.2 = true) (hin2 : meth.name = "<init>") (hdecl : C = own) {ty : FieldType} {v : Value} (hd : parseFieldDescriptor ds = some ty) (hn : narrow ty v = v) (hfit : fits ty v = true) (hlen : k < fs.length) {a : Nat} (ha : z + k0 = a) (hdg : decode cc pc = .ok (.putfield index, 3))
    (kk : ∀ (H1 : Heap) (locs1 : List Loc), BD D cI cO z (cs.set k0 (.inr (ci, fs.set k v))) s H1 locs1 → W p l e R s m args below meth c H1 locs1 CC SS Q (F0 m (pc + 3) ls rest)) : W p l e R s m args below meth c H locs CC SS Q (F0 m pc ls (v :: .ref a :: rest)) := by
  subst ha
  obtain ⟨hK, hW, hS, hz⟩ := hB
  obtain ⟨t1, t2, t3⟩ := hT
  have hts := X.2.2.2.2
  have hin' : ∀ w ∈ u_ws C T N, w ∈ c0 :: tW := fun w h => List.mem_cons_of_mem _ (hin w h)
  have hap := va_apart (own := own) hts hin' ty0 hty hnm hK hc
  obtain ⟨r, h1, cell, g1, g2, g3, g4⟩ := hW.2 k0 _ he
  have hr : r = (C, T, N) := Option.some.inj (h1.symm.trans hc)
  subst hr
  obtain ⟨hSl, hfc, kC, hkC, hkind⟩ := hK.1 ci _ hc
  obtain ⟨cf, kf, fi, f, hi, hsl⟩ := hSl k hk
  have hlay := hts _ (hin' _ (u_in_lay hk))
  unfold u_lay at hlay
  rw [if_pos hfin] at hlay
  have hst := (u_facts hfc hkC (u_lays hts hin' hk) hi).1
  have hcf : m.cls = cf := by
    obtain ⟨_, _, c', _, _, _, -, -, hf', -, -, -, hown2, -⟩ := Cond.laysFinal_spec hlay
    have e1 : c' = cf := by have := hi.symm.trans hf'; simp at this; exact this.1.symm
    rw [t1, hdecl] at hown2
    rw [← e1]; exact Option.some.inj (X.2.2.2.1.symm.trans hown2)
  have h6 := u_fits hfc hkC hkind (Or.inr hlay) hi (by rw [t3]; exact hd) hn hfit
  refine W.putFinK X.1 X.2.1 X.2.2.2.1 (ref := C) (name := (T k).2.1) (desc := (T k).2.2.1) (by rw [t2, t3]; exact hts _ (List.mem_cons_of_mem _ hl)) (by rw [t1] at hi; exact hi) hst hcf hin2 (by rw [g2]; exact h6) g1 g3 (by rw [hsl]; exact k2_hasslot (g4 k hk)) rfl rfl hdg fun H' e1 e2 e3 => ?_
  rw [hsl] at e1 ⊢
  exact kk H' _ ⟨hK, hW.set (celt he) e2 e3 ⟨_, hc, t_OB.to (V := updV (vp_V fs) k v) ⟨_, e1, g2, g3, t_set g4 hap hk v⟩ (fun j _ => vp_updV_set hlen v j)⟩, hS.put e2 e3 (Nat.le_add_right z k0), hz⟩
theorem b_put (X : CallFix p m c cc nL s args (c0 :: tW) own) (hB : BD D cI cO z cs s H locs) (k0 : Nat) {ci : Nat} {fs : List Value} (he : cs[k0]? = some (.inr (ci, fs))) {C : String} {T : u_T} {N : Nat} (hc : clsL[ci]? = some (C, T, N)) (hin : ∀ w ∈ u_ws C T N, w ∈ tW) {ty0 : Nat → FieldType} (hty : ∀ k, k < N → parseFieldDescriptor (T k).2.2.1 = some (ty0 k)) (hnm : ∀ a, a < N → ∀ b, b < N → a ≠ b → (T a).2.1 ≠ (T b).2.1) (k : Nat) (hk : k < N) {index : Nat} {nm ds : String} (hl : Cond.fieldLink own index C nm ds ∈ tW) (hT : (T k).1 = C ∧ (T k).2.1 = nm ∧ (T k).2.2.1 = ds) (hfin : (T k).2.2.2 = false) {ty : FieldType} {v : Value} (hd : parseFieldDescriptor ds = some ty) (hn : narrow ty v = v) (hfit : fits ty v = true) (hlen : k < fs.length) {a : Nat} (ha : z + k0 = a) (hdg : decode cc pc = .ok (.putfield index, 3))
    (kk : ∀ (H1 : Heap) (locs1 : List Loc), BD D cI cO z (cs.set k0 (.inr (ci, fs.set k v))) s H1 locs1 → W p l e R s m args below meth c H1 locs1 CC SS Q (F0 m (pc + 3) ls rest)) : W p l e R s m args below meth c H locs CC SS Q (F0 m pc ls (v :: .ref a :: rest)) := by
  subst ha
  obtain ⟨hK, hW, hS, hz⟩ := hB
  obtain ⟨t1, t2, t3⟩ := hT
  have hts := X.2.2.2.2
  have hin' : ∀ w ∈ u_ws C T N, w ∈ c0 :: tW := fun w h => List.mem_cons_of_mem _ (hin w h)
  have hap := va_apart (own := own) hts hin' ty0 hty hnm hK hc
  obtain ⟨r, h1, cell, g1, g2, g3, g4⟩ := hW.2 k0 _ he
  have hr : r = (C, T, N) := Option.some.inj (h1.symm.trans hc)
  subst hr
  obtain ⟨hSl, hfc, kC, hkC, hkind⟩ := hK.1 ci _ hc
  obtain ⟨cf, kf, fi, f, hi, hsl⟩ := hSl k hk
  have hlay := hts _ (hin' _ (u_in_lay hk))
  unfold u_lay at hlay
  rw [if_neg (by rw [hfin]; decide)] at hlay
  have hst := (u_facts hfc hkC (u_lays hts hin' hk) hi).1
  have h6 := u_store hfc hkC hkind hlay hi (by rw [t3]; exact hd) hn hfit
  refine W.putK X.1 X.2.1 (f := f) (ref := C) (name := (T k).2.1) (desc := (T k).2.2.1) ⟨X.2.2.2.1, by rw [t2, t3]; exact hts _ (List.mem_cons_of_mem _ hl), ⟨_, _, _, by rw [t1] at hi; exact hi⟩, hst⟩ (by rw [g2]; exact h6) g1 g3 (by rw [hsl]; exact k2_hasslot (g4 k hk)) rfl rfl hdg fun H' e1 e2 e3 => ?_
  rw [hsl] at e1 ⊢
  exact kk H' _ ⟨hK, hW.set (celt he) e2 e3 ⟨_, hc, t_OB.to (V := updV (vp_V fs) k v) ⟨_, e1, g2, g3, t_set g4 hap hk v⟩ (fun j _ => vp_updV_set hlen v j)⟩, hS.put e2 e3 (Nat.le_add_right z k0), hz⟩
theorem b_get (X : CallFix p m c cc nL s args (c0 :: tW) own) (hB : BD D cI cO z cs s H locs) (k0 : Nat) {ci : Nat} {fs : List Value} (he : cs[k0]? = some (.inr (ci, fs))) {C : String} {T : u_T} {N : Nat} (hc : clsL[ci]? = some (C, T, N)) (hin : ∀ w ∈ u_ws C T N, w ∈ tW) (k : Nat) (hk : k < N) {index : Nat} {nm ds : String} (hl : Cond.fieldLink own index C nm ds ∈ tW) (hT : (T k).1 = C ∧ (T k).2.1 = nm ∧ (T k).2.2.1 = ds) {v : Value} (hv : fs[k]? = some v) {a : Nat} (ha : z + k0 = a) (hdg : decode cc pc = .ok (.getfield index, 3))
    (kk : W p l e R s m args below meth c H locs CC SS Q (F0 m (pc + 3) ls (v :: rest))) : W p l e R s m args below meth c H locs CC SS Q (F0 m pc ls (.ref a :: rest)) := by
  subst ha
  obtain ⟨h1, h2, h3⟩ := hT
  have hP : va_P D clsL [(z + k0, .inr (ci, fs))] H := fun j q hq => by
    have hj : j < 1 := (List.getElem?_eq_some_iff.mp hq).1
    rw [show j = 0 by omega] at hq
    cases hq
    exact hB.2.1.2 k0 _ he
  exact va_get (Ts := c0 :: tW) (tys := tysL cI cO) X.1 X.2.1 X.2.2.2.2 (fun w h => List.mem_cons_of_mem _ (hin w h)) X.2.2.2.1 hB.1 hP 0 rfl hc k hk (by rw [h2, h3]; exact X.2.2.2.2 _ (List.mem_cons_of_mem _ hl)) (fun x h9 => by rw [h1] at h9; exact h9) hv hdg kk
theorem b_iast (X : CallFix p m c cc nL s args (c0 :: tW) own) (hB : BD D cI cO z cs s H locs) (k0 : Nat) {n : Nat} {f : Nat → Int32} (he : cs[k0]? = some (.inl (cI, n, .inl f))) {i x : Int32} (hin : inb i n = true) (j : Nat) (hj : i.toNatClampNeg = j) {a : Nat} (ha : z + k0 = a) (hdg : decode cc pc = .ok (.iastore, 1))
    (kk : ∀ (H1 : Heap) (locs1 : List Loc), BD D cI cO z (cs.set k0 (.inl (cI, n, .inl (upd f j x)))) s H1 locs1 → W p l e R s m args below meth c H1 locs1 CC SS Q (F0 m (pc + 1) ls rest)) : W p l e R s m args below meth c H locs CC SS Q (F0 m pc ls (.int x :: .int i :: .ref a :: rest)) := by
  subst ha
  subst hj
  obtain ⟨hK, hW, hS, hz⟩ := hB
  refine W.iast X.1 X.2.1 (hW.2 k0 _ he) ((hK.2 0 (cI, .int) rfl).1 n (fun j => .int (f j))) (fun q => by cases q) (by show ¬ (i < 0 ∨ (arrV _ _ _).slots.size ≤ _); rw [arrV_size]; exact inb_in hin) rfl rfl hdg fun H1 e1 z1 o1 => ?_
  refine kk H1 _ ⟨hK, hW.set (celt he) z1 o1 ?_, hS.put z1 o1 (Nat.le_add_right z k0), hz⟩
  show H1[_]? = some (vp_cell _ _)
  rw [e1, vp_cell_i, vp_cell_i, arrV_store]
  congr 2
  funext q
  by_cases hq : q = i.toNatClampNeg
  · simp [updV, upd, hq]
  · simp [updV, upd, hq]
theorem b_aald (X : CallFix p m c cc nL s args (c0 :: tW) own) (hB : BD D cI cO z cs s H locs) (k0 : Nat) {n : Nat} {f : Nat → Option Nat} (he : cs[k0]? = some (.inl (cO, n, .inr (.inr (.inr (.inr f)))))) {i : Int32} (hin : inb i n = true) {v : Nat} (hv : f i.toNatClampNeg = some v) {a : Nat} (ha : z + k0 = a) (hdg : decode cc pc = .ok (.aaload, 1))
    (kk : W p l e R s m args below meth c H locs CC SS Q (F0 m (pc + 1) ls (.ref v :: rest))) : W p l e R s m args below meth c H locs CC SS Q (F0 m pc ls (.int i :: .ref a :: rest)) := by
  subst ha
  have hlt : i.toNatClampNeg < n := inb_lt hin
  exact W.aald (v := .ref v) (ty := .array .int) X.1 X.2.1 (hB.2.1.2 k0 _ he) ((hB.1.2 1 (cO, .array .int) rfl).1 n (fun j => va_rf (f j))) rfl (fun q => by cases q) (by show ¬ (i < 0 ∨ (arrV _ _ _).slots.size ≤ _); rw [arrV_size]; exact inb_in hin) (by show (arrV _ _ _).slots[_]? = _; rw [arrV_read _ _ hlt, hv]; rfl) rfl rfl hdg kk
theorem b_mna (X : CallFix p m c cc nL s args (c0 :: tW) own) (hB : BD D cI cO z cs s H locs) (hov : (Cond.arrayOver (.array .int)).before #[] s = true) {index : Nat} (h1 : Cond.classLink own index "[[I" ∈ tW) (h2 : Cond.arrayClass .int ∈ tW) {n k : Int32} {N K : Nat} (hn : ¬ n < 0) (hk : ¬ k < 0) (hN : n.toNatClampNeg = N) (hM : k.toNatClampNeg = K) (hb1 : N * 4 ≤ 536870912) (hb2 : K * componentBytes .int ≤ 536870912) (hb3 : K ≤ 536870912) (hcells : CC + (1 + N) ≤ R.cells) (hslots : SS + (N + N * K) ≤ R.slots) (hdg : decode cc pc = .ok (.multianewarray index 2, 4)) {q : Nat} (hq : z + cs.length = q)
    (kk : ∀ H1 : Heap, BD D cI cO z (cs ++ (.inl (cO, N, .inr (.inr (.inr (.inr (fun i => some (q + 1 + i)))))) :: List.replicate N (.inl (cI, K, .inl (fun _ => 0))))) s H1 locs → W p l e R s m args below meth c H1 locs (CC + 1 + N) (SS + N + N * K) Q (F0 m (pc + 4) ls (.ref q :: rest))) : W p l e R s m args below meth c H locs CC SS Q (F0 m pc ls (.int k :: .int n :: rest)) := by
  subst hN
  subst hM
  subst hq
  obtain ⟨hK, hW, hS, hz⟩ := hB
  have tw : ∀ {w : Cond}, w ∈ tW → w.before args s = true := fun h => X.2.2.2.2 _ (List.mem_cons_of_mem _ h)
  have e0 : "[" ++ (FieldType.array .int).toString = "[[I" := by decide +kernel
  have e9 : (FieldType.array .int).toString = "[" ++ FieldType.int.toString := by decide +kernel
  intro T hT Xs
  obtain ⟨vm₁, cA, comp, -, fA, fC, hO, -, X', step⟩ := Xs.multianewarray2F X.1 X.2.2.2.1 (index := index) (ty := .int) (by rw [e0]; exact tw h1) hov (tw h2) (g := F0 m pc ls (.int k :: .int n :: rest)) rfl (by rw [X.2.1]; exact hdg) rfl hn hk hb1 hb2 hb3 rfl rfl hcells hslots
  have ecI : comp = cI := Option.some.inj (fC.symm.trans (by rw [e9]; exact (hK.2 0 (cI, .int) rfl).2))
  have ecO : cA = cO := Option.some.inj (fA.symm.trans (hK.2 1 (cO, .array .int) rfl).2)
  subst ecI
  subst ecO
  generalize hF : Jvm.Free.Multi.fill (T.setVm vm₁) cA comp n.toNatClampNeg k.toNatClampNeg (defaultValue .int) n.toNatClampNeg = F at X' step
  have hTh : (T.setVm vm₁).heap = H := hT
  obtain ⟨f1, f2, -, -⟩ := Jvm.Free.Multi.fill_facts (T.setVm vm₁) cA comp n.toNatClampNeg k.toNatClampNeg (defaultValue .int) n.toNatClampNeg
  rw [hF, hTh] at f1 f2
  have hold : ∀ x : Nat, x < H.size → F.heap[x]? = H[x]? := fun x hx => by
    have := Jvm.Free.Multi.fill_old (T.setVm vm₁) cA comp n.toNatClampNeg k.toNatClampNeg (defaultValue .int) (a := x) (by rw [hTh]; exact hx) n.toNatClampNeg
    rw [hF, hTh] at this
    exact this
  have hrow : ∀ j : Nat, j < n.toNatClampNeg → F.heap[H.size + 1 + j]? = some (vp_cell comp (k.toNatClampNeg, .inl (fun _ => 0))) := fun j hj => by
    have := Jvm.Free.Multi.fill_inner (T.setVm vm₁) cA comp n.toNatClampNeg k.toNatClampNeg (defaultValue .int) n.toNatClampNeg j hj
    rw [hF, hTh] at this
    rw [this]
    exact congrArg some (arrV_new comp k.toNatClampNeg (.int 0))
  have hout : F.heap[H.size]? = some (vp_cell cA (n.toNatClampNeg, .inr (.inr (.inr (.inr (fun i => some (H.size + 1 + i))))))) := by
    rw [f2, vr_out2, vp_cell_q]
    exact congrArg some (arrV_ext (fun j hj => by rw [if_pos hj]))
  rw [hW.1] at f1 hold hrow hout
  obtain ⟨t, a1, b1⟩ := kk F.heap ⟨hK, ⟨by rw [f1, List.length_append, List.length_cons, List.length_replicate]; omega, fun j x hx => by
      by_cases hj : j < cs.length
      · rw [List.getElem?_append_left hj] at hx
        exact (hW.2 j x hx).kept (hold _ (by show z + j < _; omega))
      · rw [List.getElem?_append_right (by omega)] at hx
        by_cases h0 : j = cs.length
        · subst h0
          rw [Nat.sub_self] at hx
          cases hx
          exact hout
        · obtain ⟨i, rfl⟩ : ∃ i, j = cs.length + (i + 1) := ⟨j - cs.length - 1, by omega⟩
          rw [show cs.length + (i + 1) - cs.length = i + 1 by omega, List.getElem?_cons_succ, List.getElem?_replicate] at hx
          by_cases hi : i < n.toNatClampNeg
          · rw [if_pos hi] at hx
            cases hx
            have := hrow i hi
            rw [show z + cs.length + 1 + i = z + (cs.length + (i + 1)) by omega] at this
            exact this
          · rw [if_neg hi] at hx
            cases hx⟩, sgrow hS (by rw [f1, hW.1]; omega) (fun q hq => hold q (by rw [← hW.1]; exact hq)), hz⟩ F rfl X'
  refine ⟨t, step t ?_, b1⟩
  have e1 : T.heap.size = z + cs.length := by rw [hT]; exact hW.1
  rw [e1]
  exact a1
theorem b_copyt (X : CallFix p m c cc nL s args (c0 :: tW) own) (hB : BD D cI cO z cs s H locs) (hls : ls.size = nL) {index : Nat} (w1 : Cond.methodLink own index arraycopyName ∈ tW) (w2 : Cond.native arraycopyName ∈ tW) (w3 : Cond.static arraycopyName ∈ tW) (w4 : Cond.initialized "java/lang/System" ∈ tW) {b0 n0 : Nat} {f : Nat → Int32} (hX : va_T .int b0 n0 (fun j => .int (f j)) (fun q => z ≤ q) s s.heap) (k1 : Nat) {n1 : Nat} {g : Nat → Int32} (he : cs[k1]? = some (.inl (cI, n1, .inl g)))
    {n : Int32} (h3 : ¬ n < 0) (h4 : n.toNatClampNeg ≤ n0) (h5 : n.toNatClampNeg ≤ n1) (hframes : 1 ≤ R.frames) (hlocals : (rest.map fun v => v.category).sum + (nativeFrameWords "java/lang/System" "arraycopy" 5 + 11) ≤ R.locals) {a : Nat} (ha : z + k1 = a) (hdg : decode cc pc = .ok (.invokestatic index, 3))
    (kk : ∀ (H1 : Heap) (locs1 : List Loc), BD D cI cO z (cs.set k1 (.inl (cI, n1, .inl (va_cpy f g 0 0 n.toNatClampNeg)))) s H1 locs1 → W p l e R s m args below meth c H1 locs1 CC SS Q (F0 m (pc + 3) ls rest)) : W p l e R s m args below meth c H locs CC SS Q (F0 m pc ls (.int n :: .int 0 :: .ref a :: .int 0 :: .ref b0 :: rest)) := by
  subst ha
  obtain ⟨hK, hW, hS, hz⟩ := hB
  have tw : ∀ {w : Cond}, w ∈ tW → w.before args s = true := fun h => X.2.2.2.2 _ (List.mem_cons_of_mem _ h)
  have nn : ∀ z : Int32, ¬ z < 0 → z.toInt = (z.toNatClampNeg : Int) := by
    intro z hz
    have hz0 : (0 : Int) ≤ z.toInt := by
      have := Int32.not_lt.mp hz
      simpa using Int32.le_iff_toInt_le.mp this
    show z.toInt = ((z.toInt.toNat : Nat) : Int)
    omega
  have z0 : ¬ (0 : Int32) < 0 := by decide
  have c0' : (0 : Int32).toNatClampNeg = 0 := rfl
  intro T hT Xs
  obtain ⟨scr, hs1, hs2, hs3, hs4, -, hs5, hs7⟩ := hX
  have hc0 : H[b0]? = some scr := by rw [hS.2.1 b0 (Array.getElem?_eq_some_iff.mp hs1).1 hs7]; exact hs1
  have hc1 : H[z + k1]? = some (vp_cell cI (n1, .inl g)) := hW.2 k1 _ he
  obtain ⟨hs6, k0, hk0, cm0, hkk0⟩ := hs2
  obtain ⟨-, kk1, hk1, cm1, hkk1⟩ := (hK.2 0 (cI, .int) rfl).1 n1 (fun j => .int (g j))
  obtain ⟨vm', X', step⟩ := Xs.arraycopy X.1 X.2.2.2.1 (tw w1) (tw w2) (tw w3) (tw w4) (src := b0) (dst := z + k1) (cs := scr) (cd := vp_cell cI (n1, .inl g)) (srcPos := 0) (destPos := 0) (n := n) (by rw [hT]; exact hc0) (by rw [hT]; exact hc1)
    hs6 (fun _ h => by cases h) hs3 (fun h => by cases h) hk0 hk1 hkk0 hkk1 (by simp [refKind]) z0 z0 h3
    (by rw [nn 0 z0, nn n h3, c0']; omega)
    (by rw [nn 0 z0, nn n h3, c0']; show ¬ _ > ((arrV cI n1 (fun j => .int (g j))).slots.size : Int); rw [arrV_size]; omega)
    (fun vm₁ _ i hi => by
      have e : scr.slots.getD ((0 : Int32).toNatClampNeg + i) .null = .int (f ((0 : Int32).toNatClampNeg + i)) := by
        rw [Array.getD_eq_getD_getElem?, hs5 _ (by rw [c0']; omega)]
        rfl
      refine ⟨?_, ?_⟩
      · rw [e]
        rfl
      · rw [e]
        exact trivial)
    (g := F0 m pc ls (.int n :: .int 0 :: .ref (z + k1) :: .int 0 :: .ref b0 :: rest)) rfl (by rw [X.2.2.1]; exact hls) (rest := rest) rfl (by rw [X.2.1]; exact hdg) hframes (by show 2 * 0 + _ + _ ≤ _; omega)
  have e1 : copied scr (vp_cell cI (n1, .inl g)) 0 0 n = vp_cell cI (n1, .inl (va_cpy f g 0 0 n.toNatClampNeg)) := va_copiedX (fun z => .int z) scr cI f g hs5 (by rw [c0']; omega)
  rw [e1] at X' step
  have hl : z + k1 < H.size := (Array.getElem?_eq_some_iff.mp hc1).1
  have hheap : ((T.setVm vm').setCell (z + k1) (vp_cell cI (n1, .inl (va_cpy f g 0 0 n.toNatClampNeg)))).heap = H.setIfInBounds (z + k1) (vp_cell cI (n1, .inl (va_cpy f g 0 0 n.toNatClampNeg))) := by rw [← hT]; rfl
  have oq : ∀ q : Nat, q ≠ z + k1 → (H.setIfInBounds (z + k1) (vp_cell cI (n1, .inl (va_cpy f g 0 0 n.toNatClampNeg))))[q]? = H[q]? := fun q hq => by simp [Array.getElem?_setIfInBounds, Ne.symm hq]
  obtain ⟨t, a1, b1⟩ := kk _ _ ⟨hK, hW.set (celt he) (by simp) oq (show (H.setIfInBounds (z + k1) _)[z + k1]? = some _ by simp [Array.getElem?_setIfInBounds, hl]), ⟨by simp; exact hS.1, fun q g1 g2 => by
      rw [oq q (fun e => g2 (by rw [e]; exact Nat.le_add_right z k1))]
      exact hS.2.1 q g1 g2, fun q hq => by
      rcases List.mem_append.mp hq with h | h
      · exact hS.2.2 q h
      · obtain ⟨j, -, hj⟩ := List.mem_map.mp h
        rw [← hj]
        exact Nat.le_add_right z k1⟩, hz⟩ _ hheap X'
  exact ⟨t, step t a1, b1⟩
end XM
