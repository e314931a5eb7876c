/-! THE WORLD OF THIS PROGRAM: 109 cells at addresses ad 0 .. ad 108; its state one function: S 0 the numbers in objects, S a (1 .. 97) the int array a. -/
abbrev vS : Type := Nat → Nat → Int32
def upk (S : vS) (k : Nat) (g : Nat → Int32) : vS := fun j => if j = k then g else S j
theorem upk_eq (S : vS) (k : Nat) (g : Nat → Int32) : upk S k g k = g := if_pos rfl
theorem upk_ne (S : vS) {k j : Nat} (g : Nat → Int32) (h : j ≠ k) : upk S k g j = S j := if_neg h
def alen (a : Nat) : Nat := if a < 34 then ([0, 7, 16, 21, 21, 21, 21, 21, 21, 21, 54, 6, 36, 9, 5400, 6, 6, 6, 6, 6, 6, 300, 16, 6, 6, 6, 6, 6, 6, 6, 6, 6, 6, 7] : List Nat).getD a 0 else if a < 54 then 7 else if a < 60 then 9 else if a < 66 then 6 else if a < 86 then 7 else if a < 92 then 9 else 6
def ar (ad : Nat → Nat) (a : Nat) : Nat := ad (11 + a)
def cel (cI cO : ClassId) (ad : Nat → Nat) (S : vS) (k : Nat) : va_E := match k with
  | 0 => .inr (3, [.ref (ad 1), .ref (ad 2), .ref (ad 3), .ref (ad 4), .ref (ar ad 32), .ref (ar ad 33), .int (S 0 17), .int (S 0 18)])
  | 1 => .inr (2, [.ref (ar ad 22), .int (S 0 10), .int (S 0 11)])
  | 2 => .inr (0, [.ref (ad 6), .ref (ad 7), .ref (ar ad 23), .ref (ad 8), .int (S 0 12)])
  | 3 => .inr (0, [.ref (ad 9), .ref (ad 10), .ref (ar ad 24), .ref (ad 11), .int (S 0 13)])
  | 4 => .inr (1, [.ref (ar ad 25), .ref (ar ad 26), .ref (ar ad 27), .ref (ar ad 28), .ref (ar ad 29), .ref (ar ad 30), .ref (ar ad 31), .int (S 0 14), .int (S 0 15), .int (S 0 16)])
  | 5 => .inr (4, [.ref (ar ad 1), .ref (ar ad 2), .ref (ar ad 3), .ref (ar ad 4), .ref (ar ad 5), .ref (ar ad 6), .ref (ar ad 7), .ref (ar ad 8), .ref (ar ad 9), .ref (ar ad 10), .ref (ar ad 11), .ref (ar ad 12), .ref (ar ad 13), .int (S 0 0), .int (S 0 1), .int (S 0 2), .int (S 0 3), .ref (ar ad 14), .ref (ar ad 15), .ref (ar ad 16), .ref (ar ad 17), .ref (ar ad 18), .ref (ar ad 19), .int (S 0 4), .ref (ar ad 20), .int (S 0 5), .ref (ar ad 21), .int (S 0 6), .int (S 0 7), .int (S 0 8)])
  | 6 => .inl (cO, 20, .inr (.inr (.inr (.inr (fun i => some (ar ad (34 + i)))))))
  | 7 => .inl (cO, 6, .inr (.inr (.inr (.inr (fun i => some (ar ad (54 + i)))))))
  | 8 => .inl (cO, 6, .inr (.inr (.inr (.inr (fun i => some (ar ad (60 + i)))))))
  | 9 => .inl (cO, 20, .inr (.inr (.inr (.inr (fun i => some (ar ad (66 + i)))))))
  | 10 => .inl (cO, 6, .inr (.inr (.inr (.inr (fun i => some (ar ad (86 + i)))))))
  | 11 => .inl (cO, 6, .inr (.inr (.inr (.inr (fun i => some (ar ad (92 + i)))))))
  | n + 12 => .inl (cI, alen (n + 1), .inl (S (n + 1)))
def wd (cI cO : ClassId) (ad : Nat → Nat) (S : vS) : va_W := (List.range 109).map (fun k => (ad k, cel cI cO ad S k))
theorem wd_get {cI cO : ClassId} {ad : Nat → Nat} {S : vS} {k : Nat} (h : k < 109) : (wd cI cO ad S)[k]? = some (ad k, cel cI cO ad S k) := by
  simp [wd, h]
theorem wd_get_inv {cI cO : ClassId} {ad : Nat → Nat} {S : vS} {k : Nat} {q : Nat × va_E} (h : (wd cI cO ad S)[k]? = some q) : k < 109 ∧ q = (ad k, cel cI cO ad S k) := by
  have hk : k < 109 := by
    have := (List.getElem?_eq_some_iff.mp h).1
    simpa [wd] using this
  rw [wd_get hk] at h
  exact ⟨hk, (Option.some.inj h).symm⟩
theorem cel_arr {cI cO : ClassId} {ad : Nat → Nat} {S : vS} {a : Nat} (h : 1 ≤ a) : cel cI cO ad S (11 + a) = .inl (cI, alen a, .inl (S a)) := by
  obtain ⟨b, rfl⟩ : ∃ b, a = b + 1 := ⟨a - 1, by omega⟩
  have e : 11 + (b + 1) = b + 12 := by omega
  rw [e]
  rfl
theorem wd_arr {cI cO : ClassId} {ad : Nat → Nat} {S : vS} {a : Nat} (h : 1 ≤ a ∧ a ≤ 97) : (wd cI cO ad S)[11 + a]? = some (ar ad a, .inl (cI, alen a, .inl (S a))) := by
  rw [wd_get (by omega), cel_arr h.1]
  rfl
theorem wd_set {cI cO : ClassId} {ad : Nat → Nat} {S S' : vS} {k : Nat} {e : va_E} (hk : k < 109) (h1 : cel cI cO ad S' k = e) (h2 : ∀ j, j ≠ k → cel cI cO ad S' j = cel cI cO ad S j) : (wd cI cO ad S).set k (ad k, e) = wd cI cO ad S' := by
  apply List.ext_getElem?
  intro i
  rw [List.getElem?_set]
  by_cases hi : k = i
  · subst hi
    have : k < (wd cI cO ad S).length := by simpa [wd] using hk
    rw [if_pos rfl, if_pos this, wd_get hk, h1]
  · rw [if_neg hi]
    by_cases h9 : i < 109
    · rw [wd_get h9, wd_get h9, h2 i (fun q => hi q.symm)]
    · have e1 : (wd cI cO ad S)[i]? = none := by simp [wd]; omega
      have e2 : (wd cI cO ad S')[i]? = none := by simp [wd]; omega
      rw [e1, e2]
theorem wd_seta {cI cO : ClassId} {ad : Nat → Nat} {S : vS} {a : Nat} (h : 1 ≤ a ∧ a ≤ 97) (g : Nat → Int32) : (wd cI cO ad S).set (11 + a) (ar ad a, .inl (cI, alen a, .inl g)) = wd cI cO ad (upk S a g) := by
  refine wd_set (by omega) (by rw [cel_arr h.1, upk_eq]) ?_
  intro j hj
  have h0 : upk S a g 0 = S 0 := upk_ne S g (by omega)
  unfold cel
  split <;> first
    | rfl
    | (simp only [h0]; done)
    | (rw [upk_ne S g (by omega)])
abbrev clsL : List vw_C := [(RX0, TX0, 5), (RX1, TX1, 10), (RX2, TX2, 3), (RX3, TX3, 8), (RX4, TX4, 30)]
abbrev tysL (cI cO : ClassId) : List (ClassId × FieldType) := [(cI, .int), (cO, .array .int)]
def AA (ad : Nat → Nat) (sz : Nat) : Nat → Prop := fun q => (∃ k, k < 109 ∧ q = ad k) ∨ sz ≤ q
theorem wd_D {cI cO : ClassId} {ad : Nat → Nat} {S S' : vS} {A B : Nat → Prop} (h : va_D A (wd cI cO ad S)) (hB : ∀ k, k < 109 → B (ad k)) : va_D B (wd cI cO ad S') := by
  refine ⟨fun i j p q hp hq e => ?_, fun k q hk => ?_⟩
  · obtain ⟨hi, rfl⟩ := wd_get_inv hp
    obtain ⟨hj, rfl⟩ := wd_get_inv hq
    exact h.1 i j _ _ (wd_get hi) (wd_get hj) e
  · obtain ⟨hi, rfl⟩ := wd_get_inv hk
    exact hB k hi
/-- words: those that hold in every state behind a call; the nest's words apart -/
def tW : List Cond := lw_tbl.filter (fun w => goodWord w)
def isNest : Cond → Bool
  | .fieldLinkNest _ _ _ _ _ _ => true
  | .methodLinkNest _ _ _ _ => true
  | _ => false
def nW : List Cond := lw_tbl.filter (fun w => isNest w)
theorem gT (c0 : Cond) : GoodIn (c0 :: tW) tW := fun w hw => ⟨List.mem_cons_of_mem _ hw, good_of_word (List.mem_filter.mp hw).2⟩
theorem gTc {c0 c1 : Cond} (h : c1 ∈ tW) : GoodIn (c0 :: tW) (c1 :: tW) := fun w hw => by
  rcases List.mem_cons.mp hw with e | e
  · subst e
    exact gT c0 w h
  · exact gT c0 w e
def nOk (U : State) : Prop := ∀ w ∈ nW, va_Nw w U
theorem nOk.same {u U : State} (h : u.vm = U.vm) (hn : nOk u) : nOk U := fun w hw => by
  have h2 := (List.mem_filter.mp hw).2
  have h3 := hn w hw
  cases w <;> first | (cases h2; done) | exact va_Nw.same rfl h h3
theorem nOk.warm {s U : State} (hW : s.WarmedH U.vm) (hn : nOk s) : nOk U := fun w hw => by
  have h2 := (List.mem_filter.mp hw).2
  have h3 := hn w hw
  cases w <;> first | (cases h2; done) | exact va_Nw.warmF hW h3 | exact va_Nw.warmM hW h3
/-- what lies outside the world: two tables, two strings: at ad 110 .. ad 115 -/
def lawMost (j : Nat) : Int32 := ([900, 900, 99, 9999, 9999, 100, 100, 50, 15] : List Int32).getD j 0
def lawFirst (j : Nat) : Int32 := ([120, 780, 10, 0, 9999, 0, 0, 0, 15] : List Int32).getD j 0
abbrev strL : List Nat := [6, 4]
abbrev strB : List (List Int32) := [[48, 49, 50, 51, 52, 53], [115, 102, 97, 98]]
def strJ (k j : Nat) : Int32 := (strB.getD k []).getD j 0
def sB (ad : Nat → Nat) (A : Nat → Prop) (U : State) (H : Heap) : Prop :=
  va_Z "java/lang/String" "COMPACT_STRINGS" "Z" (.int 1) A U H ∧ va_Z "NineLands" "LAW_AT_MOST" "[I" (.ref (ad 115)) A U H ∧ va_Z "NineLands" "LAW_AT_FIRST" "[I" (.ref (ad 114)) A U H ∧ va_T .int (ad 115) 9 (fun j => .int (lawMost j)) A U H ∧ va_T .int (ad 114) 9 (fun j => .int (lawFirst j)) A U H ∧ vk_S 2 strL strB (fun i => ad (110 + i)) (fun i => ad (112 + i)) A U H ∧ vk_R "NineLands$Tape" 22 "012345" (ad 110) U ∧ vk_R "NineLands$Tape" 28 "sfab" (ad 111) U
theorem sB.kept {ad : Nat → Nat} {A : Nat → Prop} {U : State} {H H1 : Heap} (h : sB ad A U H) (hq : ∀ a : Nat, a < H.size → ¬ A a → H1[a]? = H[a]?) : sB ad A U H1 := ⟨h.1.kept hq, h.2.1.kept hq, h.2.2.1.kept hq, h.2.2.2.1.kept hq, h.2.2.2.2.1.kept hq, h.2.2.2.2.2.1.kept hq, h.2.2.2.2.2.2.1, h.2.2.2.2.2.2.2⟩
theorem sB.narrow {ad : Nat → Nat} {A B : Nat → Prop} {U : State} {H : Heap} (h : sB ad A U H) (hAB : ∀ q, B q → A q) : sB ad B U H := ⟨h.1.narrow hAB, h.2.1.narrow hAB, h.2.2.1.narrow hAB, h.2.2.2.1.narrow hAB, h.2.2.2.2.1.narrow hAB, h.2.2.2.2.2.1.narrow hAB, h.2.2.2.2.2.2.1, h.2.2.2.2.2.2.2⟩
theorem sB.warm {ad : Nat → Nat} {A : Nat → Prop} {s U : State} {H : Heap} (hW : s.WarmedH U.vm) (h : sB ad A s H) : sB ad A U H := ⟨va_Z.moved hW.alike h.1, va_Z.moved hW.alike h.2.1, va_Z.moved hW.alike h.2.2.1, va_T.moved hW.alike h.2.2.2.1, va_T.moved hW.alike h.2.2.2.2.1, vk_S.moved hW.alike h.2.2.2.2.2.1, vk_R.warm hW h.2.2.2.2.2.2.1, vk_R.warm hW h.2.2.2.2.2.2.2⟩
theorem sB.same {ad : Nat → Nat} {A : Nat → Prop} {u U : State} {H : Heap} (hv : U.vm = u.vm) (h : sB ad A u H) : sB ad A U H := by
  have ha : u.vm.Alike U.vm := by rw [hv]; exact Vm.Alike.refl _
  exact ⟨va_Z.moved ha h.1, va_Z.moved ha h.2.1, va_Z.moved ha h.2.2.1, va_T.moved ha h.2.2.2.1, va_T.moved ha h.2.2.2.2.1, vk_S.moved ha h.2.2.2.2.2.1, vk_R.same hv h.2.2.2.2.2.2.1, vk_R.same hv h.2.2.2.2.2.2.2⟩
/-- a method's start and end -/
def PB (D : va_G) (cI cO : ClassId) (ad : Nat → Nat) (sz : Nat) (S : vS) (U : State) : Prop := U.heap.size = sz ∧ va_P D clsL (wd cI cO ad S) U.heap ∧ va_K D clsL (tysL cI cO) U ∧ va_D (fun _ => True) (wd cI cO ad S) ∧ nOk U ∧ sB ad (AA ad sz) U U.heap
def CI (l : Launch) (y : MethodName) (b : ByteArray) (nL : Nat) (ret : FieldType) (rm : Room) (as : List Value) (D : va_G) (cI cO : ClassId) (ad : Nat → Nat) (S : vS) (r : Int32) (S' : vS) : Prop := ∀ sz : Nat, Met l y (.code y b nL (some ret) :: tW) rm (va_Pc as (PB D cI cO ad sz S)) (va_Qi (fun r1 (u : vS) => r1 = r ∧ u = S') (fun u t => va_P D clsL (wd cI cO ad u) t.heap) (AA ad sz)) 0 0 (AA ad sz)
def CV (l : Launch) (y : MethodName) (b : ByteArray) (nL : Nat) (rm : Room) (as : List Value) (D : va_G) (cI cO : ClassId) (ad : Nat → Nat) (S : vS) (S' : vS) : Prop := ∀ sz : Nat, Met l y (.code y b nL none :: tW) rm (va_Pc as (PB D cI cO ad sz S)) (va_Qv (fun (u : vS) => u = S') (fun u t => va_P D clsL (wd cI cO ad u) t.heap) (AA ad sz)) 0 0 (AA ad sz)
/-- inside a method: the world now -/
def WD (D : va_G) (cI cO : ClassId) (ad : Nat → Nat) (s : State) (S : vS) (H : Heap) (locs : List Loc) : Prop := va_K D clsL (tysL cI cO) s ∧ va_P D clsL (wd cI cO ad S) H ∧ va_D (AA ad s.heap.size) (wd cI cO ad S) ∧ va_S (AA ad s.heap.size) s.heap H locs ∧ nOk s ∧ sB ad (AA ad s.heap.size) s s.heap
theorem AA.in {ad : Nat → Nat} {sz k : Nat} (h : k < 109) : AA ad sz (ad k) := Or.inl ⟨k, h, rfl⟩
theorem CI.of {l : Launch} {y : MethodName} {b : ByteArray} {nL : Nat} {ret : FieldType} {rm : Room} {as : List Value} {D : va_G} {cI cO : ClassId} {ad : Nat → Nat} {S : vS} {r : Int32} {S' : vS} (hy : plainName y.cls = true) (hn : (lg_sl as).length ≤ nL)
    (body : ∀ (p : Program) (e : Env) (s : State) (m : MethodId) (args : Array Value) (below : List Frame) (meth : Method) (c : Code) (Q : State → Prop) (ls : Array Slot), CallFix p m c b nL s args (.code y b nL (some ret) :: tW) y.cls → lv_has ls nL (lv_args 0 as) → WD D cI cO ad s S s.heap [] →
      (∀ (H : Heap) (locs : List Loc) (v : Int32) (S1 : vS) (pc : Nat) (ls : Array Slot), WD D cI cO ad s S1 H locs → v = r → S1 = S' → narrow ret (.int v) = .int v → decode b pc = .ok (.ireturn, 1) → W p l e rm s m args below meth c H locs 0 0 Q (F0 m pc ls [.int v])) →
      W p l e rm s m args below meth c s.heap [] 0 0 Q (F0 m 0 ls [])) : CI l y b nL ret rm as D cI cO ad S r S' := by
  intro sz
  refine Met.ofW (cc := b) (maxL := nL) (ret := some ret) hy rfl ?_
  intro p e s m args below meth c s₁ B hml hv
  obtain ⟨rfl, hsz, hP, hK, hD0, hnO, hsB⟩ := hv
  subst hsz
  have hts := atoms_spec (ws := .code y b nL (some ret) :: tW) B.pre
  have hown : s.vm.findClass y.cls = some m.cls := findClass_of_methodNamed B.named
  have hlocks := B.notSynchronized
  have hl := lv_entry as (n := nL) hn
  rw [lg_entry_eq]
  generalize (lg_sl as ++ List.replicate (nL - (lg_sl as).length) Slot.unset).toArray = ls at hl ⊢
  refine body p e s m _ below meth c _ ls ⟨B.exec, B.bytes, hml, hown, hts⟩ hl ⟨hK, hP, wd_D hD0 (fun k hk => AA.in hk), va_S.rf, hnO, hsB⟩ ?_
  intro H locs v S1 pc ls hw e1 e2 hnar hdg
  subst e1; subst e2
  exact W.zret B.exec B.bytes B.returns hnar (fun t ht hW => ⟨⟨v, S1, rfl, ⟨rfl, rfl⟩, by show va_P _ _ _ t.heap; rw [ht]; exact hw.2.1⟩, hw.2.2.2.1.F ht⟩) hw.2.2.2.1.2.2 hdg
theorem CV.of {l : Launch} {y : MethodName} {b : ByteArray} {nL : Nat} {rm : Room} {as : List Value} {D : va_G} {cI cO : ClassId} {ad : Nat → Nat} {S : vS} {r : Int32} {S' : vS} (hy : plainName y.cls = true) (hn : (lg_sl as).length ≤ nL)
    (body : ∀ (p : Program) (e : Env) (s : State) (m : MethodId) (args : Array Value) (below : List Frame) (meth : Method) (c : Code) (Q : State → Prop) (ls : Array Slot), CallFix p m c b nL s args (.code y b nL none :: tW) y.cls → lv_has ls nL (lv_args 0 as) → WD D cI cO ad s S s.heap [] →
      (∀ (H : Heap) (locs : List Loc) (v : Int32) (S1 : vS) (pc : Nat) (ls : Array Slot), WD D cI cO ad s S1 H locs → v = r → S1 = S' → decode b pc = .ok (.return_, 1) → W p l e rm s m args below meth c H locs 0 0 Q (F0 m pc ls [])) →
      W p l e rm s m args below meth c s.heap [] 0 0 Q (F0 m 0 ls [])) : CV l y b nL rm as D cI cO ad S S' := by
  intro sz
  refine Met.ofW (cc := b) (maxL := nL) (ret := none) hy rfl ?_
  intro p e s m args below meth c s₁ B hml hv
  obtain ⟨rfl, hsz, hP, hK, hD0, hnO, hsB⟩ := hv
  subst hsz
  have hts := atoms_spec (ws := .code y b nL none :: tW) B.pre
  have hown : s.vm.findClass y.cls = some m.cls := findClass_of_methodNamed B.named
  have hlocks := B.notSynchronized
  have hl := lv_entry as (n := nL) hn
  rw [lg_entry_eq]
  generalize (lg_sl as ++ List.replicate (nL - (lg_sl as).length) Slot.unset).toArray = ls at hl ⊢
  refine body p e s m _ below meth c _ ls ⟨B.exec, B.bytes, hml, hown, hts⟩ hl ⟨hK, hP, wd_D hD0 (fun k hk => AA.in hk), va_S.rf, hnO, hsB⟩ ?_
  intro H locs v S1 pc ls hw e1 e2 hdg
  subst e2
  exact W.vret B.exec B.bytes B.returns (fun t ht hW => ⟨⟨S1, rfl, rfl, by show va_P _ _ _ t.heap; rw [ht]; exact hw.2.1⟩, hw.2.2.2.1.F ht⟩) hw.2.2.2.1.2.2 hdg
/-- pure helpers: a program's pure picture is an Option; none where a check fails or fuel ends -/
def lt {α β : Type} (x : α) (f : α → β) : β := f x
theorem lt_e {α β : Type} {x y : α} {f : α → β} {r : β} (e : y = x) (h : lt x f = r) : f y = r := by rw [e]; exact h
theorem if_t {α : Type} {c : Prop} [Decidable c] {a b r : α} (h : c) (e : (if c then a else b) = r) : a = r := by rw [if_pos h] at e; exact e
theorem if_f {α : Type} {c : Prop} [Decidable c] {a b r : α} (h : ¬ c) (e : (if c then a else b) = r) : b = r := by rw [if_neg h] at e; exact e
theorem if_s {α : Type} {c : Prop} [Decidable c] {a : Option α} {r : α} (e : (if c then a else none) = some r) : c ∧ a = some r := by
  by_cases h : c
  · rw [if_pos h] at e; exact ⟨h, e⟩
  · rw [if_neg h] at e; cases e
def b1 {α γ : Type} (o : Option α) (k : α → Option γ) : Option γ := match o with | some a => k a | none => none
def b2 {α β γ : Type} (o : Option (α × β)) (k : α → β → Option γ) : Option γ := match o with | some (a, b) => k a b | none => none
def b3 {α1 α2 α3 γ : Type} (o : Option (α1 × α2 × α3)) (k : α1 → α2 → α3 → Option γ) : Option γ := match o with | some (a, b, c) => k a b c | none => none
def b4 {α1 α2 α3 α4 γ : Type} (o : Option (α1 × α2 × α3 × α4)) (k : α1 → α2 → α3 → α4 → Option γ) : Option γ := match o with | some (a, b, c, d) => k a b c d | none => none
def b5 {α1 α2 α3 α4 α5 γ : Type} (o : Option (α1 × α2 × α3 × α4 × α5)) (k : α1 → α2 → α3 → α4 → α5 → Option γ) : Option γ := match o with | some (a, b, c, d, e) => k a b c d e | none => none
def b6 {α1 α2 α3 α4 α5 α6 γ : Type} (o : Option (α1 × α2 × α3 × α4 × α5 × α6)) (k : α1 → α2 → α3 → α4 → α5 → α6 → Option γ) : Option γ := match o with | some (a, b, c, d, e, f) => k a b c d e f | none => none
def b7 {α1 α2 α3 α4 α5 α6 α7 γ : Type} (o : Option (α1 × α2 × α3 × α4 × α5 × α6 × α7)) (k : α1 → α2 → α3 → α4 → α5 → α6 → α7 → Option γ) : Option γ := match o with | some (a, b, c, d, e, f, g) => k a b c d e f g | none => none
theorem b1_s {α γ : Type} {o : Option α} {k : α → Option γ} {r : γ} (h : b1 o k = some r) : ∃ a, o = some a ∧ k a = some r := by
  cases o with | none => cases h | some q => exact ⟨q, rfl, h⟩
theorem b2_s {α β γ : Type} {o : Option (α × β)} {k : α → β → Option γ} {r : γ} (h : b2 o k = some r) : ∃ a b, o = some (a, b) ∧ k a b = some r := by
  cases o with | none => cases h | some q => exact ⟨q.1, q.2, rfl, h⟩
theorem b3_s {α1 α2 α3 γ : Type} {o : Option (α1 × α2 × α3)} {k : α1 → α2 → α3 → Option γ} {r : γ} (h : b3 o k = some r) : ∃ a b c, o = some (a, b, c) ∧ k a b c = some r := by
  cases o with | none => cases h | some q => exact ⟨q.1, q.2.1, q.2.2, rfl, h⟩
theorem b4_s {α1 α2 α3 α4 γ : Type} {o : Option (α1 × α2 × α3 × α4)} {k : α1 → α2 → α3 → α4 → Option γ} {r : γ} (h : b4 o k = some r) : ∃ a b c d, o = some (a, b, c, d) ∧ k a b c d = some r := by
  cases o with | none => cases h | some q => exact ⟨q.1, q.2.1, q.2.2.1, q.2.2.2, rfl, h⟩
theorem b5_s {α1 α2 α3 α4 α5 γ : Type} {o : Option (α1 × α2 × α3 × α4 × α5)} {k : α1 → α2 → α3 → α4 → α5 → Option γ} {r : γ} (h : b5 o k = some r) : ∃ a b c d e, o = some (a, b, c, d, e) ∧ k a b c d e = some r := by
  cases o with | none => cases h | some q => exact ⟨q.1, q.2.1, q.2.2.1, q.2.2.2.1, q.2.2.2.2, rfl, h⟩
theorem b6_s {α1 α2 α3 α4 α5 α6 γ : Type} {o : Option (α1 × α2 × α3 × α4 × α5 × α6)} {k : α1 → α2 → α3 → α4 → α5 → α6 → Option γ} {r : γ} (h : b6 o k = some r) : ∃ a b c d e f, o = some (a, b, c, d, e, f) ∧ k a b c d e f = some r := by
  cases o with | none => cases h | some q => exact ⟨q.1, q.2.1, q.2.2.1, q.2.2.2.1, q.2.2.2.2.1, q.2.2.2.2.2, rfl, h⟩
theorem b7_s {α1 α2 α3 α4 α5 α6 α7 γ : Type} {o : Option (α1 × α2 × α3 × α4 × α5 × α6 × α7)} {k : α1 → α2 → α3 → α4 → α5 → α6 → α7 → Option γ} {r : γ} (h : b7 o k = some r) : ∃ a b c d e f g, o = some (a, b, c, d, e, f, g) ∧ k a b c d e f g = some r := by
  cases o with | none => cases h | some q => exact ⟨q.1, q.2.1, q.2.2.1, q.2.2.2.1, q.2.2.2.2.1, q.2.2.2.2.2.1, q.2.2.2.2.2.2, rfl, h⟩
/-- a loop that may also return: the return, or what goes on behind it -/
def bS {α β γ : Type} (o : Option (α ⊕ β)) (ret : β → Option γ) (k : α → Option γ) : Option γ := match o with | some (.inl a) => k a | some (.inr b) => ret b | none => none
theorem bS_s {α β γ : Type} {o : Option (α ⊕ β)} {ret : β → Option γ} {k : α → Option γ} {r : γ} (h : bS o ret k = some r) : (∃ a, o = some (.inl a) ∧ k a = some r) ∨ ∃ b, o = some (.inr b) ∧ ret b = some r := by
  cases o with
  | none => cases h
  | some q => cases q with
    | inl a => exact Or.inl ⟨a, rfl, h⟩
    | inr b => exact Or.inr ⟨b, rfl, h⟩
def mx (x y : Int32) : Int32 := if x < y then y else x
def mn (x y : Int32) : Int32 := if y < x then y else x
theorem bo_n {v : Int32} (h : v = 0 ∨ v = 1) : narrow .boolean (.int v) = .int v := by rcases h with rfl | rfl <;> rfl
theorem bo_f {v : Int32} (h : v = 0 ∨ v = 1) : fits .boolean (.int v) = true := by rcases h with rfl | rfl <;> rfl
/-- an index in its row, as a test -/
def inb (i : Int32) (n : Nat) : Bool := !(decide (i < 0)) && decide (i.toNatClampNeg < n)
theorem inb_in {i : Int32} {n : Nat} (h : inb i n = true) : vp_in i n := by
  simp only [inb, Bool.and_eq_true, Bool.not_eq_true', decide_eq_false_iff_not, decide_eq_true_eq] at h
  exact fun q => q.elim h.1 (fun q => absurd h.2 (Nat.not_lt.mpr q))
theorem inb_lt {i : Int32} {n : Nat} (h : inb i n = true) : i.toNatClampNeg < n := by
  simp only [inb, Bool.and_eq_true, decide_eq_true_eq] at h
  exact h.2
theorem bS_x {α β γ : Type} {o : Option (α ⊕ β)} {ret : β → Option γ} {k : α → Option γ} {r : γ} (h : bS o ret k = some r) : ∃ q, o = some q ∧ (∀ a, q = .inl a → k a = some r) ∧ ∀ b, q = .inr b → ret b = some r := by
  cases o with
  | none => cases h
  | some q => cases q with
    | inl a => exact ⟨_, rfl, fun a2 e => (by cases e; exact h), fun b e => (by cases e)⟩
    | inr b => exact ⟨_, rfl, fun a e => (by cases e), fun b2 e => (by cases e; exact h)⟩
def FU : Nat := 6000
theorem alen_34 {j : Nat} (h : j < 20) : alen (34 + j) = 7 := by simp only [alen]; rw [if_neg (by omega), if_pos (by omega)]
theorem alen_54 {j : Nat} (h : j < 6) : alen (54 + j) = 9 := by simp only [alen]; rw [if_neg (by omega), if_neg (by omega), if_pos (by omega)]
theorem alen_60 {j : Nat} (h : j < 6) : alen (60 + j) = 6 := by simp only [alen]; rw [if_neg (by omega), if_neg (by omega), if_neg (by omega), if_pos (by omega)]
theorem alen_66 {j : Nat} (h : j < 20) : alen (66 + j) = 7 := by simp only [alen]; rw [if_neg (by omega), if_neg (by omega), if_neg (by omega), if_neg (by omega), if_pos (by omega)]
theorem alen_86 {j : Nat} (h : j < 6) : alen (86 + j) = 9 := by simp only [alen]; rw [if_neg (by omega), if_neg (by omega), if_neg (by omega), if_neg (by omega), if_neg (by omega), if_pos (by omega)]
theorem alen_92 {j : Nat} (h : j < 6) : alen (92 + j) = 6 := by simp only [alen]; rw [if_neg (by omega), if_neg (by omega), if_neg (by omega), if_neg (by omega), if_neg (by omega), if_neg (by omega)]
theorem pfI : parseFieldDescriptor "I" = some .int := by decide +kernel
theorem pfZ : parseFieldDescriptor "Z" = some .boolean := by decide +kernel
theorem narI (v : Int32) : narrow .int (.int v) = .int v := rfl
theorem s2a {a c : Int32} {b d : vS} (h : some (a, b) = some (c, d)) : a = c := by cases h; rfl
theorem s2b {a c : Int32} {b d : vS} (h : some (a, b) = some (c, d)) : b = d := by cases h; rfl
