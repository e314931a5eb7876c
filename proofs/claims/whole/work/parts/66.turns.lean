/-! the turns -/
def ps (o : Nat → Int32) : Nat → Int32
  | 0 => 0
  | i + 1 => ps o i + o i
def ol (o : Nat → Int32) (l : Nat) (x : Int32) : Nat → Int32 := fun j => if j = l then x else o j
/-- sv: what a land owes by what the others owe -/
def tr (sv : Nat → Int32 → Int32) : Nat → (Nat → Int32) → (Nat → Int32)
  | 0, o => o
  | l + 1, o => ol (tr sv l o) l (sv l (ps (tr sv l o) 6 - tr sv l o l))
def ch (sv : Nat → Int32 → Int32) : Nat → (Nat → Int32) → Bool
  | 0, _ => false
  | l + 1, o => ch sv l o || decide (¬ sv l (ps (tr sv l o) 6 - tr sv l o l) = tr sv l o l)
def itr (sv : Nat → Int32 → Int32) : Nat → (Nat → Int32) → Bool → (Nat → Int32) × Bool
  | 0, o, r => (o, r)
  | k + 1, o, r => if r = true then (o, r) else itr sv k (tr sv 6 o) (!(ch sv 6 o))
theorem ps_cong {o o' : Nat → Int32} : ∀ n, (∀ j, j < n → o j = o' j) → ps o n = ps o' n := by
  intro n
  induction n with
  | zero => intro _; rfl
  | succ n ih => intro h; rw [ps, ps, ih (fun j hj => h j (by omega)), h n (by omega)]
theorem ps_ol (o : Nat → Int32) (l : Nat) (x : Int32) (hl : l < 6) : ps (ol o l x) 6 = ps o 6 - o l + x := by
  rcases (show l = 0 ∨ l = 1 ∨ l = 2 ∨ l = 3 ∨ l = 4 ∨ l = 5 by omega) with rfl | rfl | rfl | rfl | rfl | rfl <;> simp only [ps, ol, if_true, if_neg (show ¬ (0 : Nat) = 1 by decide), if_neg (show ¬ (0 : Nat) = 2 by decide), if_neg (show ¬ (0 : Nat) = 3 by decide), if_neg (show ¬ (0 : Nat) = 4 by decide), if_neg (show ¬ (0 : Nat) = 5 by decide), if_neg (show ¬ (1 : Nat) = 0 by decide), if_neg (show ¬ (1 : Nat) = 2 by decide), if_neg (show ¬ (1 : Nat) = 3 by decide), if_neg (show ¬ (1 : Nat) = 4 by decide), if_neg (show ¬ (1 : Nat) = 5 by decide), if_neg (show ¬ (2 : Nat) = 0 by decide), if_neg (show ¬ (2 : Nat) = 1 by decide), if_neg (show ¬ (2 : Nat) = 3 by decide), if_neg (show ¬ (2 : Nat) = 4 by decide), if_neg (show ¬ (2 : Nat) = 5 by decide), if_neg (show ¬ (3 : Nat) = 0 by decide), if_neg (show ¬ (3 : Nat) = 1 by decide), if_neg (show ¬ (3 : Nat) = 2 by decide), if_neg (show ¬ (3 : Nat) = 4 by decide), if_neg (show ¬ (3 : Nat) = 5 by decide), if_neg (show ¬ (4 : Nat) = 0 by decide), if_neg (show ¬ (4 : Nat) = 1 by decide), if_neg (show ¬ (4 : Nat) = 2 by decide), if_neg (show ¬ (4 : Nat) = 3 by decide), if_neg (show ¬ (4 : Nat) = 5 by decide), if_neg (show ¬ (5 : Nat) = 0 by decide), if_neg (show ¬ (5 : Nat) = 1 by decide), if_neg (show ¬ (5 : Nat) = 2 by decide), if_neg (show ¬ (5 : Nat) = 3 by decide), if_neg (show ¬ (5 : Nat) = 4 by decide)] <;> grind
theorem p_sumOf3 (a : Nat) (ha : 1 ≤ a ∧ a ≤ 97) (hl : alen a = 6) (S : vS) : f_X3_sumOf a S = some (ps (S a) 6) := by
  have key : ∀ (k i : Nat), i + k = 6 → ∀ n, k < n → f_X3_sumOf_L10 S n (ps (S a) i) a (nI 6) (nI i) = some (ps (S a) 6) := by
    intro k
    induction k with
    | zero =>
      intro i hi n hk
      obtain ⟨n, rfl⟩ : ∃ q, n = q + 1 := ⟨n - 1, by omega⟩
      have : i = 6 := by omega
      subst this
      rw [f_X3_sumOf_L10, if_pos ((nI_leI (by omega) (by omega)).mpr (by omega))]
    | succ k ih =>
      intro i hi n hk
      obtain ⟨n, rfl⟩ : ∃ q, n = q + 1 := ⟨n - 1, by omega⟩
      rw [f_X3_sumOf_L10, if_neg (fun q => absurd ((nI_leI (by omega) (by omega)).mp q) (by omega)), if_pos ha, hl, if_pos (inb_n (by omega) (by omega))]
      simp only [lt, nI_clamp (show i < 2 ^ 31 by omega), nI_1]
      exact ih (i + 1) (by omega) n (by omega)
  rw [f_X3_sumOf, if_pos ha, hl]
  have h := key 6 0 (by omega) FU (by unfold FU; omega)
  rw [ps] at h
  rw [L0] at h ⊢
  rw [h]
  rfl
theorem p_sumOf4 (a : Nat) (ha : 1 ≤ a ∧ a ≤ 97) (hl : alen a = 6) (S : vS) : f_X4_sumOf a S = some (ps (S a) 6) := by
  have key : ∀ (k i : Nat), i + k = 6 → ∀ n, k < n → f_X4_sumOf_L4 S n a (ps (S a) i) (nI i) = some (ps (S a) 6) := by
    intro k
    induction k with
    | zero =>
      intro i hi n hk
      obtain ⟨n, rfl⟩ : ∃ q, n = q + 1 := ⟨n - 1, by omega⟩
      have : i = 6 := by omega
      subst this
      rw [f_X4_sumOf_L4, L6, if_pos ((nI_leI (by omega) (by omega)).mpr (by omega))]
    | succ k ih =>
      intro i hi n hk
      obtain ⟨n, rfl⟩ : ∃ q, n = q + 1 := ⟨n - 1, by omega⟩
      rw [f_X4_sumOf_L4, L6, if_neg (fun q => absurd ((nI_leI (by omega) (by omega)).mp q) (by omega)), if_pos ha, hl, if_pos (inb_n (by omega) (by omega))]
      simp only [lt, nI_clamp (show i < 2 ^ 31 by omega), nI_1]
      exact ih (i + 1) (by omega) n (by omega)
  rw [f_X4_sumOf]
  have h := key 6 0 (by omega) FU (by unfold FU; omega)
  rw [ps] at h
  rw [L0] at h ⊢
  rw [h]
  rfl
/-- totals t l j, kinds and laws of b: what each land says -/
def svT (b : Bk) (t : Nat → Nat → Nat) (l : Nat) (oth : Int32) : Int32 := svI b l (bK b l) oth (whI b l (bK b l) (t l 0) (t l 1) (t l 2) (t l 3))
theorem p_turn_loop {b : Bk} (hb : bOk b) (t : Nat → Nat → Nat) (o : Nat → Int32) : ∀ (k l : Nat), l + k = 6 → ∀ n (S : vS), k < n → RXb S b → (∀ l, l < 6 → S 30 l = whI b l (bK b l) (t l 0) (t l 1) (t l 2) (t l 3)) → (∀ j, j < 6 → S 31 j = tr (svT b t) l o j) → ∃ S', f_X1_changesInTurn_L13 n (if ch (svT b t) l o = true then 1 else 0) (ps (tr (svT b t) l o) 6) (nI l) S = some ((if ch (svT b t) 6 o = true then 1 else 0), S') ∧ Ag [31] [] S S' ∧ ∀ j, j < 6 → S' 31 j = tr (svT b t) 6 o j := by
  intro k
  induction k with
  | zero =>
    intro l hl n S hk hX h30 h31
    obtain ⟨n, rfl⟩ : ∃ q, n = q + 1 := ⟨n - 1, by omega⟩
    have : l = 6 := by omega
    subst this
    rw [f_X1_changesInTurn_L13, L6, if_pos ((nI_leI (by omega) (by omega)).mpr (by omega))]
    exact ⟨S, rfl, Ag.rf _ _ _, h31⟩
  | succ k ih =>
    intro l hl n S hk hX h30 h31
    obtain ⟨n, rfl⟩ : ∃ q, n = q + 1 := ⟨n - 1, by omega⟩
    have hl6 : l < 6 := by omega
    have hk6 := hb.2.2.1 l hl6
    rw [f_X1_changesInTurn_L13, L6, if_neg (fun q => absurd ((nI_leI (by omega) (by omega)).mp q) (by omega))]
    simp only [lt, inb_n hl6 (show l < 2 ^ 31 by omega), if_true, nI_clamp (show l < 2 ^ 31 by omega), h31 l hl6, h30 l hl6, hX.2.2.2.1 l hl6, p_lessOthers hX hl6 hk6, b1, nI_1]
    generalize hv : svI b l (bK b l) (ps (tr (svT b t) l o) 6 - tr (svT b t) l o l) (whI b l (bK b l) (t l 0) (t l 1) (t l 2) (t l 3)) = v
    have hA : Ag [31] [] S (upk S 31 (upd (S 31) l v)) := Ag.k _ (by decide) (by decide)
    have hv2 : svT b t l (ps (tr (svT b t) l o) 6 - tr (svT b t) l o l) = v := hv
    obtain ⟨S', e, a, g⟩ := ih (l + 1) (by omega) n (upk S 31 (upd (S 31) l v)) (by omega) (RX_ag hA (by decide) (by decide) (by decide) hX) (fun l hl => by rw [hA.1 30 (by decide) (by decide)]; exact h30 l hl) (fun j hj => by
      rw [upk_eq, upd_k, tr, ol, hv2]
      by_cases e : j = l
      · rw [if_pos e, if_pos e]
      · rw [if_neg e, if_neg e]; exact h31 j hj)
    refine ⟨S', ?_, hA.tr a, g⟩
    rw [tr, hv2, ps_ol _ _ _ hl6, ch, hv2] at e
    by_cases hc : ch (svT b t) l o = true
    · simp only [if_pos hc]
      rw [if_neg (by decide)]
      simp only [hc, Bool.true_or, if_true] at e
      exact e
    · simp only [if_neg hc, if_true]
      by_cases hq : v = tr (svT b t) l o l
      · rw [if_pos hq]
        simp only [hc, hq, not_true, decide_false, Bool.or_false, Bool.false_eq_true, if_false] at e
        rw [hq]
        exact e
      · rw [if_neg hq]
        simp only [hq, not_false_eq_true, decide_true, Bool.or_true, if_true] at e
        exact e
theorem p_turn {b : Bk} (hb : bOk b) (t : Nat → Nat → Nat) (o : Nat → Int32) {S : vS} (hX : RXb S b) (h30 : ∀ l, l < 6 → S 30 l = whI b l (bK b l) (t l 0) (t l 1) (t l 2) (t l 3)) (h31 : ∀ j, j < 6 → S 31 j = o j) : ∃ S', f_X1_changesInTurn S = some ((if ch (svT b t) 6 o = true then 1 else 0), S') ∧ Ag [31] [] S S' ∧ ∀ j, j < 6 → S' 31 j = tr (svT b t) 6 o j := by
  obtain ⟨S', e, a, g⟩ := p_turn_loop hb t o 6 0 (by omega) FU S (by unfold FU; omega) hX h30 h31
  rw [f_X1_changesInTurn, p_sumOf3 31 (by decide) (by decide)]
  simp only [b1]
  rw [ps_cong 6 h31]
  rw [show ch (svT b t) 0 o = false from rfl, show tr (svT b t) 0 o = o from rfl, if_neg (show ¬ (false = true) by decide), ← L0] at e
  rw [e]
  refine ⟨S', ?_, a, g⟩
  simp only [b2]
  rw [if_pos]
  by_cases h : ch (svT b t) 6 o = true
  · rw [if_pos h]; exact Or.inr rfl
  · rw [if_neg h]; exact Or.inl rfl
def rI (r : Bool) : Int32 := if r = true then 1 else 0
theorem p_settle_loop {b : Bk} (hb : bOk b) (t : Nat → Nat → Nat) : ∀ (k i : Nat), i + k = 20 → ∀ n (S : vS) (o : Nat → Int32) (r : Bool), k < n → RXb S b → (∀ l, l < 6 → S 30 l = whI b l (bK b l) (t l 0) (t l 1) (t l 2) (t l 3)) → (∀ j, j < 6 → S 31 j = o j) → S 0 16 = rI r → ∃ S', f_X1_settle_L52 n (nI i) S = some S' ∧ Ag [31] [16] S S' ∧ (∀ j, j < 6 → S' 31 j = (itr (svT b t) k o r).1 j) ∧ S' 0 16 = rI (itr (svT b t) k o r).2 := by
  intro k
  induction k with
  | zero =>
    intro i hi n S o r hk hX h30 h31 h16
    obtain ⟨n, rfl⟩ : ∃ q, n = q + 1 := ⟨n - 1, by omega⟩
    rw [f_X1_settle_L52, L20, if_pos ((nI_leI (by omega) (by omega)).mpr (by omega))]
    exact ⟨S, rfl, Ag.rf _ _ _, h31, h16⟩
  | succ k ih =>
    intro i hi n S o r hk hX h30 h31 h16
    obtain ⟨n, rfl⟩ : ∃ q, n = q + 1 := ⟨n - 1, by omega⟩
    rw [f_X1_settle_L52, L20, if_neg (fun q => absurd ((nI_leI (by omega) (by omega)).mp q) (by omega)), h16]
    cases r with
    | true =>
      rw [if_neg (by decide)]
      exact ⟨S, rfl, Ag.rf _ _ _, h31, h16⟩
    | false =>
      rw [if_pos (by decide)]
      obtain ⟨S1, e1, a1, g1⟩ := p_turn hb t o hX h30 h31
      rw [e1]
      simp only [b2, lt, nI_1]
      have key : ∀ x : Int32, x = rI (!(ch (svT b t) 6 o)) → ∃ S', f_X1_settle_L52 n (nI (i + 1)) (upk S1 0 (upd (S1 0) 16 x)) = some S' ∧ Ag [31] [16] S S' ∧ (∀ j, j < 6 → S' 31 j = (itr (svT b t) (k + 1) o false).1 j) ∧ S' 0 16 = rI (itr (svT b t) (k + 1) o false).2 := by
        intro x hx
        have hA2 : Ag [31] [16] S1 (upk S1 0 (upd (S1 0) 16 x)) := Ag.j _ (by decide)
        have hA1 : Ag [31] [16] S S1 := a1.mono (by decide) (by decide)
        have hAA := hA1.tr hA2
        obtain ⟨S', e, a, g, h⟩ := ih (i + 1) (by omega) n (upk S1 0 (upd (S1 0) 16 x)) (tr (svT b t) 6 o) (!(ch (svT b t) 6 o)) (by omega) (RX_ag hAA (by decide) (by decide) (by decide) hX) (fun l hl => by rw [hAA.1 30 (by decide) (by decide)]; exact h30 l hl) (fun j hj => by rw [upk_ne _ _ (by decide)]; exact g1 j hj) (by rw [upk_eq, upd_k, if_pos rfl]; exact hx)
        exact ⟨S', e, hAA.tr a, g, h⟩
      by_cases hc : ch (svT b t) 6 o = true
      · simp only [if_pos hc]
        rw [if_neg (by decide)]
        exact key 0 (by rw [hc]; rfl)
      · simp only [if_neg hc, if_true]
        exact key 1 (by rw [Bool.not_eq_true] at hc; rw [hc]; rfl)
theorem p_whole_loop {b : Bk} (hb : bOk b) (t : Nat → Nat → Nat) (ht : ∀ l j, l < 6 → j < 4 → t l j < 3000000) : ∀ (k l : Nat), l + k = 6 → ∀ n (S : vS), k < n → RXb S b → (∀ o j, o < 6 → j < 4 → S (26 + j) o = nI (t o j)) → ∃ S', f_X1_settle_L2 n (nI l) S = some S' ∧ Ag [30] [] S S' ∧ (∀ o, l ≤ o → o < 6 → S' 30 o = whI b o (bK b o) (t o 0) (t o 1) (t o 2) (t o 3)) ∧ ∀ o, o < l → S' 30 o = S 30 o := by
  intro k
  induction k with
  | zero =>
    intro l hl n S hk hX hS
    obtain ⟨n, rfl⟩ : ∃ q, n = q + 1 := ⟨n - 1, by omega⟩
    rw [f_X1_settle_L2, L6, if_pos ((nI_leI (by omega) (by omega)).mpr (by omega))]
    exact ⟨S, rfl, Ag.rf _ _ _, fun o h1 h2 => by omega, fun o h => rfl⟩
  | succ k ih =>
    intro l hl n S hk hX hS
    obtain ⟨n, rfl⟩ : ∃ q, n = q + 1 := ⟨n - 1, by omega⟩
    have hl6 : l < 6 := by omega
    rw [f_X1_settle_L2, L6, if_neg (fun q => absurd ((nI_leI (by omega) (by omega)).mp q) (by omega))]
    simp only [inb_n hl6 (show l < 2 ^ 31 by omega), if_true, nI_clamp (show l < 2 ^ 31 by omega), hX.2.2.2.1 l hl6, p_dueWhole hX hb hl6 (hb.2.2.1 l hl6) (hS l 0 hl6 (by omega)) (hS l 1 hl6 (by omega)) (hS l 2 hl6 (by omega)) (hS l 3 hl6 (by omega)) (ht l 0 hl6 (by omega)) (ht l 2 hl6 (by omega)), b1, lt, nI_1]
    generalize hv : whI b l (bK b l) (t l 0) (t l 1) (t l 2) (t l 3) = v
    have hA : Ag [30] [] S (upk S 30 (upd (S 30) l v)) := Ag.k _ (by decide) (by decide)
    obtain ⟨S', e, a, g, o9⟩ := ih (l + 1) (by omega) n _ (by omega) (RX_ag hA (by decide) (by decide) (by decide) hX) (fun o j ho hj => by rw [hA.1 (26 + j) (by omega) (by simp; omega)]; exact hS o j ho hj)
    refine ⟨S', e, hA.tr a, fun o h1 h2 => ?_, fun o h => ?_⟩
    · by_cases h3 : o = l
      · subst h3; rw [o9 o (by omega), upk_eq, upd_k, if_pos rfl, hv]
      · exact g o (by omega) h2
    · rw [o9 o (by omega), upk_eq, upd_k, if_neg (by omega)]
/-- what all owe by the totals t -/
def owT (b : Bk) (t : Nat → Nat → Nat) : (Nat → Int32) × Bool := itr (svT b t) 20 (fun _ => 0) false
theorem p_settle {b : Bk} (hb : bOk b) (t : Nat → Nat → Nat) (ht : ∀ l j, l < 6 → j < 4 → t l j < 3000000) {S : vS} (hX : RXb S b) (hS : ∀ o j, o < 6 → j < 4 → S (26 + j) o = nI (t o j)) : ∃ S', f_X1_settle S = some (ps (owT b t).1 6, S') ∧ Ag [30, 31] [16] S S' ∧ (∀ j, j < 6 → S' 31 j = (owT b t).1 j) ∧ S' 0 16 = rI (owT b t).2 := by
  obtain ⟨S1, e1, a1, g1, -⟩ := p_whole_loop hb t ht 6 0 (by omega) FU S (by unfold FU; omega) hX hS
  have hX1 := RX_ag a1 (by decide) (by decide) (by decide) hX
  rw [f_X1_settle, L0, e1]
  simp only [b1]
  rw [p_fill 31 (by decide) _ (by decide)]
  simp only [lt]
  generalize hT : upk (upk S1 31 (fun j => if j < alen 31 then nI 0 else S1 31 j)) 0 (upd (upk S1 31 (fun j => if j < alen 31 then nI 0 else S1 31 j) 0) 16 (nI 0)) = T
  have hA : Ag [30, 31] [16] S1 T := by
    rw [← hT]
    exact (Ag.k _ (by decide) (by decide)).tr (Ag.j _ (by decide))
  have hAA : Ag [30, 31] [16] S T := (a1.mono (by decide) (by decide)).tr hA
  obtain ⟨S2, e2, a2, g2, h2⟩ := p_settle_loop hb t 20 0 (by omega) FU T (fun _ => 0) false (by unfold FU; omega) (RX_ag hAA (by decide) (by decide) (by decide) hX) (fun l hl => by
    rw [← hT, upk_ne _ _ (by decide), upk_ne _ _ (by decide)]; exact g1 l (by omega) hl) (fun j hj => by
    rw [← hT, upk_ne _ _ (by decide), upk_eq, if_pos (by simp [alen]; omega)]; rfl) (by rw [← hT, upk_eq, upd_k, if_pos rfl]; rfl)
  rw [e2]
  simp only [p_sumOf3 31 (by decide) (by decide)]
  exact ⟨S2, by rw [ps_cong 6 g2]; rfl, hAA.tr (a2.mono (by decide) (by decide)), g2, h2⟩
