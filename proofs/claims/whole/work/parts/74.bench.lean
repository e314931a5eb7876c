/-! a spell more, behind all -/
def bnB (b : Bk) (l t y : Nat) : Bk := (b.1 + 1, (fun c i => if i = b.1 then (if c = 0 then l else if c = 1 then 3 else if c = 2 then bhN b (bN b) else if c = 3 then t else if c = 4 then y else 1) else bC b c i), b.2.2)
theorem bnB_old (b : Bk) (l t y c i : Nat) (h : i ≠ bN b) : bC (bnB b l t y) c i = bC b c i := if_neg h
theorem bnB_new (b : Bk) (l t y c : Nat) : bC (bnB b l t y) c (bN b) = if c = 0 then l else if c = 1 then 3 else if c = 2 then bhN b (bN b) else if c = 3 then t else if c = 4 then y else 1 := if_pos rfl
theorem bnB_ok {b : Bk} (hb : bOk b) {l t y : Nat} (hl : l < 6) (ht : bhN b (bN b) < t) (ht9 : t ≤ 900) (hy : y ≤ 999) : bOk (bnB b l t y) := by
  refine ⟨fun i hi => ?_, hb.2.1, hb.2.2.1, hb.2.2.2⟩
  have hi2 : i < bN b + 1 := hi
  unfold sOk
  by_cases h : i = bN b
  · subst h
    simp only [bnB_new]
    simp
    omega
  · simp only [bnB_old b l t y _ i h]
    exact hb.1 i (by omega)
theorem bh_ge (b : Bk) : ∀ i s, s < i → bC b 3 s ≤ bhN b i := by
  intro i
  induction i with
  | zero => intro s h; omega
  | succ i ih =>
    intro s h
    rw [bhN]
    by_cases e : s = i
    · subst e; omega
    · have := ih s (by omega); omega
theorem pvN_bh {b : Bk} {m : Nat} (hm : bhN b (bN b) ≤ m) (l : Nat) : ∀ i, i ≤ bN b → pvN b l m i = 0 := by
  intro i
  induction i with
  | zero => intro _; rfl
  | succ i ih =>
    intro hi
    have h := bh_ge b (bN b) i (by omega)
    rw [pvN, if_neg]
    · exact ih (by omega)
    · simp only [cnd, held, Bool.and_eq_true, decide_eq_true_eq]
      omega
theorem bnB_pvN (b : Bk) (l t y o m : Nat) : ∀ i, i ≤ bN b → pvN (bnB b l t y) o m i = pvN b o m i := by
  intro i
  induction i with
  | zero => intro _; rfl
  | succ i ih =>
    intro hi
    rw [pvN, pvN, ih (by omega)]
    have e : cnd (bnB b l t y) o m i = cnd b o m i := by
      unfold cnd held
      simp only [bnB_old b l t y _ i (by omega)]
      rfl
    rw [e, bnB_old b l t y _ i (by omega)]
theorem bnB_pv (b : Bk) (l t y o m : Nat) : pv (bnB b l t y) o m = if m < bhN b (bN b) then pv b o m else if o = l ∧ wk b l 3 = 1 ∧ m < t then y + 1 else 0 := by
  show pvN (bnB b l t y) o m (bN b + 1) = _
  rw [pvN, bnB_pvN b l t y o m _ (Nat.le_refl _)]
  have e : cnd (bnB b l t y) o m (bN b) = decide (o = l ∧ wk b l 3 = 1 ∧ bhN b (bN b) ≤ m ∧ m < t) := by
    unfold cnd held
    simp only [bnB_new]
    have e9 : wk (bnB b l t y) o 3 = wk b o 3 := rfl
    simp only [if_true, if_neg (show ¬ (1 : Nat) = 0 by decide), if_neg (show ¬ (2 : Nat) = 0 by decide), if_neg (show ¬ (2 : Nat) = 1 by decide), if_neg (show ¬ (3 : Nat) = 0 by decide), if_neg (show ¬ (3 : Nat) = 1 by decide), if_neg (show ¬ (3 : Nat) = 2 by decide), if_neg (show ¬ (5 : Nat) = 0 by decide), if_neg (show ¬ (5 : Nat) = 1 by decide), if_neg (show ¬ (5 : Nat) = 2 by decide), if_neg (show ¬ (5 : Nat) = 3 by decide), if_neg (show ¬ (5 : Nat) = 4 by decide), if_neg (show ¬ (6 : Nat) = 0 by decide), if_neg (show ¬ (6 : Nat) = 1 by decide), if_neg (show ¬ (6 : Nat) = 2 by decide), if_neg (show ¬ (6 : Nat) = 3 by decide), if_neg (show ¬ (6 : Nat) = 4 by decide), e9, true_and]
    rw [← Bool.decide_and]
    congr 1
    apply propext
    constructor
    · rintro ⟨⟨a, c⟩, d⟩
      subst a
      exact ⟨rfl, c, d⟩
    · rintro ⟨a, c, d⟩
      subst a
      exact ⟨⟨rfl, c⟩, d⟩
  rw [e]
  by_cases h : m < bhN b (bN b)
  · rw [if_pos h, if_neg (by simp only [decide_eq_true_eq]; omega)]
    rfl
  · rw [if_neg h, pvN_bh (by omega) o _ (Nat.le_refl _)]
    by_cases h2 : o = l ∧ wk b l 3 = 1 ∧ m < t
    · rw [if_pos h2, if_pos (by simp only [decide_eq_true_eq]; omega), bnB_new]
      simp
    · rw [if_neg h2, if_neg (by simp only [decide_eq_true_eq]; omega)]
theorem bnB_pfo_lo (b : Bk) (l t y o m : Nat) (hm : m < bhN b (bN b)) : ∀ k i, pfo (bnB b l t y) o m k i = pfo b o m k i := by
  intro k
  induction k with
  | zero => intro i; rfl
  | succ k ih =>
    intro i
    rw [pfo, pfo, ih, bnB_pv, if_pos hm]
    rfl
theorem bnB_pfo_hi (b : Bk) (l t y o m : Nat) (hm : ¬ m < bhN b (bN b)) (hl : l < 6) : ∀ k i, i + k = 6 → pfo (bnB b l t y) o m k i = if i ≤ l ∧ bP b o l = 1 ∧ wk b l 3 = 1 ∧ m < t then y + 1 else 0 := by
  intro k
  induction k with
  | zero =>
    intro i hi
    rw [pfo, if_neg (by omega)]
  | succ k ih =>
    intro i hi
    rw [pfo, ih (i + 1) (by omega), bnB_pv, if_neg hm]
    have e : bP (bnB b l t y) o i = bP b o i := rfl
    rw [e]
    by_cases h : i = l ∧ wk b l 3 = 1 ∧ m < t
    · simp only [if_pos h]
      obtain ⟨h0, h1⟩ := h
      subst h0
      by_cases h3 : bP b o i = 1
      · rw [if_pos ⟨h3, by omega⟩, if_pos ⟨Nat.le_refl _, h3, h1⟩]
      · rw [if_neg (fun q => h3 q.1), if_neg (by omega), if_neg (fun q => h3 q.2.1)]
    · simp only [if_neg h]
      rw [if_neg (fun q => q.2 rfl)]
      by_cases h2 : i + 1 ≤ l ∧ bP b o l = 1 ∧ wk b l 3 = 1 ∧ m < t
      · rw [if_pos h2, if_pos ⟨by omega, h2.2⟩]
      · rw [if_neg h2, if_neg]
        intro q
        rcases Nat.lt_or_ge i l with q2 | q2
        · exact h2 ⟨q2, q.2⟩
        · exact h ⟨by omega, q.2.2⟩
/-- what a month of it adds -/
def un (b : Bk) (l y o j : Nat) : Nat := if wk b l 3 = 1 ∧ (o = l ∨ (2 ≤ j ∧ bP b o l = 1)) then (if j = 0 ∨ j = 2 then 1 else y) else 0
theorem bnB_inc (b : Bk) {l t y o m j : Nat} (hl : l < 6) (hj : j < 4) : inc (bnB b l t y) o m j = if m < bhN b (bN b) then inc b o m j else if m < t then un b l y o j else 0 := by
  unfold inc pp
  rw [bnB_pv]
  by_cases hm : m < bhN b (bN b)
  · rw [if_pos hm, if_pos hm, bnB_pfo_lo b l t y o m hm]
  · rw [if_neg hm, if_neg hm, bnB_pfo_hi b l t y o m hm hl 6 0 (by omega)]
    unfold un in1
    by_cases hw : wk b l 3 = 1
    · by_cases ht : m < t
      · by_cases ho : o = l
        · rcases (show j = 0 ∨ j = 1 ∨ j = 2 ∨ j = 3 by omega) with rfl | rfl | rfl | rfl <;> simp [hw, ht, ho]
        · by_cases hp : bP b o l = 1
          · rcases (show j = 0 ∨ j = 1 ∨ j = 2 ∨ j = 3 by omega) with rfl | rfl | rfl | rfl <;> simp [hw, ht, ho, hp]
          · rcases (show j = 0 ∨ j = 1 ∨ j = 2 ∨ j = 3 by omega) with rfl | rfl | rfl | rfl <;> simp [hw, ht, ho, hp]
      · rcases (show j = 0 ∨ j = 1 ∨ j = 2 ∨ j = 3 by omega) with rfl | rfl | rfl | rfl <;> simp [ht]
    · rcases (show j = 0 ∨ j = 1 ∨ j = 2 ∨ j = 3 by omega) with rfl | rfl | rfl | rfl <;> simp [hw]
theorem inc_bh {b : Bk} {o m j : Nat} (hm : bhN b (bN b) ≤ m) : inc b o m j = 0 := by
  have h : ∀ o, pv b o m = 0 := fun o => pvN_bh hm o _ (Nat.le_refl _)
  have h2 : ∀ k i, pfo b o m k i = 0 := by
    intro k
    induction k with
    | zero => intro i; rfl
    | succ k ih => intro i; rw [pfo, if_neg (fun q => q.2 (h i)), ih]
  unfold inc pp in1
  simp [h, h2]
theorem sm_cong {f g : Nat → Nat} : ∀ M, (∀ m, m < M → f m = g m) → sm f M = sm g M := by
  intro M
  induction M with
  | zero => intro _; rfl
  | succ M ih => intro h; rw [sm, sm, ih (fun m hm => h m (by omega)), h M (by omega)]
theorem bnB_tot {b : Bk} {l k y o j : Nat} (hl : l < 6) (hj : j < 4) (hk : bhN b (bN b) + k ≤ 900) : TT (bnB b l (bhN b (bN b) + k) y) o j = TT b o j + k * un b l y o j := by
  unfold TT tot
  have e1 : sm (fun m => inc b o m j) 900 = sm (fun m => inc b o m j) (bhN b (bN b)) := by
    have := sm_const (f := fun m => inc b o m j) (m := bhN b (bN b)) (c := 0) (900 - bhN b (bN b)) (fun i _ => inc_bh (by omega))
    rw [show bhN b (bN b) + (900 - bhN b (bN b)) = 900 by omega] at this
    omega
  have e2 : sm (fun m => inc (bnB b l (bhN b (bN b) + k) y) o m j) (bhN b (bN b)) = sm (fun m => inc b o m j) (bhN b (bN b)) := sm_cong _ (fun m hm => by rw [bnB_inc b hl hj, if_pos hm])
  have e3 : sm (fun m => inc (bnB b l (bhN b (bN b) + k) y) o m j) (bhN b (bN b) + k) = sm (fun m => inc b o m j) (bhN b (bN b)) + k * un b l y o j := by
    rw [sm_const (c := un b l y o j) k (fun i hi => by rw [bnB_inc b hl hj, if_neg (by omega), if_pos (by omega)]), e2]
  have e4 := sm_const (f := fun m => inc (bnB b l (bhN b (bN b) + k) y) o m j) (m := bhN b (bN b) + k) (c := 0) (900 - (bhN b (bN b) + k)) (fun i hi => by rw [bnB_inc b hl hj, if_neg (by omega), if_neg (by omega)])
  rw [show bhN b (bN b) + k + (900 - (bhN b (bN b) + k)) = 900 by omega, e3] at e4
  rw [e4, e1]
  omega
/-- the class adds it to its sums -/
theorem p_bench_loop {b : Bk} (hb : bOk b) {l len y : Nat} (hl : l < 6) (hw : wk b l 3 = 1) : ∀ (k o : Nat), o + k = 6 → ∀ n (S : vS), k < n → RXb S b → ∃ S', f_X1_addBench_L36 n (nI l) (nI len) (nI y) (nI o) S = some S' ∧ Ag [28, 29] [] S S' ∧ (∀ x j, o ≤ x → x < 6 → 2 ≤ j → j < 4 → S' (26 + j) x = S (26 + j) x + nI (len * un b l y x j)) ∧ ∀ x j, x < o → j < 4 → S' (26 + j) x = S (26 + j) x := by
  intro k
  induction k with
  | zero =>
    intro o ho n S hk hX
    obtain ⟨n, rfl⟩ : ∃ q, n = q + 1 := ⟨n - 1, by omega⟩
    rw [f_X1_addBench_L36, L6, if_pos ((nI_leI (by omega) (by omega)).mpr (by omega))]
    exact ⟨S, rfl, Ag.rf _ _ _, fun x j h1 h2 => by omega, fun x j _ _ => rfl⟩
  | succ k ih =>
    intro o ho n S hk hX
    obtain ⟨n, rfl⟩ : ∃ q, n = q + 1 := ⟨n - 1, by omega⟩
    have ho6 : o < 6 := by omega
    have hp := hb.2.2.2 o l ho6 hl
    have key : (o = l ∨ bP b o l = 1) → ∃ S', f_X1_addBench_J62 (f_X1_addBench_L36 n) (nI l) (nI len) (nI y) (nI o) S = some S' ∧ Ag [28, 29] [] S S' ∧ (∀ x j, o ≤ x → x < 6 → 2 ≤ j → j < 4 → S' (26 + j) x = S (26 + j) x + nI (len * un b l y x j)) ∧ ∀ x j, x < o → j < 4 → S' (26 + j) x = S (26 + j) x := by
      intro hq
      have eb : f_X1_addBench_J62 (f_X1_addBench_L36 n) (nI l) (nI len) (nI y) (nI o) S = f_X1_addBench_L36 n (nI l) (nI len) (nI y) (nI (o + 1)) (bump S 28 o len (len * y)) := by
        rw [f_X1_addBench_J62, if_pos (inb_n ho6 (by omega))]
        simp only [lt, nI_clamp (show o < 2 ^ 31 by omega), nI_1, pk_mul, upk_k, if_neg (show ¬ (29 : Nat) = 28 by decide)]
        rfl
      have hA : Ag [28, 29] [] S (bump S 28 o len (len * y)) := bump_Ag (by decide) (by decide) (by decide)
      obtain ⟨S', e, a, g, o9⟩ := ih (o + 1) (by omega) n (bump S 28 o len (len * y)) (by omega) (RX_ag hA (by decide) (by decide) (by decide) hX)
      have hat : ∀ x j, j < 4 → (bump S 28 o len (len * y)) (26 + j) x = if x = o ∧ 2 ≤ j then S (26 + j) x + nI (len * un b l y x j) else S (26 + j) x := by
        intro x j hj
        rw [bump_at]
        by_cases hx : x = o
        · subst hx
          have hu : ∀ j, 2 ≤ j → un b l y x j = if j = 0 ∨ j = 2 then 1 else y := fun j hj => by
            unfold un
            rw [if_pos ⟨hw, by rcases hq with q | q; exact Or.inl q; exact Or.inr ⟨hj, q⟩⟩]
          rcases (show j = 0 ∨ j = 1 ∨ j = 2 ∨ j = 3 by omega) with rfl | rfl | rfl | rfl <;> simp [hu]
        · simp [hx]
      refine ⟨S', by rw [eb, e], hA.tr a, fun x j h1 h2 h3 h4 => ?_, fun x j h hj => ?_⟩
      · by_cases hx : x = o
        · rw [o9 x j (by omega) h4, hat x j h4, if_pos ⟨hx, h3⟩]
        · rw [g x j (by omega) h2 h3 h4, hat x j h4, if_neg (fun q => hx q.1)]
      · rw [o9 x j (by omega) hj, hat x j hj, if_neg (by omega)]
    rw [f_X1_addBench_L36, L6, if_neg (fun q => absurd ((nI_leI (by omega) (by omega)).mp q) (by omega))]
    have hol : nI o = nI l ↔ o = l := nI_eq (by omega) (by omega)
    have hpl : nI (bP b o l) = nI 1 ↔ bP b o l = 1 := bit01 hp.1
    simp only [hol, inb_n ho6 (show o < 2 ^ 31 by omega), inb_n hl (show l < 2 ^ 31 by omega), if_true, nI_clamp (show o < 2 ^ 31 by omega), nI_clamp (show l < 2 ^ 31 by omega), hX.2.2.2.2 o l ho6 hl, L1, hpl]
    by_cases h1 : o = l
    · rw [if_pos h1]; exact key (Or.inl h1)
    · rw [if_neg h1]
      by_cases h2 : bP b o l = 1
      · rw [if_pos h2]; exact key (Or.inr h2)
      · rw [if_neg h2, nI_add]
        obtain ⟨S', e, a, g, o9⟩ := ih (o + 1) (by omega) n S (by omega) hX
        refine ⟨S', e, a, fun x j h3 h4 h5 h6 => ?_, fun x j h hj => o9 x j (by omega) hj⟩
        by_cases hx : x = o
        · subst hx
          rw [o9 x j (by omega) h6]
          have : un b l y x j = 0 := by unfold un; rw [if_neg (by omega)]
          rw [this, Nat.mul_zero, ← L0, Int32.add_zero]
        · exact g x j (by omega) h4 h5 h6
theorem p_addBench {b : Bk} (hb : bOk b) {l len y : Nat} (hl : l < 6) {S : vS} (hX : RXb S b) : ∃ S', f_X1_addBench (nI l) (nI len) (nI y) S = some S' ∧ Ag [26, 27, 28, 29] [] S S' ∧ ∀ x j, x < 6 → j < 4 → S' (26 + j) x = S (26 + j) x + nI (len * un b l y x j) := by
  rw [f_X1_addBench, L3, p_works hX hb hl (show 3 < 4 by omega), b1_some]
  by_cases hw : wk b l 3 = 1
  · rw [if_pos hw, if_neg (by decide), if_pos (inb_n hl (by omega))]
    have hA : Ag [26, 27, 28, 29] [] S (bump S 26 l len (len * y)) := bump_Ag (by decide) (by decide) (by decide)
    obtain ⟨S', e, a, g, -⟩ := p_bench_loop hb (len := len) (y := y) hl hw 6 0 (by omega) FU (bump S 26 l len (len * y)) (by unfold FU; omega) (RX_ag hA (by decide) (by decide) (by decide) hX)
    simp only [lt, nI_clamp (show l < 2 ^ 31 by omega), pk_mul, upk_k, if_neg (show ¬ (27 : Nat) = 26 by decide)]
    have eb : (upk (upk S 26 (upd (S 26) l (S 26 l + nI len))) 27 (upd (S 27) l (S 27 l + nI (len * y)))) = bump S 26 l len (len * y) := rfl
    rw [eb, L0, e, b1_some]
    refine ⟨S', rfl, hA.tr (a.mono (by decide) (by decide)), fun x j hx hj => ?_⟩
    by_cases h2 : 2 ≤ j
    · rw [g x j (by omega) hx h2 hj, bump_at, if_neg (by omega), if_neg (by omega)]
    · rw [a.1 (26 + j) (by omega) (by simp; omega), bump_at]
      have hu : un b l y x j = if x = l then (if j = 0 then 1 else y) else 0 := by
        unfold un
        by_cases h : x = l
        · rw [if_pos ⟨hw, Or.inl h⟩, if_pos h]
          rcases (show j = 0 ∨ j = 1 by omega) with rfl | rfl <;> simp
        · rw [if_neg (by omega), if_neg h]
      rw [hu]
      by_cases h : x = l
      · subst h
        rcases (show j = 0 ∨ j = 1 by omega) with rfl | rfl <;> simp
      · rw [if_neg (fun q => h q.2), if_neg (fun q => h q.2), if_neg h, Nat.mul_zero, ← L0, Int32.add_zero]
  · rw [if_neg hw, if_pos rfl]
    refine ⟨S, rfl, Ag.rf _ _ _, fun x j hx hj => ?_⟩
    have : un b l y x j = 0 := by unfold un; rw [if_neg (fun q => hw q.1)]
    rw [this, Nat.mul_zero, ← L0, Int32.add_zero]
