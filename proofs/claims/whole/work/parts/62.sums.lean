/-! the class's sums -/
def Ag (ks js : List Nat) (S S' : vS) : Prop := (∀ k, k ≠ 0 → k ∉ ks → S' k = S k) ∧ ∀ j, j ∉ js → S' 0 j = S 0 j
theorem Ag.rf (ks js : List Nat) (S : vS) : Ag ks js S S := ⟨fun _ _ _ => rfl, fun _ _ => rfl⟩
theorem Ag.tr {ks js : List Nat} {S S1 S2 : vS} (h : Ag ks js S S1) (h2 : Ag ks js S1 S2) : Ag ks js S S2 := ⟨fun k a b => (h2.1 k a b).trans (h.1 k a b), fun j a => (h2.2 j a).trans (h.2 j a)⟩
theorem Ag.mono {ks js ks2 js2 : List Nat} {S S1 : vS} (h : Ag ks js S S1) (hk : ∀ k, k ∈ ks → k ∈ ks2) (hj : ∀ j, j ∈ js → j ∈ js2) : Ag ks2 js2 S S1 := ⟨fun k a b => h.1 k a (fun q => b (hk k q)), fun j a => h.2 j (fun q => a (hj j q))⟩
theorem Ag.k {ks js : List Nat} {S : vS} {k : Nat} (g : Nat → Int32) (hk : k ∈ ks) (h0 : k ≠ 0) : Ag ks js S (upk S k g) := ⟨fun k' a b => upk_ne S g (fun e => b (e ▸ hk)), fun j a => by rw [upk_ne S g (Ne.symm h0)]⟩
theorem Ag.j {ks js : List Nat} {S : vS} {j : Nat} (x : Int32) (hj : j ∈ js) : Ag ks js S (upk S 0 (upd (S 0) j x)) := ⟨fun k' a b => upk_ne S _ a, fun j' a => by rw [upk_eq, upd_k]; exact if_neg (fun e : j' = j => a (by rw [e]; exact hj))⟩
theorem RX_ag {r0 l0 p0 k0 j0 : Nat} {ks js : List Nat} {S S' : vS} {b : Bk} (h : Ag ks js S S') (hk : ∀ k, k ∈ ks → k < r0 ∧ k < l0 ∧ k < p0 ∧ k ≠ k0) (hj : j0 ∉ js) (h0 : 0 < r0 ∧ 0 < l0 ∧ 0 < p0 ∧ 0 < k0) (hX : RX r0 l0 p0 k0 j0 S b) : RX r0 l0 p0 k0 j0 S' b := by
  refine ⟨by rw [h.2 j0 hj]; exact hX.1, fun s c hs hc => ?_, fun l j hl hj => ?_, fun l hl => ?_, fun x y hx hy => ?_⟩
  · rw [h.1 _ (by omega) (fun q => by have := hk _ q; omega)]; exact hX.2.1 s c hs hc
  · rw [h.1 _ (by omega) (fun q => by have := hk _ q; omega)]; exact hX.2.2.1 l j hl hj
  · rw [h.1 _ (by omega) (fun q => (hk _ q).2.2.2 rfl)]; exact hX.2.2.2.1 l hl
  · rw [h.1 _ (by omega) (fun q => by have := hk _ q; omega)]; exact hX.2.2.2.2 x y hx hy
theorem RM_ag {ks js : List Nat} {S S' : vS} {b : Bk} (h : Ag ks js S S') (hk : ∀ k, k ∈ ks → 12 < k) (hM : RM S b) : RM S' b := by
  refine ⟨fun s c hs hc => ?_, fun l j hl hj => ?_, fun l hl => ?_, fun x y hx hy => ?_⟩
  · rw [h.1 _ (by omega) (fun q => by have := hk _ q; omega)]; exact hM.1 s c hs hc
  · rw [h.1 _ (by omega) (fun q => by have := hk _ q; omega)]; exact hM.2.1 l j hl hj
  · rw [h.1 _ (by omega) (fun q => by have := hk _ q; omega)]; exact hM.2.2.1 l hl
  · rw [h.1 _ (by omega) (fun q => by have := hk _ q; omega)]; exact hM.2.2.2 x y hx hy
/-- put together -/
def pfo (b : Bk) (l m : Nat) : Nat → Nat → Nat
  | 0, _ => 0
  | k + 1, o => if bP b l o = 1 ∧ pv b o m ≠ 0 then pv b o m else pfo b l m k (o + 1)
def pp (b : Bk) (l m : Nat) : Nat := if pv b l m = 0 then pfo b l m 6 0 else pv b l m
def in1 (v : Nat) : Nat := if v = 0 then 0 else 1
def inc (b : Bk) (l m j : Nat) : Nat := if j = 0 then in1 (pv b l m) else if j = 1 then pv b l m - 1 else if j = 2 then in1 (pp b l m) else pp b l m - 1
def sm (f : Nat → Nat) : Nat → Nat
  | 0 => 0
  | m + 1 => sm f m + f m
def tot (b : Bk) (l j M : Nat) : Nat := sm (fun m => inc b l m j) M
def ov (b : Bk) (m : Nat) : Nat := if 2 ≤ hdN b m (bN b) then 1 else 0
def foN (b : Bk) : Nat → Nat
  | 0 => 0
  | m + 1 => if foN b m = 0 then (if 2 ≤ hdN b m (bN b) then m + 1 else 0) else foN b m
theorem pv_le {b : Bk} (hb : bOk b) (l m : Nat) : pv b l m ≤ 1000 := pvN_le b hb l m _ (Nat.le_refl _)
theorem pfo_le {b : Bk} (hb : bOk b) (l m : Nat) : ∀ k o, pfo b l m k o ≤ 1000 := by
  intro k
  induction k with
  | zero => intro o; simp [pfo]
  | succ k ih =>
    intro o
    rw [pfo]
    split
    · exact pv_le hb o m
    · exact ih (o + 1)
theorem pp_le {b : Bk} (hb : bOk b) (l m : Nat) : pp b l m ≤ 1000 := by
  unfold pp
  split
  · exact pfo_le hb l m 6 0
  · exact pv_le hb l m
theorem inc_le {b : Bk} (hb : bOk b) (l m j : Nat) : inc b l m j ≤ 999 := by
  have h1 := pv_le hb l m
  have h2 := pp_le hb l m
  unfold inc in1
  split
  · split <;> omega
  · split
    · omega
    · split
      · split <;> omega
      · omega
theorem sm_le {f : Nat → Nat} {c : Nat} (h : ∀ m, f m ≤ c) : ∀ M, sm f M ≤ M * c := by
  intro M
  induction M with
  | zero => simp [sm]
  | succ M ih =>
    have := h M
    rw [sm, Nat.succ_mul]
    omega
theorem sm_const {f : Nat → Nat} {m c : Nat} : ∀ k, (∀ i, i < k → f (m + i) = c) → sm f (m + k) = sm f m + k * c := by
  intro k
  induction k with
  | zero => intro _; simp
  | succ k ih =>
    intro h
    rw [show m + (k + 1) = (m + k) + 1 by omega, sm, ih (fun i hi => h i (by omega)), h k (by omega), Nat.succ_mul]
    omega
theorem pC_n9 {v : Nat} (h : v ≤ 2000) : pC v = -9 ↔ v = 0 := by
  unfold pC
  by_cases e : v = 0
  · simp [e]
  · rw [if_neg e]
    constructor
    · intro q
      have h1 := m9_lt (v - 1) (by omega)
      rw [q] at h1
      exact absurd h1 (by decide)
    · intro q; exact absurd q e
theorem pC_pos {v : Nat} (h : v ≠ 0) : pC v = nI (v - 1) := if_neg h
/-- months alike -/
theorem nx_gt (b : Bk) (m : Nat) (hm : m < 900) : ∀ i, m < nxN b m i := by
  intro i
  induction i with
  | zero => exact hm
  | succ i ih =>
    rw [nxN]
    dsimp only
    split <;> split <;> omega
theorem nx_sp (b : Bk) (m : Nat) : ∀ i s, s < i → (m < bC b 2 s → nxN b m i ≤ bC b 2 s) ∧ (m < bC b 3 s → nxN b m i ≤ bC b 3 s) := by
  intro i
  induction i with
  | zero => intro s hs; omega
  | succ i ih =>
    intro s hs
    rw [nxN]
    dsimp only
    by_cases e : s = i
    · subst e
      constructor
      · intro h; rw [if_pos h]; split <;> omega
      · intro h; rw [if_pos h]; split <;> omega
    · have := ih s (by omega)
      constructor
      · intro h; have := this.1 h; split <;> split <;> omega
      · intro h; have := this.2 h; split <;> split <;> omega
theorem held_like {b : Bk} {m m' : Nat} (h1 : m ≤ m') (h2 : m' < nxN b m (bN b)) {s : Nat} (hs : s < bN b) : held b m' s = held b m s := by
  have h := nx_sp b m (bN b) s hs
  unfold held
  congr 1
  apply propext
  constructor
  · rintro ⟨a, c, d⟩
    refine ⟨a, ?_, ?_⟩
    · rcases Nat.lt_or_ge m (bC b 2 s) with q | q
      · have := h.1 q; omega
      · exact q
    · omega
  · rintro ⟨a, c, d⟩
    have := h.2 d
    exact ⟨a, by omega, by omega⟩
theorem pvN_like {b : Bk} {m m' : Nat} (h1 : m ≤ m') (h2 : m' < nxN b m (bN b)) (l : Nat) : ∀ i, i ≤ bN b → pvN b l m' i = pvN b l m i := by
  intro i
  induction i with
  | zero => intro _; rfl
  | succ i ih =>
    intro hi
    rw [pvN, pvN, ih (by omega)]
    unfold cnd
    rw [held_like h1 h2 (by omega)]
theorem pv_like {b : Bk} {m m' : Nat} (h1 : m ≤ m') (h2 : m' < nxN b m (bN b)) (l : Nat) : pv b l m' = pv b l m := pvN_like h1 h2 l _ (Nat.le_refl _)
theorem pfo_like {b : Bk} {m m' : Nat} (h1 : m ≤ m') (h2 : m' < nxN b m (bN b)) (l : Nat) : ∀ k o, pfo b l m' k o = pfo b l m k o := by
  intro k
  induction k with
  | zero => intro o; rfl
  | succ k ih => intro o; rw [pfo, pfo, pv_like h1 h2, ih]
theorem pp_like {b : Bk} {m m' : Nat} (h1 : m ≤ m') (h2 : m' < nxN b m (bN b)) (l : Nat) : pp b l m' = pp b l m := by
  unfold pp
  rw [pv_like h1 h2, pfo_like h1 h2]
theorem inc_like {b : Bk} {m m' : Nat} (h1 : m ≤ m') (h2 : m' < nxN b m (bN b)) (l j : Nat) : inc b l m' j = inc b l m j := by
  unfold inc
  rw [pv_like h1 h2, pp_like h1 h2]
theorem hd_like {b : Bk} {m m' : Nat} (h1 : m ≤ m') (h2 : m' < nxN b m (bN b)) : ∀ i, i ≤ bN b → hdN b m' i = hdN b m i := by
  intro i
  induction i with
  | zero => intro _; rfl
  | succ i ih => intro hi; rw [hdN, hdN, ih (by omega), held_like h1 h2 (by omega)]
theorem fo_like {b : Bk} {m : Nat} : ∀ k, m + k ≤ nxN b m (bN b) → 0 < k → foN b (m + k) = if foN b m = 0 then (if 2 ≤ hdN b m (bN b) then m + 1 else 0) else foN b m := by
  intro k
  induction k with
  | zero => intro _ h; omega
  | succ k ih =>
    intro h _
    rw [show m + (k + 1) = (m + k) + 1 by omega, foN]
    by_cases hk : k = 0
    · subst hk; rfl
    · rw [ih (by omega) (by omega), hd_like (m := m) (m' := m + k) (by omega) (by omega) _ (Nat.le_refl _)]
      by_cases h1 : foN b m = 0
      · rw [if_pos h1]
        by_cases h2 : 2 ≤ hdN b m (bN b)
        · rw [if_pos h2, if_neg (by omega)]
        · rw [if_neg h2, if_pos rfl]
          simp [h2]
      · rw [if_neg h1, if_neg h1]
/-- two rows' sums at a land -/
def bump (S : vS) (k l : Nat) (x y : Nat) : vS := upk (upk S k (upd (S k) l (S k l + nI x))) (k + 1) (upd (S (k + 1)) l (S (k + 1) l + nI y))
theorem bump_at (S : vS) (k l x y k' j : Nat) : bump S k l x y k' j = if k' = k ∧ j = l then S k l + nI x else if k' = k + 1 ∧ j = l then S (k + 1) l + nI y else S k' j := by
  unfold bump
  simp only [upk_k, upd_k]
  by_cases h1 : k' = k + 1
  · subst h1
    have e1 : ¬ (k + 1 = k) := by omega
    simp only [if_true, e1, false_and, if_false, true_and]
    rfl
  · simp only [if_neg h1, false_and, if_false, h1]
    by_cases h3 : k' = k
    · subst h3
      simp only [if_true, true_and]
      rfl
    · simp only [if_neg h3, h3, false_and, if_false]
theorem bump_Ag {S : vS} {k l x y : Nat} {ks js : List Nat} (h1 : k ∈ ks) (h2 : k + 1 ∈ ks) (h0 : k ≠ 0) : Ag ks js S (bump S k l x y) := by
  refine ⟨fun k' a c => ?_, fun j a => ?_⟩
  · funext j
    rw [bump_at, if_neg (fun q : k' = k ∧ j = l => c (by rw [q.1]; exact h1)), if_neg (fun q : k' = k + 1 ∧ j = l => c (by rw [q.1]; exact h2))]
  · rw [bump_at, if_neg (by omega), if_neg (by omega)]
theorem bump_0 (S : vS) (k l : Nat) : bump S k l 0 0 = S := by
  funext k' j
  rw [bump_at]
  split
  · next h => rw [h.1, h.2, ← L0]; simp
  · split
    · next h => rw [h.1, h.2, ← L0]; simp
    · rfl
theorem p_addOwn {S : vS} {v l len : Nat} (hv : v ≤ 1000) (hl : l < 6) (h25 : S 25 l = pC v) : f_X1_addOwn (nI l) (nI len) S = some (bump S 26 l (len * in1 v) (len * (v - 1))) := by
  rw [f_X1_addOwn, if_pos (inb_n (by omega) (by omega))]
  simp only [nI_clamp (show l < 2 ^ 31 by omega), h25, pC_n9 (show v ≤ 2000 by omega)]
  by_cases h : v = 0
  · subst h
    rw [if_pos rfl]
    simp [in1, bump_0]
  · rw [if_neg h]
    simp only [lt, upk_k, pC_pos h, pk_mul, in1, if_neg h, Nat.mul_one, bump]
    simp [h25, pC_pos h, pk_mul]
theorem p_payPut_loop {S : vS} {b : Bk} (hX : RXb S b) (hb : bOk b) {l m : Nat} (hl : l < 6) (h25 : ∀ o, o < 6 → S 25 o = pC (pv b o m)) : ∀ (k o : Nat), o + k = 6 → ∀ n, k < n → f_X1_payPut_L20 S n (nI l) (nI o) = if pfo b l m k o = 0 then some (.inl ()) else some (.inr (pC (pfo b l m k o))) := by
  intro k
  induction k with
  | zero =>
    intro o ho n hk
    obtain ⟨n, rfl⟩ : ∃ q, n = q + 1 := ⟨n - 1, by omega⟩
    rw [f_X1_payPut_L20, L6, if_pos ((nI_leI (by omega) (by omega)).mpr (by omega))]
    simp [pfo]
  | succ k ih =>
    intro o ho n hk
    obtain ⟨n, rfl⟩ : ∃ q, n = q + 1 := ⟨n - 1, by omega⟩
    have hp := hb.2.2.2 l o hl (by omega)
    have hv := pv_le hb o m
    have hrec := ih (o + 1) (by omega) n (by omega)
    rw [f_X1_payPut_L20, L6, if_neg (fun q => absurd ((nI_leI (by omega) (by omega)).mp q) (by omega)), if_pos (inb_n (by omega) (by omega)), if_pos (inb_n (by omega) (by omega))]
    simp only [nI_clamp (show l < 2 ^ 31 by omega), nI_clamp (show o < 2 ^ 31 by omega), hX.2.2.2.2 l o hl (by omega), h25 o (by omega), L1, bit01 hp.1, pC_n9 (show pv b o m ≤ 2000 by omega), nI_lt1]
    rw [pfo]
    by_cases h1 : bP b l o = 1
    · rw [if_pos h1]
      by_cases h2 : pv b o m = 0
      · rw [if_pos h2, if_neg (show ¬ (bP b l o = 1 ∧ pv b o m ≠ 0) by omega)]; exact hrec
      · rw [if_neg h2, if_pos (show (bP b l o = 1 ∧ pv b o m ≠ 0) from ⟨h1, h2⟩), if_neg h2]
    · rw [if_neg h1, if_neg (show ¬ (bP b l o = 1 ∧ pv b o m ≠ 0) by omega)]; exact hrec
theorem p_payPut {S : vS} {b : Bk} (hX : RXb S b) (hb : bOk b) {l m : Nat} (hl : l < 6) (h25 : ∀ o, o < 6 → S 25 o = pC (pv b o m)) : f_X1_payPut (nI l) S = some (pC (pp b l m)) := by
  have hv := pv_le hb l m
  rw [f_X1_payPut, if_pos (inb_n (by omega) (by omega))]
  simp only [nI_clamp (show l < 2 ^ 31 by omega), h25 l hl, pC_n9 (show pv b l m ≤ 2000 by omega)]
  unfold pp
  by_cases h : pv b l m = 0
  · rw [if_pos h, if_pos h, L0, p_payPut_loop hX hb hl h25 6 0 (by omega) FU (by unfold FU; omega)]
    by_cases h2 : pfo b l m 6 0 = 0
    · rw [if_pos h2, h2]; rfl
    · rw [if_neg h2]; rfl
  · rw [if_neg h, if_neg h]
theorem p_addPut {S : vS} {b : Bk} (hX : RXb S b) (hb : bOk b) {l m len : Nat} (hl : l < 6) (h25 : ∀ o, o < 6 → S 25 o = pC (pv b o m)) : f_X1_addPut (nI l) (nI len) S = some (bump S 28 l (len * in1 (pp b l m)) (len * (pp b l m - 1))) := by
  have hv := pp_le hb l m
  rw [f_X1_addPut, p_payPut hX hb hl h25]
  simp only [b1, nI_clamp (show l < 2 ^ 31 by omega), pC_n9 (show pp b l m ≤ 2000 by omega), inb_n (show l < 6 by omega) (show l < 2 ^ 31 by omega), if_true]
  by_cases h : pp b l m = 0
  · rw [if_pos h, h]
    simp [in1, bump_0]
  · rw [if_neg h]
    simp only [lt, upk_k, pC_pos h, pk_mul, in1, if_neg h, Nat.mul_one, bump]
    simp
theorem p_stretch1 {b : Bk} (hb : bOk b) (hn : bN b ≤ 20) {m len : Nat} (hm : m < 2000) : ∀ (k l : Nat), l + k = 6 → ∀ n (S : vS), k < n → RXb S b → ∃ S', f_X1_addStretch_L3 n (nI m) (nI len) (nI l) S = some S' ∧ Ag [25] [] S S' ∧ (∀ o, l ≤ o → o < 6 → S' 25 o = pC (pv b o m)) ∧ ∀ o, o < l → S' 25 o = S 25 o := by
  intro k
  induction k with
  | zero =>
    intro l hl n S hk hX
    obtain ⟨n, rfl⟩ : ∃ q, n = q + 1 := ⟨n - 1, by omega⟩
    rw [f_X1_addStretch_L3, L6, if_pos ((nI_leI (by omega) (by omega)).mpr (by omega))]
    exact ⟨S, rfl, Ag.rf _ _ _, fun o h1 h2 => by omega, fun o h => rfl⟩
  | succ k ih =>
    intro l hl n S hk hX
    obtain ⟨n, rfl⟩ : ∃ q, n = q + 1 := ⟨n - 1, by omega⟩
    rw [f_X1_addStretch_L3, L6, if_neg (fun q => absurd ((nI_leI (by omega) (by omega)).mp q) (by omega)), p_payAt hX hb hn (by omega) hm]
    simp only [b1, lt, inb_n (show l < 6 by omega) (show l < 2 ^ 31 by omega), if_true, nI_clamp (show l < 2 ^ 31 by omega), nI_1]
    have hA : Ag [25] [] S (upk S 25 (upd (S 25) l (pC (pv b l m)))) := Ag.k _ (by decide) (by decide)
    obtain ⟨S', e, a, g, o9⟩ := ih (l + 1) (by omega) n _ (by omega) (RX_ag hA (by decide) (by decide) (by decide) hX)
    refine ⟨S', e, hA.tr a, fun o h1 h2 => ?_, fun o h => ?_⟩
    · by_cases h3 : o = l
      · subst h3
        rw [o9 o (by omega), upk_eq, upd_k, if_pos rfl]
      · exact g o (by omega) h2
    · rw [o9 o (by omega), upk_eq, upd_k, if_neg (by omega)]
theorem p_stretch2 {b : Bk} (hb : bOk b) {m len : Nat} : ∀ (k l : Nat), l + k = 6 → ∀ n (S : vS), k < n → RXb S b → (∀ o, o < 6 → S 25 o = pC (pv b o m)) → ∃ S', f_X1_addStretch_L33 n (nI m) (nI len) (nI l) S = some S' ∧ Ag [26, 27, 28, 29] [] S S' ∧ (∀ o j, l ≤ o → o < 6 → j < 4 → S' (26 + j) o = S (26 + j) o + nI (len * inc b o m j)) ∧ ∀ o j, o < l → j < 4 → S' (26 + j) o = S (26 + j) o := by
  intro k
  induction k with
  | zero =>
    intro l hl n S hk hX h25
    obtain ⟨n, rfl⟩ : ∃ q, n = q + 1 := ⟨n - 1, by omega⟩
    rw [f_X1_addStretch_L33, L6, if_pos ((nI_leI (by omega) (by omega)).mpr (by omega))]
    exact ⟨S, rfl, Ag.rf _ _ _, fun o j h1 h2 => by omega, fun o j h hj => rfl⟩
  | succ k ih =>
    intro l hl n S hk hX h25
    obtain ⟨n, rfl⟩ : ∃ q, n = q + 1 := ⟨n - 1, by omega⟩
    rw [f_X1_addStretch_L33, L6, if_neg (fun q => absurd ((nI_leI (by omega) (by omega)).mp q) (by omega)), p_addOwn (pv_le hb l m) (by omega) (h25 l (by omega))]
    simp only [b1, nI_1]
    have hA1 : Ag [26, 27, 28, 29] [] S (bump S 26 l (len * in1 (pv b l m)) (len * (pv b l m - 1))) := bump_Ag (by decide) (by decide) (by decide)
    have h251 : ∀ o, o < 6 → (bump S 26 l (len * in1 (pv b l m)) (len * (pv b l m - 1))) 25 o = pC (pv b o m) := fun o ho => by rw [hA1.1 25 (by decide) (by decide)]; exact h25 o ho
    have hX1 := RX_ag hA1 (by decide) (by decide) (by decide) hX
    rw [p_addPut hX1 hb (by omega) h251]
    dsimp only
    have hA2 : Ag [26, 27, 28, 29] [] (bump S 26 l (len * in1 (pv b l m)) (len * (pv b l m - 1))) (bump (bump S 26 l (len * in1 (pv b l m)) (len * (pv b l m - 1))) 28 l (len * in1 (pp b l m)) (len * (pp b l m - 1))) := bump_Ag (by decide) (by decide) (by decide)
    obtain ⟨S', e, a, g, o9⟩ := ih (l + 1) (by omega) n _ (by omega) (RX_ag hA2 (by decide) (by decide) (by decide) hX1) (fun o ho => by rw [hA2.1 25 (by decide) (by decide)]; exact h251 o ho)
    have hat : ∀ o j, j < 4 → (bump (bump S 26 l (len * in1 (pv b l m)) (len * (pv b l m - 1))) 28 l (len * in1 (pp b l m)) (len * (pp b l m - 1))) (26 + j) o = if o = l then S (26 + j) o + nI (len * inc b o m j) else S (26 + j) o := by
      intro o j hj
      rw [bump_at, bump_at]
      by_cases ho : o = l
      · subst ho
        rcases (show j = 0 ∨ j = 1 ∨ j = 2 ∨ j = 3 by omega) with rfl | rfl | rfl | rfl <;> simp [inc, bump_at]
      · simp [ho, bump_at]
    refine ⟨S', e, (hA1.tr hA2).tr a, fun o j h1 h2 hj => ?_, fun o j h hj => ?_⟩
    · by_cases h3 : o = l
      · rw [o9 o j (by omega) hj, hat o j hj, if_pos h3]
      · rw [g o j (by omega) h2 hj, hat o j hj, if_neg h3]
    · rw [o9 o j (by omega) hj, hat o j hj, if_neg (by omega)]
