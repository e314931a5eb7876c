/-! the reference's months and sums -/
def mC (v : Nat) : Int32 := if v = 0 then -1 else nI (v - 1)
theorem mC_neg {v : Nat} (h : v ≤ 2000) : mC v < 0 ↔ v = 0 := by
  unfold mC
  by_cases e : v = 0
  · rw [if_pos e]; exact ⟨fun _ => e, fun _ => by decide⟩
  · rw [if_neg e]; exact ⟨fun q => absurd q (nI_pos (by omega)), fun q => absurd q e⟩
theorem mC_nn {v : Nat} (h : v ≤ 2000) : 0 ≤ mC v ↔ v ≠ 0 := by
  unfold mC
  by_cases e : v = 0
  · rw [if_pos e]; exact ⟨fun q => absurd q (by decide), fun q => absurd e q⟩
  · rw [if_neg e]; exact ⟨fun _ => e, fun _ => nI_pos' (by omega)⟩
theorem mC_le {v y : Nat} (h : v ≤ 2000) (hy : y ≤ 2000) : nI y ≤ mC v ↔ y + 1 ≤ v := by
  unfold mC
  by_cases e : v = 0
  · rw [if_pos e]
    constructor
    · intro q
      have h2 : (0 : Int32) ≤ nI y := nI_pos' (by omega)
      exact absurd (Int32.le_trans h2 q) (by decide)
    · intro q; omega
  · rw [if_neg e, nI_leI (by omega) (by omega)]; omega
theorem mC_pos {v : Nat} (h : v ≠ 0) : mC v = nI (v - 1) := if_neg h
/-- what the reference sees: a spell left out counts as not shown -/
def RE (S : vS) (b : Bk) : Prop := (∀ s c, s < bN b → c < 6 → S (3 + c) s = nI (bC b c s)) ∧ (∀ s, s < bN b → (nI s = S 0 3 → bC b 6 s = 0) ∧ (¬ nI s = S 0 3 → S 9 s = nI (bC b 6 s))) ∧ (∀ l j, l < 6 → j < 9 → S 10 (9 * l + j) = nI (bL b l j)) ∧ (∀ l, l < 6 → S 11 l = nI (bK b l)) ∧ ∀ x y, x < 6 → y < 6 → S 12 (6 * x + y) = nI (bP b x y)
theorem RE_ag {ks js : List Nat} {S S' : vS} {b : Bk} (h : Ag ks js S S') (hk : ∀ k, k ∈ ks → 12 < k) (hj : 3 ∉ js) (hM : RE S b) : RE S' b := by
  refine ⟨fun s c hs hc => ?_, fun s hs => ?_, fun l j hl hj => ?_, fun l hl => ?_, fun x y hx hy => ?_⟩
  · rw [h.1 _ (by omega) (fun q => by have := hk _ q; omega)]; exact hM.1 s c hs hc
  · rw [h.2 3 hj, h.1 9 (by omega) (fun q => by have := hk _ q; omega)]; exact hM.2.1 s hs
  · rw [h.1 _ (by omega) (fun q => by have := hk _ q; omega)]; exact hM.2.2.1 l j hl hj
  · rw [h.1 _ (by omega) (fun q => by have := hk _ q; omega)]; exact hM.2.2.2.1 l hl
  · rw [h.1 _ (by omega) (fun q => by have := hk _ q; omega)]; exact hM.2.2.2.2 x y hx hy
theorem p_mfill : ∀ (k i : Nat), i + k = 5400 → ∀ n (x : Int32) (S : vS), k < n → ∃ S', f_X4_findMonths_L2 n x (nI i) S = some S' ∧ Ag [14] [] S S' ∧ (∀ j, i ≤ j → j < 5400 → S' 14 j = -1) ∧ ∀ j, j < i → S' 14 j = S 14 j := by
  intro k
  induction k with
  | zero =>
    intro i hi n x S hk
    obtain ⟨n, rfl⟩ : ∃ q, n = q + 1 := ⟨n - 1, by omega⟩
    rw [f_X4_findMonths_L2, L5400, if_pos ((nI_leI (by omega) (by omega)).mpr (by omega))]
    exact ⟨S, rfl, Ag.rf _ _ _, fun j h1 h2 => by omega, fun j h => rfl⟩
  | succ k ih =>
    intro i hi n x S hk
    obtain ⟨n, rfl⟩ : ∃ q, n = q + 1 := ⟨n - 1, by omega⟩
    rw [f_X4_findMonths_L2, L5400, if_neg (fun q => absurd ((nI_leI (by omega) (by omega)).mp q) (by omega)), if_pos (inb_n (by omega) (by omega))]
    simp only [lt, nI_clamp (show i < 2 ^ 31 by omega), nI_1]
    have hA : Ag [14] [] S (upk S 14 (upd (S 14) i (-1))) := Ag.k _ (by decide) (by decide)
    obtain ⟨S', e, a, g, o⟩ := ih (i + 1) (by omega) n x _ (by omega)
    refine ⟨S', e, hA.tr a, fun j h1 h2 => ?_, fun j h => ?_⟩
    · by_cases h3 : j = i
      · subst h3; rw [o j (by omega), upk_eq, upd_k, if_pos rfl]
      · exact g j (by omega) h2
    · rw [o j (by omega), upk_eq, upd_k, if_neg (by omega)]
theorem m_idx {l m : Nat} (hl : l < 6) (hm : m < 900) : nI 900 * nI l + nI m = nI (900 * l + m) := by rw [pk_mul, nI_add]
/-- one spell's months -/
theorem p_mspell {s l t y : Nat} (hs : s < 21) (hl : l < 6) (ht : t ≤ 900) (hy : y ≤ 999) : ∀ (k m : Nat), m + k = t → ∀ n (x : Int32) (S : vS) (w : Nat → Nat → Nat), k < n → S 3 s = nI l → S 6 s = nI t → S 7 s = nI y → (∀ o i, o < 6 → i < 900 → w o i ≤ 1000 ∧ S 14 (900 * o + i) = mC (w o i)) → ∃ S', f_X4_findMonths_L89 n x (nI s) (nI m) S = some S' ∧ Ag [14] [] S S' ∧ ∀ o i, o < 6 → i < 900 → S' 14 (900 * o + i) = mC (if o = l ∧ m ≤ i ∧ i < t then max (w o i) (y + 1) else w o i) := by
  intro k
  induction k with
  | zero =>
    intro m hm n x S w hk h3 h6 h7 hw
    obtain ⟨n, rfl⟩ : ∃ q, n = q + 1 := ⟨n - 1, by omega⟩
    rw [f_X4_findMonths_L89, if_pos (inb_n hs (by omega))]
    simp only [nI_clamp (show s < 2 ^ 31 by omega), h6]
    rw [if_pos ((nI_leI (by omega) (by omega)).mpr (by omega))]
    refine ⟨S, rfl, Ag.rf _ _ _, fun o i ho hi => ?_⟩
    rw [if_neg (by omega)]
    exact (hw o i ho hi).2
  | succ k ih =>
    intro m hm n x S w hk h3 h6 h7 hw
    obtain ⟨n, rfl⟩ : ∃ q, n = q + 1 := ⟨n - 1, by omega⟩
    have hwl := hw l m hl (by omega)
    rw [f_X4_findMonths_L89, if_pos (inb_n hs (by omega))]
    simp only [nI_clamp (show s < 2 ^ 31 by omega), h3, h6, h7, lt, L900, m_idx hl (show m < 900 by omega), inb_n (show 900 * l + m < 5400 by omega) (show 900 * l + m < 2 ^ 31 by omega), nI_clamp (show 900 * l + m < 2 ^ 31 by omega), hwl.2, if_true, nI_1, mC_le (show w l m ≤ 2000 by omega) (show y ≤ 2000 by omega)]
    rw [if_neg (fun q => absurd ((nI_leI (by omega) (by omega)).mp q) (by omega))]
    by_cases hc : y + 1 ≤ w l m
    · rw [if_pos hc]
      obtain ⟨S', e, a, g⟩ := ih (m + 1) (by omega) n x S w (by omega) h3 h6 h7 hw
      refine ⟨S', e, a, fun o i ho hi => ?_⟩
      rw [g o i ho hi]
      congr 1
      by_cases h1 : o = l ∧ m + 1 ≤ i ∧ i < t
      · rw [if_pos h1, if_pos (by omega)]
      · rw [if_neg h1]
        by_cases h2 : o = l ∧ m ≤ i ∧ i < t
        · rw [if_pos h2]
          have e1 : o = l := h2.1
          have e2 : i = m := by omega
          rw [e1, e2]; omega
        · rw [if_neg h2]
    · rw [if_neg hc]
      have hA : Ag [14] [] S (upk S 14 (upd (S 14) (900 * l + m) (nI y))) := Ag.k _ (by decide) (by decide)
      obtain ⟨S', e, a, g⟩ := ih (m + 1) (by omega) n x (upk S 14 (upd (S 14) (900 * l + m) (nI y))) (fun o i => if o = l ∧ i = m then y + 1 else w o i) (by omega) (by rw [upk_ne _ _ (by decide)]; exact h3) (by rw [upk_ne _ _ (by decide)]; exact h6) (by rw [upk_ne _ _ (by decide)]; exact h7) (fun o i ho hi => by
        rw [upk_eq, upd_k]
        by_cases h1 : o = l ∧ i = m
        · rw [if_pos h1, h1.1, h1.2, if_pos rfl, mC_pos (by omega)]
          exact ⟨by omega, rfl⟩
        · rw [if_neg h1, if_neg (by omega)]
          exact hw o i ho hi)
      refine ⟨S', e, hA.tr a, fun o i ho hi => ?_⟩
      rw [g o i ho hi]
      congr 1
      by_cases h1 : o = l ∧ m + 1 ≤ i ∧ i < t
      · rw [if_pos h1, if_neg (show ¬ (o = l ∧ i = m) by omega), if_pos (by omega)]
      · rw [if_neg h1]
        by_cases h2 : o = l ∧ m ≤ i ∧ i < t
        · have e1 : o = l := h2.1
          have e2 : i = m := by omega
          rw [if_pos h2, e1, e2, if_pos ⟨rfl, rfl⟩]; omega
        · rw [if_neg h2, if_neg (by omega)]
/-- all spells -/
theorem p_mspells {b : Bk} (hb : bOk b) (hn : bN b ≤ 21) : ∀ (k s : Nat), s + k = bN b → ∀ n (S : vS), k < n → RE S b → (∀ o i, o < 6 → i < 900 → S 14 (900 * o + i) = mC (pvN b o i s)) → ∃ S', f_X4_findMonths_L24 n (nI (bN b)) (nI s) S = some S' ∧ Ag [14] [] S S' ∧ ∀ o i, o < 6 → i < 900 → S' 14 (900 * o + i) = mC (pv b o i) := by
  intro k
  induction k with
  | zero =>
    intro s hs n S hk hR hw
    obtain ⟨n, rfl⟩ : ∃ q, n = q + 1 := ⟨n - 1, by omega⟩
    have : s = bN b := by omega
    subst this
    rw [f_X4_findMonths_L24, if_pos ((nI_leI (by omega) (by omega)).mpr (Nat.le_refl _))]
    exact ⟨S, rfl, Ag.rf _ _ _, hw⟩
  | succ k ih =>
    intro s hs n S hk hR hw
    obtain ⟨n, rfl⟩ : ∃ q, n = q + 1 := ⟨n - 1, by omega⟩
    have his : s < bN b := by omega
    obtain ⟨q0, q1, q2, q3, q4, q5, q6⟩ := hb.1 s his
    have hskip : ∀ (hc : ∀ o i, cnd b o i s = false), ∃ S', f_X4_findMonths_L24 n (nI (bN b)) (nI (s + 1)) S = some S' ∧ Ag [14] [] S S' ∧ ∀ o i, o < 6 → i < 900 → S' 14 (900 * o + i) = mC (pv b o i) := fun hc => ih (s + 1) (by omega) n S (by omega) hR (fun o i ho hi => by rw [pvN, hc o i]; simp; exact hw o i ho hi)
    rw [f_X4_findMonths_L24, if_neg (fun q => absurd ((nI_leI (by omega) (by omega)).mp q) (by omega))]
    simp only [nI_1]
    by_cases hwo : nI s = S 0 3
    · rw [if_pos hwo]
      have h6 := (hR.2.1 s his).1 hwo
      exact hskip (fun o i => by simp [cnd, held, h6])
    · rw [if_neg hwo, if_pos (inb_n (by omega) (by omega))]
      have h9 := (hR.2.1 s his).2 hwo
      have r0 : S 3 s = nI (bC b 0 s) := hR.1 s 0 his (by omega)
      have r1 : S 4 s = nI (bC b 1 s) := hR.1 s 1 his (by omega)
      have r2 : S 5 s = nI (bC b 2 s) := hR.1 s 2 his (by omega)
      have r3 : S 6 s = nI (bC b 3 s) := hR.1 s 3 his (by omega)
      have r4 : S 7 s = nI (bC b 4 s) := hR.1 s 4 his (by omega)
      have r5 : S 8 s = nI (bC b 5 s) := hR.1 s 5 his (by omega)
      have hlaw : S 10 (9 * bC b 0 s + 8) = nI (bL b (bC b 0 s) 8) := hR.2.2.1 _ 8 q0 (by omega)
      have hv : bL b (bC b 0 s) 8 < 16 := by have := hb.2.1 _ 8 q0 (show 8 < 9 by omega); simp [mostN] at this; omega
      have hlo : f_X4_lawOf (nI (bC b 0 s)) 8 S = some (nI (bL b (bC b 0 s) 8)) := by
        rw [f_X4_lawOf]
        simp only [L9, L8, pk_mul, nI_add, inb_n (show 9 * bC b 0 s + 8 < 54 by omega) (show 9 * bC b 0 s + 8 < 2 ^ 31 by omega), if_true, nI_clamp (show 9 * bC b 0 s + 8 < 2 ^ 31 by omega), hlaw]
      simp only [nI_clamp (show s < 2 ^ 31 by omega), h9, r0, r1, r2, r5, hlo, b1, L0, nI_eq (show bC b 6 s < 2 ^ 31 by omega) (show 0 < 2 ^ 31 by omega), nI_eq (show bC b 5 s < 2 ^ 31 by omega) (show 0 < 2 ^ 31 by omega)]
      rw [wk_i _ hv _ q1]
      by_cases h6 : bC b 6 s = 0
      · rw [if_pos h6]
        exact hskip (fun o i => by simp [cnd, held, h6])
      · rw [if_neg h6]
        by_cases h5 : bC b 5 s = 0
        · rw [if_pos h5]
          exact hskip (fun o i => by simp [cnd, h5])
        · rw [if_neg h5]
          have hz : nI (bL b (bC b 0 s) 8 / 2 ^ bC b 1 s % 2) = nI 0 ↔ bL b (bC b 0 s) 8 / 2 ^ bC b 1 s % 2 = 0 := nI_eq (by omega) (by omega)
          simp only [hz]
          by_cases hw0 : bL b (bC b 0 s) 8 / 2 ^ bC b 1 s % 2 = 0
          · rw [if_pos hw0]
            refine hskip (fun o i => ?_)
            unfold cnd
            by_cases ho : bC b 0 s = o
            · subst ho; simp [wk, hw0]
            · simp [ho]
          · rw [if_neg hw0]
            obtain ⟨S1, e1, a1, g1⟩ := p_mspell (s := s) (l := bC b 0 s) (t := bC b 3 s) (y := bC b 4 s) (by omega) q0 q3 q4 (bC b 3 s - bC b 2 s) (bC b 2 s) (by omega) FU (nI (bN b)) S (fun o i => pvN b o i s) (by unfold FU; omega) r0 r3 r4 (fun o i ho hi => ⟨pvN_le b hb o i s (by omega), hw o i ho hi⟩)
            rw [e1]
            dsimp only
            have hR1 := RE_ag a1 (by decide) (by decide) hR
            obtain ⟨S2, e2, a2, g2⟩ := ih (s + 1) (by omega) n S1 (by omega) hR1 (fun o i ho hi => by
              rw [g1 o i ho hi, pvN]
              congr 1
              unfold cnd held wk
              by_cases h1 : o = bC b 0 s ∧ bC b 2 s ≤ i ∧ i < bC b 3 s
              · rw [if_pos h1, if_pos]
                obtain ⟨e, h2, h3⟩ := h1
                subst e
                simp [h2, h3, show bC b 5 s = 1 by omega, show bC b 6 s = 1 by omega, show bL b (bC b 0 s) 8 / 2 ^ bC b 1 s % 2 = 1 by omega]
              · rw [if_neg h1, if_neg]
                simp only [Bool.and_eq_true, decide_eq_true_eq]
                omega)
            exact ⟨S2, e2, a1.tr a2, g2⟩
theorem p_putPay_loop {b : Bk} (hb : bOk b) {S : vS} (hR : RE S b) {l m : Nat} (hl : l < 6) (hm : m < 900) (hw : ∀ o i, o < 6 → i < 900 → S 14 (900 * o + i) = mC (pv b o i)) : ∀ (k o : Nat), o + k = 6 → ∀ n, k < n → f_X4_putPay_L30 S n (nI l) (nI m) (nI o) = if pfo b l m k o = 0 then some (.inl ()) else some (.inr (mC (pfo b l m k o))) := by
  intro k
  induction k with
  | zero =>
    intro o ho n hk
    obtain ⟨n, rfl⟩ : ∃ q, n = q + 1 := ⟨n - 1, by omega⟩
    rw [f_X4_putPay_L30, L6, if_pos ((nI_leI (by omega) (by omega)).mpr (by omega))]
    simp [pfo]
  | succ k ih =>
    intro o ho n hk
    obtain ⟨n, rfl⟩ : ∃ q, n = q + 1 := ⟨n - 1, by omega⟩
    have hp := hb.2.2.2 l o hl (by omega)
    have hv := pv_le hb o m
    have hrec := ih (o + 1) (by omega) n (by omega)
    rw [f_X4_putPay_L30, L6, if_neg (fun q => absurd ((nI_leI (by omega) (by omega)).mp q) (by omega))]
    simp only [pk_mul, nI_add, L900, inb_n (show 6 * l + o < 36 by omega) (show 6 * l + o < 2 ^ 31 by omega), inb_n (show 900 * o + m < 5400 by omega) (show 900 * o + m < 2 ^ 31 by omega), if_true, nI_clamp (show 6 * l + o < 2 ^ 31 by omega), nI_clamp (show 900 * o + m < 2 ^ 31 by omega), hR.2.2.2.2 l o hl (by omega), hw o m (by omega) hm, L1, bit01 hp.1, mC_neg (show pv b o m ≤ 2000 by omega)]
    rw [pfo]
    by_cases h1 : bP b l o = 1
    · rw [if_pos h1]
      by_cases h2 : pv b o m = 0
      · rw [if_pos h2, if_neg (show ¬ (bP b l o = 1 ∧ pv b o m ≠ 0) by omega)]; exact hrec
      · rw [if_neg h2, if_pos (show (bP b l o = 1 ∧ pv b o m ≠ 0) from ⟨h1, h2⟩), if_neg h2]
    · rw [if_neg h1, if_neg (show ¬ (bP b l o = 1 ∧ pv b o m ≠ 0) by omega)]; exact hrec
theorem p_putPay {b : Bk} (hb : bOk b) {S : vS} (hR : RE S b) {l m : Nat} (hl : l < 6) (hm : m < 900) (hw : ∀ o i, o < 6 → i < 900 → S 14 (900 * o + i) = mC (pv b o i)) : f_X4_putPay (nI l) (nI m) S = some (mC (pp b l m)) := by
  have hv := pv_le hb l m
  rw [f_X4_putPay]
  simp only [L900, m_idx hl hm, inb_n (show 900 * l + m < 5400 by omega) (show 900 * l + m < 2 ^ 31 by omega), if_true, nI_clamp (show 900 * l + m < 2 ^ 31 by omega), hw l m hl hm, mC_neg (show pv b l m ≤ 2000 by omega)]
  unfold pp
  by_cases h : pv b l m = 0
  · rw [if_pos h, if_pos h, L0, p_putPay_loop hb hR hl hm hw 6 0 (by omega) FU (by unfold FU; omega)]
    by_cases h2 : pfo b l m 6 0 = 0
    · rw [if_pos h2, h2]; rfl
    · rw [if_neg h2]; rfl
  · rw [if_neg h, if_neg h]
theorem p_msums_loop {b : Bk} (hb : bOk b) {l : Nat} (hl : l < 6) : ∀ (k m : Nat), m + k = 900 → ∀ n (S : vS), k < n → RE S b → (∀ o i, o < 6 → i < 900 → S 14 (900 * o + i) = mC (pv b o i)) → (∀ j, j < 4 → S (15 + j) l = nI (tot b l j m)) → ∃ S', f_X4_sums_L30 n (nI l) (nI m) S = some S' ∧ Ag [15, 16, 17, 18] [] S S' ∧ (∀ j, j < 4 → S' (15 + j) l = nI (tot b l j 900)) ∧ ∀ j o, j < 4 → o ≠ l → S' (15 + j) o = S (15 + j) o := by
  intro k
  induction k with
  | zero =>
    intro m hm n S hk hR hw ht
    obtain ⟨n, rfl⟩ : ∃ q, n = q + 1 := ⟨n - 1, by omega⟩
    have : m = 900 := by omega
    subst this
    rw [f_X4_sums_L30, L900, if_pos ((nI_leI (by omega) (by omega)).mpr (by omega))]
    exact ⟨S, rfl, Ag.rf _ _ _, ht, fun j o _ _ => rfl⟩
  | succ k ih =>
    intro m hm n S hk hR hw ht
    obtain ⟨n, rfl⟩ : ∃ q, n = q + 1 := ⟨n - 1, by omega⟩
    have hv := pv_le hb l m
    have hq := pp_le hb l m
    have t0 := ht 0 (by omega)
    have t1 := ht 1 (by omega)
    have t2 := ht 2 (by omega)
    have t3 := ht 3 (by omega)
    simp only [Nat.add_zero, Nat.reduceAdd] at t0 t1 t2 t3
    rw [f_X4_sums_L30, L900, if_neg (fun q => absurd ((nI_leI (by omega) (by omega)).mp q) (by omega)), m_idx hl (by omega), p_putPay hb hR hl (by omega) hw]
    simp only [lt, b1, f_X4_sums_J74, f_X4_sums_J92, f_X4_sums_J111, inb_n (show 900 * l + m < 5400 by omega) (show 900 * l + m < 2 ^ 31 by omega), inb_n (show l < 6 by omega) (show l < 2 ^ 31 by omega), if_true, nI_clamp (show 900 * l + m < 2 ^ 31 by omega), nI_clamp (show l < 2 ^ 31 by omega), hw l m hl (by omega), mC_neg (show pv b l m ≤ 2000 by omega), mC_neg (show pp b l m ≤ 2000 by omega), nI_1, t0, upk_k, if_neg (show ¬ (16 : Nat) = 15 by decide), if_neg (show ¬ (17 : Nat) = 16 by decide), if_neg (show ¬ (17 : Nat) = 15 by decide), if_neg (show ¬ (18 : Nat) = 17 by decide), if_neg (show ¬ (18 : Nat) = 16 by decide), if_neg (show ¬ (18 : Nat) = 15 by decide), t1, t2, t3]
    have key : ∀ x0 x1 x2 x3 : Nat, x0 = inc b l m 0 → x1 = inc b l m 1 → x2 = inc b l m 2 → x3 = inc b l m 3 → ∃ S', f_X4_sums_L30 n (nI l) (nI (m + 1)) (upk (upk (upk (upk S 15 (upd (S 15) l (nI (tot b l 0 m + x0)))) 16 (upd (S 16) l (nI (tot b l 1 m + x1)))) 17 (upd (S 17) l (nI (tot b l 2 m + x2)))) 18 (upd (S 18) l (nI (tot b l 3 m + x3)))) = some S' ∧ Ag [15, 16, 17, 18] [] S S' ∧ (∀ j, j < 4 → S' (15 + j) l = nI (tot b l j 900)) ∧ ∀ j o, j < 4 → o ≠ l → S' (15 + j) o = S (15 + j) o := by
      intro x0 x1 x2 x3 h0 h1 h2 h3
      have hA : Ag [15, 16, 17, 18] [] S (upk (upk (upk (upk S 15 (upd (S 15) l (nI (tot b l 0 m + x0)))) 16 (upd (S 16) l (nI (tot b l 1 m + x1)))) 17 (upd (S 17) l (nI (tot b l 2 m + x2)))) 18 (upd (S 18) l (nI (tot b l 3 m + x3)))) := by
        refine Ag.tr (Ag.tr (Ag.tr (Ag.k _ ?_ ?_) (Ag.k _ ?_ ?_)) (Ag.k _ ?_ ?_)) (Ag.k _ ?_ ?_) <;> decide
      obtain ⟨S', e, a, g, o9⟩ := ih (m + 1) (by omega) n _ (by omega) (RE_ag hA (by decide) (by decide) hR) (fun o i ho hi => by rw [hA.1 14 (by decide) (by decide)]; exact hw o i ho hi) (fun j hj => by
        rcases (show j = 0 ∨ j = 1 ∨ j = 2 ∨ j = 3 by omega) with rfl | rfl | rfl | rfl <;> simp [upk_k, upd_k, nI_add, tot, sm, h0, h1, h2, h3])
      refine ⟨S', e, hA.tr a, g, fun j o hj ho => ?_⟩
      rw [o9 j o hj ho]
      rcases (show j = 0 ∨ j = 1 ∨ j = 2 ∨ j = 3 by omega) with rfl | rfl | rfl | rfl <;> simp [upk_k, upd_k, ho]
    by_cases h1 : pv b l m = 0
    · by_cases h2 : pp b l m = 0
      · simp only [if_pos h1, if_pos h2, L0, nI_add]
        exact key 0 0 0 0 (by simp [inc, in1, h1]) (by simp [inc, h1]) (by simp [inc, in1, h2]) (by simp [inc, h2])
      · simp only [if_pos h1, if_neg h2, mC_pos h2, L0, nI_add]
        exact key 0 0 1 (pp b l m - 1) (by simp [inc, in1, h1]) (by simp [inc, h1]) (by simp [inc, in1, h2]) (by simp [inc])
    · by_cases h2 : pp b l m = 0
      · simp only [if_neg h1, if_pos h2, mC_pos h1, L0, nI_add]
        exact key 1 (pv b l m - 1) 0 0 (by simp [inc, in1, h1]) (by simp [inc]) (by simp [inc, in1, h2]) (by simp [inc, h2])
      · simp only [if_neg h1, if_neg h2, mC_pos h1, mC_pos h2, L0, nI_add]
        exact key 1 (pv b l m - 1) 1 (pp b l m - 1) (by simp [inc, in1, h1]) (by simp [inc]) (by simp [inc, in1, h2]) (by simp [inc])
theorem p_msums {b : Bk} (hb : bOk b) {l : Nat} (hl : l < 6) {S : vS} (hR : RE S b) (hw : ∀ o i, o < 6 → i < 900 → S 14 (900 * o + i) = mC (pv b o i)) : ∃ S', f_X4_sums (nI l) S = some S' ∧ Ag [15, 16, 17, 18] [] S S' ∧ (∀ j, j < 4 → S' (15 + j) l = nI (tot b l j 900)) ∧ ∀ j o, j < 4 → o ≠ l → S' (15 + j) o = S (15 + j) o := by
  rw [f_X4_sums]
  simp only [lt, inb_n (show l < 6 by omega) (show l < 2 ^ 31 by omega), if_true, nI_clamp (show l < 2 ^ 31 by omega), upk_k, if_neg (show ¬ (16 : Nat) = 15 by decide), if_neg (show ¬ (17 : Nat) = 16 by decide), if_neg (show ¬ (17 : Nat) = 15 by decide), if_neg (show ¬ (18 : Nat) = 17 by decide), if_neg (show ¬ (18 : Nat) = 16 by decide), if_neg (show ¬ (18 : Nat) = 15 by decide)]
  generalize hT : (upk (upk (upk (upk S 15 (upd (S 15) l 0)) 16 (upd (S 16) l 0)) 17 (upd (S 17) l 0)) 18 (upd (S 18) l 0)) = T
  have hA : Ag [15, 16, 17, 18] [] S T := by
    rw [← hT]
    refine Ag.tr (Ag.tr (Ag.tr (Ag.k _ ?_ ?_) (Ag.k _ ?_ ?_)) (Ag.k _ ?_ ?_)) (Ag.k _ ?_ ?_) <;> decide
  obtain ⟨S', e, a, g, o9⟩ := p_msums_loop hb hl 900 0 (by omega) FU T (by unfold FU; omega) (RE_ag hA (by decide) (by decide) hR) (fun o i ho hi => by rw [hA.1 14 (by decide) (by decide)]; exact hw o i ho hi) (fun j hj => by
    rw [← hT]
    rcases (show j = 0 ∨ j = 1 ∨ j = 2 ∨ j = 3 by omega) with rfl | rfl | rfl | rfl <;> simp [upk_k, upd_k, tot, sm, L0])
  rw [L0, e]
  refine ⟨S', rfl, hA.tr a, g, fun j o hj ho => ?_⟩
  rw [o9 j o hj ho, ← hT]
  rcases (show j = 0 ∨ j = 1 ∨ j = 2 ∨ j = 3 by omega) with rfl | rfl | rfl | rfl <;> simp [upk_k, upd_k, ho]
theorem p_mlands {b : Bk} (hb : bOk b) : ∀ (k l : Nat), l + k = 6 → ∀ n (S : vS), k < n → RE S b → (∀ o i, o < 6 → i < 900 → S 14 (900 * o + i) = mC (pv b o i)) → ∃ S', f_X4_findMonths_L156 n (nI l) S = some S' ∧ Ag [15, 16, 17, 18] [] S S' ∧ (∀ j o, j < 4 → l ≤ o → o < 6 → S' (15 + j) o = nI (tot b o j 900)) ∧ ∀ j o, j < 4 → o < l → S' (15 + j) o = S (15 + j) o := by
  intro k
  induction k with
  | zero =>
    intro l hl n S hk hR hw
    obtain ⟨n, rfl⟩ : ∃ q, n = q + 1 := ⟨n - 1, by omega⟩
    rw [f_X4_findMonths_L156, L6, if_pos ((nI_leI (by omega) (by omega)).mpr (by omega))]
    exact ⟨S, rfl, Ag.rf _ _ _, fun j o _ h1 h2 => by omega, fun j o _ _ => rfl⟩
  | succ k ih =>
    intro l hl n S hk hR hw
    obtain ⟨n, rfl⟩ : ∃ q, n = q + 1 := ⟨n - 1, by omega⟩
    rw [f_X4_findMonths_L156, L6, if_neg (fun q => absurd ((nI_leI (by omega) (by omega)).mp q) (by omega))]
    obtain ⟨S1, e1, a1, g1, o1⟩ := p_msums hb (show l < 6 by omega) hR hw
    rw [e1]
    simp only [b1, nI_1]
    obtain ⟨S2, e2, a2, g2, o2⟩ := ih (l + 1) (by omega) n S1 (by omega) (RE_ag a1 (by decide) (by decide) hR) (fun o i ho hi => by rw [a1.1 14 (by decide) (by decide)]; exact hw o i ho hi)
    refine ⟨S2, e2, a1.tr a2, fun j o hj h1 h2 => ?_, fun j o hj h => ?_⟩
    · by_cases h3 : o = l
      · subst h3; rw [o2 j o hj (by omega)]; exact g1 j hj
      · exact g2 j o hj (by omega) h2
    · rw [o2 j o hj (by omega), o1 j o hj (by omega)]
/-- the months and the sums -/
theorem p_findMonths {b : Bk} (hb : bOk b) (hn : bN b ≤ 21) {S : vS} (hR : RE S b) : ∃ S', f_X4_findMonths (nI (bN b)) S = some S' ∧ Ag [14, 15, 16, 17, 18] [] S S' ∧ (∀ o i, o < 6 → i < 900 → S' 14 (900 * o + i) = mC (pv b o i)) ∧ ∀ j o, j < 4 → o < 6 → S' (15 + j) o = nI (tot b o j 900) := by
  obtain ⟨S1, e1, a1, g1, -⟩ := p_mfill 5400 0 (by omega) FU (nI (bN b)) S (by unfold FU; omega)
  have hR1 := RE_ag a1 (by decide) (by decide) hR
  obtain ⟨S2, e2, a2, g2⟩ := p_mspells hb hn (bN b) 0 (by omega) FU S1 (by unfold FU; omega) hR1 (fun o i ho hi => by rw [g1 _ (by omega) (by omega)]; rfl)
  have hR2 := RE_ag a2 (by decide) (by decide) hR1
  obtain ⟨S3, e3, a3, g3, -⟩ := p_mlands hb 6 0 (by omega) FU S2 (by unfold FU; omega) hR2 g2
  rw [f_X4_findMonths, L0, e1]
  simp only [b1]
  rw [e2]
  simp only [b1]
  rw [e3]
  refine ⟨S3, rfl, ((a1.mono (by decide) (by decide)).tr (a2.mono (by decide) (by decide))).tr (a3.mono (by decide) (by decide)), fun o i ho hi => ?_, fun j o hj ho => g3 j o hj (by omega) ho⟩
  rw [a3.1 14 (by decide) (by decide)]
  exact g2 o i ho hi
