/-! asking, living -/
def pd (b : Bk) (l : Nat) (o : Int32) (m t : Nat) : Int32 := ((o * (100 + nI (bL b l 7) * ((nI m - nI (bL b l 1)) / 12))) / 100) * (if m ≤ t then nI (t - m + 1) else 0)
theorem mx_0 {m t : Nat} (hm : m ≤ 2000) (ht : t ≤ 2000) : mx 0 ((nI t - nI m) + 1) = if m ≤ t then nI (t - m + 1) else 0 := by
  have e : (nI t - nI m) + 1 = nI (t + 1) - nI m := by rw [nI_succ]; grind
  have hi := pk_sub_toInt (a := t + 1) (b := m) (by omega) (by omega)
  rw [e]
  unfold mx
  by_cases h : m ≤ t
  · rw [if_pos h, pk_sub (by omega)]
    have e2 : t + 1 - m = t - m + 1 := by omega
    rw [e2, if_pos (by rw [L0]; exact (nI_ltI (by omega) (by omega)).mpr (by omega))]
  · rw [if_neg h, if_neg]
    rw [Int32.lt_iff_toInt_lt, hi]
    have : (0 : Int32).toInt = 0 := by decide
    rw [this]
    omega
theorem p_paid {S : vS} {b : Bk} (hX : RXb S b) {l m t : Nat} (hl : l < 6) (hm : m ≤ 2000) (ht : t ≤ 2000) : f_X3_paidFrom (nI l) (nI m) (nI t) S = some (pd b l (S 31 l) m t) := by
  rw [f_X3_paidFrom]
  simp only [inb_n hl (show l < 2 ^ 31 by omega), if_true, nI_clamp (show l < 2 ^ 31 by omega), lt, hX.2.2.1 l 7 hl (by omega), hX.2.2.1 l 1 hl (by omega), mx_0 hm ht]
  rfl
theorem q_paid {S : vS} {b : Bk} (hR : RE S b) {l m t : Nat} (hl : l < 6) (hm : m ≤ 2000) (ht : t ≤ 2000) : f_X4_paid (nI l) (nI m) (nI t) S = some (pd b l (S 19 l) m t) := by
  rw [f_X4_paid, L7, L1, q_law hR hl (show 7 < 9 by omega), q_law hR hl (show 1 < 9 by omega)]
  simp only [inb_n hl (show l < 2 ^ 31 by omega), if_true, nI_clamp (show l < 2 ^ 31 by omega), lt, b1, nI_leI (show m < 2 ^ 31 by omega) (show t < 2 ^ 31 by omega)]
  unfold pd
  by_cases h : m ≤ t
  · rw [if_pos h, if_pos h, pk_sub h, nI_add]
  · rw [if_neg h, if_neg h, Int32.mul_zero]
theorem b1_some {α γ : Type} (a : α) (k : α → Option γ) : b1 (some a) k = k a := rfl
theorem b2_some {α β γ : Type} (a : α) (c : β) (k : α → β → Option γ) : b2 (some (a, c)) k = k a c := rfl
theorem q_askno (x1 x2 x3 k0 : Int32) (S : vS) (h : ¬ k0 = 0) : f_X4_asks_J52 x1 x2 x3 k0 S = b2 (f_X4_no k0 S) fun r S => some (r, S) := by rw [f_X4_asks_J52, if_neg h]
theorem t_asks {S : vS} (hI : IV S) (a c d : Int32) : Alike (f_X3_asks a c d) (f_X4_asks a c d) S := by
  rcases land_cases a with ⟨h3, h4⟩ | ⟨l, hl, rfl, h3, h4⟩
  · exact ref_end hI (w := -1) (k := 1) (by decide) (by decide) (by rw [f_X3_asks, h3]; simp only [b1, if_true]) (fun S1 _ _ => by rw [f_X4_asks, h4]; simp only [b1, if_true])
  · obtain ⟨⟨b, i1⟩, -⟩ := id hI
    have hlaw : ∀ T : vS, RE T b → f_X4_lawOf (nI l) 1 T = some (nI (bL b l 1)) := fun T hT => by rw [L1]; exact q_law hT hl (by omega)
    have hag : bL b l 1 ≤ 9999 := law_le i1.1 hl (by omega)
    have hX1 := i1.2.2.1.2.2.1 l 1 hl (by omega)
    have hR33 : ∀ S1 : vS, Ag [33] [] S S1 → RE S1 b := fun S1 h => RE_ag h (by decide) (by decide) (RE_of i1)
    by_cases c1 : c < nI (bL b l 1)
    · refine ref_end hI (w := -4) (k := 4) (by decide) (by decide) ?_ (fun S1 hA _ => ?_)
      · rw [f_X3_asks, L900, L1200, h3]
        simp only [b1, inb_n hl (show l < 2 ^ 31 by omega), if_true, nI_clamp (show l < 2 ^ 31 by omega), hX1, if_pos c1]
        rw [if_neg (by decide)]
      · rw [f_X4_asks, L900, L1200, h4, hlaw _ (hR33 S1 hA), b1_some, if_neg (by decide), b1_some, if_pos c1, f_X4_asks_J27, q_askno _ _ _ _ _ (by decide)]
    · by_cases c2 : 0 ≤ d
      · by_cases c3 : nI 900 < c
        · refine ref_end hI (w := -6) (k := 6) (by decide) (by decide) ?_ (fun S1 hA _ => ?_)
          · rw [f_X3_asks, L900, L1200, h3]
            simp only [b1, inb_n hl (show l < 2 ^ 31 by omega), if_true, nI_clamp (show l < 2 ^ 31 by omega), hX1, if_neg c1, if_pos c2, if_pos c3]
            rw [if_neg (by decide)]
          · rw [f_X4_asks, L900, L1200, h4, hlaw _ (hR33 S1 hA), b1_some, if_neg (by decide), b1_some, if_neg c1, if_pos c2, if_pos c3, f_X4_asks_J46, q_askno _ _ _ _ _ (by decide)]
        · by_cases c4 : d ≤ nI 1200
          · obtain ⟨m, hm, rfl⟩ := nI_of2 (M := nI 900) (n := 900) (nI_toInt (by decide)) (ge_nneg (by omega) (Int32.not_lt.mp c1)) (Int32.not_lt.mp c3)
            obtain ⟨t, ht, rfl⟩ := nI_of2 (M := nI 1200) (n := 1200) (nI_toInt (by decide)) (Int32.not_lt.mpr c2) c4
            obtain ⟨b9, S1, S2, i9, e1, i2, g1, h1, e2, i3, g2, h2, hI2⟩ := both_ow hI
            have hag9 : bL b9 l 1 = bL b l 1 := by
              have q1 := i9.2.2.1.2.2.1 l 1 hl (by omega)
              have q2 : bL b9 l 1 ≤ 9999 := law_le i9.1 hl (by omega)
              rw [hX1] at q1
              exact ((nI_eq (by omega) (by omega)).mp q1).symm
            refine ⟨pd b9 l ((ow b9).1 l) m t, S1, S2, ?_, ?_, hI2⟩
            · rw [f_X3_asks, L900, L1200, h3, e1]
              simp only [b1, b2, inb_n hl (show l < 2 ^ 31 by omega), if_true, nI_clamp (show l < 2 ^ 31 by omega), hX1, if_neg c1, if_pos c2, if_neg c3, if_pos c4, p_paid i2.2.2.1 hl (show m ≤ 2000 by omega) (show t ≤ 2000 by omega), g1 l hl]
              rw [if_neg (by decide)]
            · have hR1 := RE_of i2
              have hl9 : f_X4_lawOf (nI l) 1 S1 = some (nI (bL b l 1)) := by rw [← hag9, L1]; exact q_law hR1 hl (by omega)
              rw [f_X4_asks, L900, L1200, h4, hl9, b1_some, if_neg (by decide), b1_some, if_neg c1, if_pos c2, if_neg c3, if_pos c4, f_X4_asks_J52, if_pos rfl, e2, b1_some, q_paid (RE_of i3) hl (show m ≤ 2000 by omega) (show t ≤ 2000 by omega), g2 l hl, b1_some]
          · refine ref_end hI (w := -6) (k := 6) (by decide) (by decide) ?_ (fun S1 hA _ => ?_)
            · rw [f_X3_asks, L900, L1200, h3]
              simp only [b1, inb_n hl (show l < 2 ^ 31 by omega), if_true, nI_clamp (show l < 2 ^ 31 by omega), hX1, if_neg c1, if_pos c2, if_neg c3, if_neg c4]
              rw [if_neg (by decide)]
            · rw [f_X4_asks, L900, L1200, h4, hlaw _ (hR33 S1 hA), b1_some, if_neg (by decide), b1_some, if_neg c1, if_pos c2, if_neg c3, if_neg c4, f_X4_asks_J46, q_askno _ _ _ _ _ (by decide)]
      · refine ref_end hI (w := -4) (k := 4) (by decide) (by decide) ?_ (fun S1 hA _ => ?_)
        · rw [f_X3_asks, L900, L1200, h3]
          simp only [b1, inb_n hl (show l < 2 ^ 31 by omega), if_true, nI_clamp (show l < 2 ^ 31 by omega), hX1, if_neg c1, if_neg c2]
          rw [if_neg (by decide)]
        · rw [f_X4_asks, L900, L1200, h4, hlaw _ (hR33 S1 hA), b1_some, if_neg (by decide), b1_some, if_neg c1, if_neg c2, f_X4_asks_J27, q_askno _ _ _ _ _ (by decide)]
def wn (P : Nat → Int32) (age : Nat) : Nat → Nat → Int32 → Int32 → Int32
  | 0, _, best, _ => best
  | k + 1, y, best, most => if age + 12 * y ≤ 900 then (if most < P (age + 12 * y) then wn P age k (y + 1) (nI (age + 12 * y)) (P (age + 12 * y)) else wn P age k (y + 1) best most) else best
theorem p_when_out {S : vS} {b : Bk} (hX : RXb S b) (hb : bOk b) {l t : Nat} (hl : l < 6) : ∀ (k y : Nat), y + k = 11 → 900 < bL b l 1 + 12 * y → ∀ n best most, k < n → 0 ≤ most → f_X3_when_L52 S n (nI l) (nI t) best most (nI y) = some best := by
  have hag : bL b l 1 ≤ 900 := hb.2.1 l 1 hl (by omega)
  intro k
  induction k with
  | zero =>
    intro y hy ha n best most hk hm
    obtain ⟨n, rfl⟩ : ∃ q, n = q + 1 := ⟨n - 1, by omega⟩
    rw [f_X3_when_L52, L10, if_pos ((nI_ltI (by omega) (by omega)).mpr (by omega))]
  | succ k ih =>
    intro y hy ha n best most hk hm
    obtain ⟨n, rfl⟩ : ∃ q, n = q + 1 := ⟨n - 1, by omega⟩
    rw [f_X3_when_L52, L10, if_neg (fun q => absurd ((nI_ltI (by omega) (by omega)).mp q) (by omega)), if_pos (inb_n hl (by omega))]
    simp only [lt, nI_clamp (show l < 2 ^ 31 by omega), hX.2.2.1 l 1 hl (by omega), L12, pk_mul, nI_add, L900, nI_leI (show bL b l 1 + y * 12 < 2 ^ 31 by omega) (show 900 < 2 ^ 31 by omega)]
    rw [if_neg (by omega), if_pos hm, nI_1]
    exact ih (y + 1) (by omega) (by omega) n best most (by omega) hm
theorem p_when {S : vS} {b : Bk} (hX : RXb S b) (hb : bOk b) {l t : Nat} (hl : l < 6) (ht : t ≤ 1200) : ∀ (k y : Nat), y + k = 11 → ∀ n best most, k < n → 0 ≤ most → f_X3_when_L52 S n (nI l) (nI t) best most (nI y) = some (wn (fun m => pd b l (S 31 l) m t) (bL b l 1) k y best most) := by
  have hag : bL b l 1 ≤ 900 := hb.2.1 l 1 hl (by omega)
  intro k
  induction k with
  | zero =>
    intro y hy n best most hk hm
    obtain ⟨n, rfl⟩ : ∃ q, n = q + 1 := ⟨n - 1, by omega⟩
    rw [f_X3_when_L52, L10, if_pos ((nI_ltI (by omega) (by omega)).mpr (by omega))]
    rfl
  | succ k ih =>
    intro y hy n best most hk hm
    by_cases h9 : bL b l 1 + 12 * y ≤ 900
    · obtain ⟨n, rfl⟩ : ∃ q, n = q + 1 := ⟨n - 1, by omega⟩
      rw [f_X3_when_L52, L10, if_neg (fun q => absurd ((nI_ltI (by omega) (by omega)).mp q) (by omega)), if_pos (inb_n hl (by omega)), wn, if_pos h9]
      have e12 : bL b l 1 + y * 12 = bL b l 1 + 12 * y := by omega
      simp only [lt, nI_clamp (show l < 2 ^ 31 by omega), hX.2.2.1 l 1 hl (by omega), L12, pk_mul, nI_add, L900, e12, nI_leI (show bL b l 1 + 12 * y < 2 ^ 31 by omega) (show 900 < 2 ^ 31 by omega), if_pos h9, p_paid hX hl (show bL b l 1 + 12 * y ≤ 2000 by omega) (show t ≤ 2000 by omega), b1, nI_1]
      by_cases h : most < pd b l (S 31 l) (bL b l 1 + 12 * y) t
      · rw [if_pos h, if_neg (fun q => absurd (Int32.lt_of_lt_of_le h q) (Int32.lt_irrefl))]
        exact ih (y + 1) (by omega) n _ _ (by omega) (Int32.le_of_lt (Int32.lt_of_le_of_lt hm h))
      · rw [if_neg h, if_pos (Int32.not_lt.mp h)]
        exact ih (y + 1) (by omega) n _ _ (by omega) hm
    · rw [p_when_out hX hb hl (k + 1) y hy (by omega) n best most hk hm, wn, if_neg h9]
theorem q_when {S : vS} {b : Bk} (hR : RE S b) (hb : bOk b) {l t : Nat} (hl : l < 6) (ht : t ≤ 1200) : ∀ (k y : Nat), y + k = 11 → ∀ n best most, k < n → f_X4_when_L59 S n (nI l) (nI t) best most (nI (bL b l 1)) (nI (bL b l 1 + 12 * y)) = some (wn (fun m => pd b l (S 19 l) m t) (bL b l 1) k y best most) := by
  have hag : bL b l 1 ≤ 900 := hb.2.1 l 1 hl (by omega)
  intro k
  induction k with
  | zero =>
    intro y hy n best most hk
    obtain ⟨n, rfl⟩ : ∃ q, n = q + 1 := ⟨n - 1, by omega⟩
    rw [f_X4_when_L59, L120, nI_add, if_pos ((nI_ltI (by omega) (by omega)).mpr (by omega))]
    rfl
  | succ k ih =>
    intro y hy n best most hk
    obtain ⟨n, rfl⟩ : ∃ q, n = q + 1 := ⟨n - 1, by omega⟩
    rw [f_X4_when_L59, L120, nI_add, if_neg (fun q => absurd ((nI_ltI (by omega) (by omega)).mp q) (by omega)), wn]
    have e12 : bL b l 1 + 12 * y + 12 = bL b l 1 + 12 * (y + 1) := by omega
    by_cases h9 : bL b l 1 + 12 * y ≤ 900
    · rw [if_pos h9, L900, if_neg (fun q => absurd ((nI_ltI (by omega) (by omega)).mp q) (by omega)), q_paid hR hl (by omega) (by omega)]
      simp only [b1, L12, nI_add, e12]
      by_cases h : most < pd b l (S 19 l) (bL b l 1 + 12 * y) t
      · rw [if_pos h, if_pos h]; exact ih (y + 1) (by omega) n _ _ (by omega)
      · rw [if_neg h, if_neg h]; exact ih (y + 1) (by omega) n _ _ (by omega)
    · rw [if_neg h9, L900, if_pos ((nI_ltI (by omega) (by omega)).mpr (by omega))]
theorem t_when {S : vS} (hI : IV S) (a c : Int32) : Alike (f_X3_when a c) (f_X4_when a c) S := by
  rcases land_cases a with ⟨h3, h4⟩ | ⟨l, hl, rfl, h3, h4⟩
  · exact ref_end hI (w := -1) (k := 1) (by decide) (by decide) (by rw [f_X3_when, h3]; rfl) (fun S1 _ _ => by rw [f_X4_when, h4]; rfl)
  · by_cases c2 : 0 ≤ c
    · have c2' := Int32.not_lt.mpr c2
      by_cases c4 : c ≤ nI 1200
      · obtain ⟨t, ht, rfl⟩ := nI_of2 (M := nI 1200) (n := 1200) (nI_toInt (by decide)) c2' c4
        obtain ⟨b, S1, S2, i9, e1, i2, g1, h1, e2, i3, g2, h2, hI2⟩ := both_ow hI
        refine ⟨wn (fun m => pd b l ((ow b).1 l) m t) (bL b l 1) 11 0 (-9) 0, S1, S2, ?_, ?_, hI2⟩
        · rw [f_X3_when, L1200, h3, e1]
          simp only [b1, b2, if_pos c2, if_pos c4]
          rw [if_neg (by decide)]
          have h := p_when i2.2.2.1 i2.1 hl ht 11 0 (by omega) FU (-9) 0 (by unfold FU; omega) (Int32.le_refl 0)
          rw [← L0] at h
          rw [h, g1 l hl]
        · have h := q_when (RE_of i3) i3.1 hl ht 11 0 (by omega) FU (-9) 0 (by unfold FU; omega)
          rw [show bL b l 1 + 12 * 0 = bL b l 1 by omega, g2 l hl] at h
          rw [f_X4_when, L1200, h4, q_out_in c2' c4, e2]
          simp only [b1]
          rw [if_neg (by decide), if_pos trivial, L1, q_law (RE_of i3) hl (by omega)]
          simp only [h]
      · have c5 : nI 1200 < c := Int32.not_le.mp c4
        refine ref_end hI (w := -6) (k := 6) (by decide) (by decide) ?_ (fun S1 _ _ => ?_)
        · rw [f_X3_when, L1200, h3]; simp only [b1, if_pos c2, if_neg c4]; rw [if_neg (by decide)]
        · rw [f_X4_when, L1200, h4, q_out_hi c2' c5]; simp only [b1]; rw [if_neg (by decide), if_neg (by decide)]
    · refine ref_end hI (w := -4) (k := 4) (by decide) (by decide) ?_ (fun S1 _ _ => ?_)
      · rw [f_X3_when, L1200, h3]; simp only [b1, if_neg c2]; rw [if_neg (by decide)]
      · rw [f_X4_when, L1200, h4, q_out_lo _ (Int32.not_le.mp c2)]; simp only [b1]; rw [if_neg (by decide), if_neg (by decide)]
/-- living -/
def lf (b : Bk) (o : Nat → Int32) (l i : Nat) : Int32 := if i = l then o i else o i - (o i * nI (bL b i 6)) / 100
def lvs (b : Bk) (o : Nat → Int32) (l : Nat) : Nat → Int32
  | 0 => 0
  | i + 1 => lvs b o l i + lf b o l i
theorem p_living {S : vS} {b : Bk} (hX : RXb S b) {o : Nat → Int32} (h31 : ∀ j, j < 6 → S 31 j = o j) {l : Nat} (hl : l < 6) : f_X3_paidLivingIn (nI l) S = some (lvs b o l 6) := by
  have key : ∀ (k i : Nat), i + k = 6 → ∀ n, k < n → f_X3_paidLivingIn_L4 S n (nI l) (lvs b o l i) (nI i) = some (lvs b o l 6) := by
    intro k
    induction k with
    | zero =>
      intro i hi n hk
      obtain ⟨n, rfl⟩ : ∃ q, n = q + 1 := ⟨n - 1, by omega⟩
      have : i = 6 := by omega
      subst this
      rw [f_X3_paidLivingIn_L4, L6, if_pos ((nI_leI (by omega) (by omega)).mpr (by omega))]
    | succ k ih =>
      intro i hi n hk
      obtain ⟨n, rfl⟩ : ∃ q, n = q + 1 := ⟨n - 1, by omega⟩
      have hr := ih (i + 1) (by omega) n (by omega)
      rw [lvs, lf] at hr
      rw [f_X3_paidLivingIn_L4, L6, if_neg (fun q => absurd ((nI_leI (by omega) (by omega)).mp q) (by omega))]
      simp only [lt, inb_n (show i < 6 by omega) (show i < 2 ^ 31 by omega), if_true, nI_clamp (show i < 2 ^ 31 by omega), h31 i (by omega), hX.2.2.1 i 6 (by omega) (by omega), nI_eq (show i < 2 ^ 31 by omega) (show l < 2 ^ 31 by omega), nI_1, Int32.sub_zero]
      by_cases h : i = l
      · rw [if_pos h]; rw [if_pos h] at hr; exact hr
      · rw [if_neg h]; rw [if_neg h] at hr; exact hr
  have h := key 6 0 (by omega) FU (by unfold FU; omega)
  rw [lvs] at h
  rw [f_X3_paidLivingIn]
  rw [← L0] at h
  rw [h]
  rfl
theorem q_living {S : vS} {b : Bk} (hR : RE S b) {o : Nat → Int32} (h19 : ∀ j, j < 6 → S 19 j = o j) {l : Nat} (hl : l < 6) : f_X4_livingIn (nI l) S = some (lvs b o l 6) := by
  have key : ∀ (k i : Nat), i + k = 6 → ∀ n, k < n → f_X4_livingIn_L9 S n (nI l) (lvs b o l i + (if l < i then 0 else o l)) (nI i) = some (lvs b o l 6) := by
    intro k
    induction k with
    | zero =>
      intro i hi n hk
      obtain ⟨n, rfl⟩ : ∃ q, n = q + 1 := ⟨n - 1, by omega⟩
      have : i = 6 := by omega
      subst this
      rw [f_X4_livingIn_L9, L6, if_pos ((nI_leI (by omega) (by omega)).mpr (by omega)), if_pos hl, Int32.add_zero]
    | succ k ih =>
      intro i hi n hk
      obtain ⟨n, rfl⟩ : ∃ q, n = q + 1 := ⟨n - 1, by omega⟩
      have hr := ih (i + 1) (by omega) n (by omega)
      rw [lvs, lf] at hr
      rw [f_X4_livingIn_L9, L6, if_neg (fun q => absurd ((nI_leI (by omega) (by omega)).mp q) (by omega)), q_law hR (show i < 6 by omega) (show 6 < 9 by omega)]
      simp only [lt, b1, inb_n (show i < 6 by omega) (show i < 2 ^ 31 by omega), if_true, nI_clamp (show i < 2 ^ 31 by omega), h19 i (by omega), nI_eq (show i < 2 ^ 31 by omega) (show l < 2 ^ 31 by omega), nI_1]
      by_cases h : i = l
      · subst h
        rw [if_pos rfl, if_pos (show i < i + 1 by omega)] at hr
        rw [if_pos rfl, if_neg (show ¬ i < i by omega), ← hr]
      · rw [if_neg h]
        rw [if_neg h] at hr
        rw [← hr]
        congr 1
        by_cases h2 : l < i
        · rw [if_pos h2, if_pos (show l < i + 1 by omega)]; grind
        · rw [if_neg h2, if_neg (show ¬ l < i + 1 by omega)]; grind
  have h := key 6 0 (by omega) FU (by unfold FU; omega)
  rw [lvs, if_neg (by omega), Int32.zero_add] at h
  rw [f_X4_livingIn, if_pos (inb_n hl (by omega))]
  simp only [lt, nI_clamp (show l < 2 ^ 31 by omega), h19 l hl]
  rw [← L0] at h
  rw [h]
  rfl
theorem t_lives {S : vS} (hI : IV S) (a : Int32) : Alike (f_X3_lives a) (f_X4_lives a) S := by
  rcases land_cases a with ⟨h3, h4⟩ | ⟨l, hl, rfl, h3, h4⟩
  · exact ref_end hI (w := -1) (k := 1) (by decide) (by decide) (by rw [f_X3_lives, h3]; rfl) (fun S1 _ _ => by rw [f_X4_lives, h4]; rfl)
  · obtain ⟨b, S1, S2, i1, e1, i2, g1, h1, e2, i3, g2, h2, hI2⟩ := both_ow hI
    refine ⟨lvs b (ow b).1 l 6, S1, S2, ?_, ?_, hI2⟩
    · rw [f_X3_lives, h3, e1]
      simp only [b1, b2, p_living i2.2.2.1 g1 hl]
      rw [if_neg (by decide)]
    · rw [f_X4_lives, h4, e2]
      simp only [b1, q_living (RE_of i3) g2 hl]
      rw [if_neg (by decide)]
theorem t_where {S : vS} (hI : IV S) : Alike f_X3_where f_X4_where S := by
  obtain ⟨b, S1, S2, i1, e1, i2, g1, h1, e2, i3, g2, h2, hI2⟩ := both_ow hI
  have key : ∀ (k i : Nat), i + k = 6 → ∀ n (x : Nat), k < n → x < 6 → ∃ v, f_X3_where_L9 S1 n (nI x) (nI i) = some v ∧ f_X4_where_L12 S2 n (nI x) (nI i) = some v := by
    intro k
    induction k with
    | zero =>
      intro i hi n x hk hx
      obtain ⟨n, rfl⟩ : ∃ q, n = q + 1 := ⟨n - 1, by omega⟩
      refine ⟨nI x, ?_, ?_⟩
      · rw [f_X3_where_L9, L6, if_pos ((nI_leI (by omega) (by omega)).mpr (by omega))]
      · rw [f_X4_where_L12, L6, if_pos ((nI_leI (by omega) (by omega)).mpr (by omega))]
    | succ k ih =>
      intro i hi n x hk hx
      obtain ⟨n, rfl⟩ : ∃ q, n = q + 1 := ⟨n - 1, by omega⟩
      rw [f_X3_where_L9, L6, if_neg (fun q => absurd ((nI_leI (by omega) (by omega)).mp q) (by omega)), f_X4_where_L12, L6, if_neg (fun q => absurd ((nI_leI (by omega) (by omega)).mp q) (by omega)), p_living i2.2.2.1 g1 (show i < 6 by omega), p_living i2.2.2.1 g1 hx, q_living (RE_of i3) g2 (show i < 6 by omega), q_living (RE_of i3) g2 hx]
      simp only [b1, nI_1]
      split
      · exact ih (i + 1) (by omega) n x (by omega) hx
      · exact ih (i + 1) (by omega) n i (by omega) (by omega)
  obtain ⟨v, k1, k2⟩ := key 5 1 (by omega) FU 0 (by unfold FU; omega) (by omega)
  refine ⟨v, S1, S2, ?_, ?_, hI2⟩
  · rw [f_X3_where, e1]
    simp only [b2]
    rw [L0, L1, k1]
    rfl
  · rw [f_X4_where, e2]
    simp only [b1]
    rw [L0, L1, k2]
