/-! pure tools -/
theorem L0 : (0 : Int32) = nI 0 := rfl
theorem L1 : (1 : Int32) = nI 1 := rfl
theorem L2 : (2 : Int32) = nI 2 := rfl
theorem L3 : (3 : Int32) = nI 3 := rfl
theorem L4 : (4 : Int32) = nI 4 := rfl
theorem L5 : (5 : Int32) = nI 5 := rfl
theorem L6 : (6 : Int32) = nI 6 := rfl
theorem L7 : (7 : Int32) = nI 7 := rfl
theorem L8 : (8 : Int32) = nI 8 := rfl
theorem L9 : (9 : Int32) = nI 9 := rfl
theorem L10 : (10 : Int32) = nI 10 := rfl
theorem L12 : (12 : Int32) = nI 12 := rfl
theorem L16 : (16 : Int32) = nI 16 := rfl
theorem L20 : (20 : Int32) = nI 20 := rfl
theorem L36 : (36 : Int32) = nI 36 := rfl
theorem L100 : (100 : Int32) = nI 100 := rfl
theorem L120 : (120 : Int32) = nI 120 := rfl
theorem L899 : (899 : Int32) = nI 899 := rfl
theorem L900 : (900 : Int32) = nI 900 := rfl
theorem L999 : (999 : Int32) = nI 999 := rfl
theorem L1200 : (1200 : Int32) = nI 1200 := rfl
theorem L5400 : (5400 : Int32) = nI 5400 := rfl
theorem L9999 : (9999 : Int32) = nI 9999 := rfl
theorem inb_n {k n : Nat} (h : k < n) (hk : k < 2 ^ 31) : inb (nI k) n = true := by
  have h1 : ¬ nI k < 0 := nI_pos hk
  simp [inb, h1, nI_clamp hk, h]
theorem nI_lt1 (a : Nat) : nI a + nI 1 = nI (a + 1) := nI_add a 1
theorem upk_k (S : vS) (k j : Nat) (g : Nat → Int32) : upk S k g j = if j = k then g else S j := rfl
theorem upk_upk (S : vS) (k : Nat) (g h : Nat → Int32) : upk (upk S k g) k h = upk S k h := by
  funext j
  simp only [upk_k]
  by_cases e : j = k <;> simp [e]
theorem upk_self (S : vS) (k : Nat) : upk S k (S k) = S := by
  funext j
  simp only [upk_k]
  by_cases e : j = k <;> simp [e]
theorem upd_k (f : Nat → Int32) (k j : Nat) (x : Int32) : upd f k x j = if j = k then x else f j := rfl
/-- fill -/
theorem p_fill_loop (a : Nat) (ha : 1 ≤ a ∧ a ≤ 97) (v : Int32) (hl : alen a < 2 ^ 31) : ∀ (k i : Nat), i + k = alen a → ∀ (n : Nat) (S : vS), k < n → f_J7_fill_53178_L5 n a v (nI i) (nI (alen a)) S = some (upk S a (fun j => if i ≤ j ∧ j < alen a then v else S a j)) := by
  intro k
  induction k with
  | zero =>
    intro i hi n S hn
    obtain ⟨n, rfl⟩ : ∃ m, n = m + 1 := ⟨n - 1, by omega⟩
    rw [f_J7_fill_53178_L5, if_pos ((nI_leI hl (by omega)).mpr (by omega))]
    have e : (fun j => if i ≤ j ∧ j < alen a then v else S a j) = S a := by
      funext j
      rw [if_neg (by omega)]
    rw [e, upk_self]
  | succ k ih =>
    intro i hi n S hn
    obtain ⟨n, rfl⟩ : ∃ m, n = m + 1 := ⟨n - 1, by omega⟩
    rw [f_J7_fill_53178_L5, if_neg (fun q => absurd ((nI_leI hl (by omega)).mp q) (by omega)), if_pos ha, if_pos (inb_n (by omega) (by omega))]
    simp only [lt, nI_clamp (show i < 2 ^ 31 by omega), nI_1]
    rw [ih (i + 1) (by omega) n _ (by omega), upk_upk]
    congr 2
    funext j
    rw [upk_eq]
    simp only [upd_k]
    by_cases e : j = i
    · subst e
      rw [if_neg (by omega), if_pos rfl, if_pos (by omega)]
    · rw [if_neg e]
      by_cases e2 : i + 1 ≤ j ∧ j < alen a
      · rw [if_pos e2, if_pos (by omega)]
      · rw [if_neg e2, if_neg (by omega)]
theorem p_fill (a : Nat) (ha : 1 ≤ a ∧ a ≤ 97) (v : Int32) (hl : alen a < 5900) (S : vS) : f_J7_fill_53178 a v S = some (upk S a (fun j => if j < alen a then v else S a j)) := by
  rw [f_J7_fill_53178, if_pos ha, L0, p_fill_loop a ha v (by omega) (alen a) 0 (by omega) FU S (by unfold FU; omega)]
  simp only [b1, Nat.zero_le, true_and]
theorem p_fill2_loop (a : Nat) (ha : 1 ≤ a ∧ a ≤ 97) (v : Int32) (t : Nat) (ht : t ≤ alen a) (hl : alen a < 2 ^ 31) : ∀ (k i : Nat), i + k = t → ∀ (n : Nat) (S : vS), k < n → f_J7_fill_fda19_L10 n a (nI t) v (nI i) S = some (upk S a (fun j => if i ≤ j ∧ j < t then v else S a j)) := by
  intro k
  induction k with
  | zero =>
    intro i hi n S hn
    obtain ⟨n, rfl⟩ : ∃ m, n = m + 1 := ⟨n - 1, by omega⟩
    rw [f_J7_fill_fda19_L10, if_pos ((nI_leI (by omega) (by omega)).mpr (by omega))]
    have e : (fun j => if i ≤ j ∧ j < t then v else S a j) = S a := by
      funext j
      rw [if_neg (by omega)]
    rw [e, upk_self]
  | succ k ih =>
    intro i hi n S hn
    obtain ⟨n, rfl⟩ : ∃ m, n = m + 1 := ⟨n - 1, by omega⟩
    rw [f_J7_fill_fda19_L10, if_neg (fun q => absurd ((nI_leI (by omega) (by omega)).mp q) (by omega)), if_pos ha, if_pos (inb_n (by omega) (by omega))]
    simp only [lt, nI_clamp (show i < 2 ^ 31 by omega), nI_1]
    rw [ih (i + 1) (by omega) n _ (by omega), upk_upk]
    congr 2
    funext j
    rw [upk_eq]
    simp only [upd_k]
    by_cases e : j = i
    · subst e
      rw [if_neg (by omega), if_pos rfl, if_pos (by omega)]
    · rw [if_neg e]
      by_cases e2 : i + 1 ≤ j ∧ j < t
      · rw [if_pos e2, if_pos (by omega)]
      · rw [if_neg e2, if_neg (by omega)]
theorem p_fill2 (a : Nat) (ha : 1 ≤ a ∧ a ≤ 97) (v : Int32) (i t : Nat) (hi : i ≤ t) (ht : t ≤ alen a) (hl : alen a < 5900) (S : vS) : f_J7_fill_fda19 a (nI i) (nI t) v S = some (upk S a (fun j => if i ≤ j ∧ j < t then v else S a j)) := by
  rw [f_J7_fill_fda19, if_pos ha, f_J7_rangeCheck_23922, if_pos ((nI_leI (by omega) (by omega)).mpr hi), if_pos (by rw [L0]; exact (nI_leI (by omega) (by omega)).mpr (by omega)), if_pos ((nI_leI (by omega) (by omega)).mpr ht)]
  simp only [b1]
  rw [p_fill2_loop a ha v t ht (by omega) (t - i) i (by omega) FU S (by unfold FU; omega)]
/-- a book: how many spells, their columns, laws, kinds, pacts -/
abbrev Bk : Type := Nat × (Nat → Nat → Nat) × (Nat → Nat → Nat) × (Nat → Nat) × (Nat → Nat → Nat)
def bN (b : Bk) : Nat := b.1
def bC (b : Bk) : Nat → Nat → Nat := b.2.1
def bL (b : Bk) : Nat → Nat → Nat := b.2.2.1
def bK (b : Bk) : Nat → Nat := b.2.2.2.1
def bP (b : Bk) : Nat → Nat → Nat := b.2.2.2.2
def mostN (j : Nat) : Nat := ([900, 900, 99, 9999, 9999, 100, 100, 50, 15] : List Nat).getD j 0
def sOk (b : Bk) (s : Nat) : Prop := bC b 0 s < 6 ∧ bC b 1 s < 4 ∧ bC b 2 s < bC b 3 s ∧ bC b 3 s ≤ 900 ∧ bC b 4 s ≤ 999 ∧ bC b 5 s ≤ 1 ∧ bC b 6 s ≤ 1
def bOk (b : Bk) : Prop := (∀ s, s < bN b → sOk b s) ∧ (∀ l j, l < 6 → j < 9 → bL b l j ≤ mostN j) ∧ (∀ l, l < 6 → bK b l < 6) ∧ ∀ x y, x < 6 → y < 6 → bP b x y ≤ 1 ∧ bP b x y = bP b y x ∧ bP b x x = 0
/-- a book in the class's rows; in the reference's rows -/
def RX (r0 l0 p0 k0 j0 : Nat) (S : vS) (b : Bk) : Prop := S 0 j0 = nI (bN b) ∧ (∀ s c, s < bN b → c < 7 → S (r0 + s) c = nI (bC b c s)) ∧ (∀ l j, l < 6 → j < 9 → S (l0 + l) j = nI (bL b l j)) ∧ (∀ l, l < 6 → S k0 l = nI (bK b l)) ∧ ∀ x y, x < 6 → y < 6 → S (p0 + x) y = nI (bP b x y)
abbrev RXb (S : vS) (b : Bk) : Prop := RX 34 54 60 23 12 S b
abbrev RXk (S : vS) (b : Bk) : Prop := RX 66 86 92 24 13 S b
def RM (S : vS) (b : Bk) : Prop := (∀ s c, s < bN b → c < 7 → S (3 + c) s = nI (bC b c s)) ∧ (∀ l j, l < 6 → j < 9 → S 10 (9 * l + j) = nI (bL b l j)) ∧ (∀ l, l < 6 → S 11 l = nI (bK b l)) ∧ ∀ x y, x < 6 → y < 6 → S 12 (6 * x + y) = nI (bP b x y)
def wk (b : Bk) (l w : Nat) : Nat := bL b l 8 / 2 ^ w % 2
theorem wk_i : ∀ v, v < 16 → ∀ w, w < 4 → ((nI v >>> (nI w &&& 31)) &&& (1 : Int32)) = nI (v / 2 ^ w % 2) := by decide +kernel
def held (b : Bk) (m s : Nat) : Bool := decide (bC b 6 s = 1 ∧ bC b 2 s ≤ m ∧ m < bC b 3 s)
def cnd (b : Bk) (l m s : Nat) : Bool := decide (bC b 0 s = l ∧ bC b 5 s = 1 ∧ wk b l (bC b 1 s) = 1) && held b m s
/-- 0: the month doesn't count; else its pay and one -/
def pvN (b : Bk) (l m : Nat) : Nat → Nat
  | 0 => 0
  | i + 1 => if cnd b l m i = true then max (pvN b l m i) (bC b 4 i + 1) else pvN b l m i
def pv (b : Bk) (l m : Nat) : Nat := pvN b l m (bN b)
def hdN (b : Bk) (m : Nat) : Nat → Nat
  | 0 => 0
  | i + 1 => hdN b m i + (if held b m i = true then 1 else 0)
def nxN (b : Bk) (m : Nat) : Nat → Nat
  | 0 => 900
  | i + 1 => (fun a => if m < bC b 3 i then min a (bC b 3 i) else a) (if m < bC b 2 i then min (nxN b m i) (bC b 2 i) else nxN b m i)
def bhN (b : Bk) : Nat → Nat
  | 0 => 0
  | i + 1 => max (bhN b i) (bC b 3 i)
def shN (b : Bk) : Nat → Nat
  | 0 => 0
  | i + 1 => shN b i + bC b 6 i
theorem pvN_le (b : Bk) (hb : bOk b) (l m : Nat) : ∀ i, i ≤ bN b → pvN b l m i ≤ 1000 := by
  intro i
  induction i with
  | zero => intro _; simp [pvN]
  | succ i ih =>
    intro h
    have h1 := ih (by omega)
    have h2 := (hb.1 i (by omega)).2.2.2.2.1
    rw [pvN]
    split <;> omega
theorem bhN_le (b : Bk) (hb : bOk b) : ∀ i, i ≤ bN b → bhN b i ≤ 900 := by
  intro i
  induction i with
  | zero => intro _; simp [bhN]
  | succ i ih =>
    intro h
    have h1 := ih (by omega)
    have h2 := (hb.1 i (by omega)).2.2.2.1
    rw [bhN]
    omega
theorem nxN_le (b : Bk) (m : Nat) : ∀ i, nxN b m i ≤ 900 := by
  intro i
  induction i with
  | zero => simp [nxN]
  | succ i ih =>
    rw [nxN]
    dsimp only
    split <;> split <;> omega
theorem nI_max (a b : Nat) (ha : a < 2 ^ 31) (hb : b < 2 ^ 31) : mx (nI a) (nI b) = nI (max a b) := by
  unfold mx
  by_cases h : a < b
  · rw [if_pos ((nI_ltI ha hb).mpr h), Nat.max_eq_right (by omega)]
  · rw [if_neg (fun q => h ((nI_ltI ha hb).mp q)), Nat.max_eq_left (by omega)]
theorem nI_min (a b : Nat) (ha : a < 2 ^ 31) (hb : b < 2 ^ 31) : mn (nI a) (nI b) = nI (min a b) := by
  unfold mn
  by_cases h : b < a
  · rw [if_pos ((nI_ltI hb ha).mpr h), Nat.min_eq_right (by omega)]
  · rw [if_neg (fun q => h ((nI_ltI hb ha).mp q)), Nat.min_eq_left (by omega)]
def pC (v : Nat) : Int32 := if v = 0 then -9 else nI (v - 1)
theorem m9_lt (n : Nat) (h : n < 2 ^ 31) : (-9 : Int32) < nI n := by
  rw [Int32.lt_iff_toInt_lt, nI_toInt h]
  have : (-9 : Int32).toInt = -9 := by decide
  rw [this]; omega
theorem pC_max (v y : Nat) (hv : v ≤ 2000) (hy : y ≤ 1000) : mx (pC v) (nI y) = pC (max v (y + 1)) := by
  unfold pC
  by_cases h : v = 0
  · subst h
    rw [if_pos rfl, if_neg (by omega)]
    unfold mx
    rw [if_pos (m9_lt y (by omega))]
    have e : max 0 (y + 1) - 1 = y := by omega
    rw [e]
  · rw [if_neg h, if_neg (by omega), nI_max _ _ (by omega) (by omega)]
    congr 1
    omega
