/-! what a land owes -/
theorem gr_mx (a b : Int32) : (if a ≤ b then b else a) = mx a b := by
  unfold mx
  by_cases h : a < b
  · rw [if_pos h, if_pos (Int32.le_of_lt h)]
  · rw [if_neg h]
    by_cases h2 : a ≤ b
    · rw [if_pos h2]; exact Int32.le_antisymm (Int32.not_lt.mp h) h2
    · rw [if_neg h2]
theorem le_mn (a b : Int32) : (if b ≤ a then b else a) = mn a b := by
  unfold mn
  by_cases h : b < a
  · rw [if_pos h, if_pos (Int32.le_of_lt h)]
  · rw [if_neg h]
    by_cases h2 : b ≤ a
    · rw [if_pos h2]; exact Int32.le_antisymm h2 (Int32.not_lt.mp h)
    · rw [if_neg h2]
theorem gr_z (a : Int32) : (if a ≤ 0 then 0 else a) = mx 0 a := by
  unfold mx
  by_cases h : 0 < a
  · rw [if_pos h, if_neg (fun q => absurd (Int32.lt_of_lt_of_le h q) (Int32.lt_irrefl))]
  · rw [if_neg h, if_pos (Int32.not_lt.mp h)]
def rt (b : Bk) (l c : Nat) : Prop := 1 ≤ c ∧ bL b l 0 ≤ c
def br (b : Bk) (l p : Nat) : Int32 := mn ((nI (bL b l 2) * nI p) / 100) (nI (bL b l 4))
def rtB (b : Bk) (l c : Nat) : Bool := decide (1 ≤ c ∧ bL b l 0 ≤ c)
def ownI (b : Bk) (l c p : Nat) : Int32 := if rtB b l c = true then br b l p else 0
def leaI (b : Bk) (l c p : Nat) : Int32 := if rtB b l c = true then mx (br b l p) (nI (bL b l 3)) else 0
def putI (b : Bk) (l c c2 p2 : Nat) : Int32 := if rtB b l c2 = true then (mx (br b l p2) (nI (bL b l 3)) * nI c) / nI c2 else 0
def whI (b : Bk) (l k c p c2 p2 : Nat) : Int32 := if k = 0 then ownI b l c p else if k = 1 then leaI b l c p else if k = 2 then putI b l c c2 p2 else if k = 3 then mx (putI b l c c2 p2) (leaI b l c p) else if k = 4 then leaI b l c p else mx (putI b l c c2 p2) (leaI b l c p)
def svI (b : Bk) (l k : Nat) (others W : Int32) : Int32 := if k = 4 ∨ k = 5 then mx 0 (W - (nI (bL b l 5) * others) / 100) else W
theorem tot_le {b : Bk} (hb : bOk b) (l j M : Nat) (hM : M ≤ 900) : tot b l j M ≤ 899100 := by
  have := sm_le (f := fun m => inc b l m j) (c := 999) (fun m => inc_le hb l m j) M
  have h2 : M * 999 ≤ 900 * 999 := Nat.mul_le_mul_right 999 hM
  unfold tot
  omega
theorem law_le {b : Bk} (hb : bOk b) {l j : Nat} (hl : l < 6) (hj : j < 9) : bL b l j ≤ 9999 := by
  have h := hb.2.1 l j hl hj
  have : ∀ j, j < 9 → mostN j ≤ 9999 := by decide
  have := this j hj
  omega
theorem q_gr (x y : Int32) (S : vS) : f_X4_greater x y S = some (mx x y) := by rw [f_X4_greater, ← gr_mx]; split <;> rfl
theorem q_gr0 (x : Int32) (S : vS) : f_X4_greater x 0 S = some (mx 0 x) := by rw [f_X4_greater, ← gr_z]; split <;> rfl
section XD
variable {S : vS} {b : Bk} {l : Nat}
theorem p_hasRight (hX : RXb S b) (hb : bOk b) (hl : l < 6) {c : Nat} (hc : c < 3000000) : f_X1_hasRight (54 + l) (nI c) S = some (if rtB b l c = true then 1 else 0) := by
  have h0 := law_le hb hl (show 0 < 9 by omega)
  rw [f_X1_hasRight, L1]
  simp only [nI_ltI (show c < 2 ^ 31 by omega) (show 1 < 2 ^ 31 by omega), alen_54 hl, hX.2.2.1 l 0 hl (by omega), nI_ltI (show c < 2 ^ 31 by omega) (show bL b l 0 < 2 ^ 31 by omega)]
  unfold rtB
  by_cases h1 : c < 1
  · rw [if_pos h1, if_neg (by simp; omega)]
  · rw [if_neg h1, if_pos (by omega), if_pos (by decide)]
    by_cases h2 : c < bL b l 0
    · rw [if_pos h2, if_neg (by simp; omega)]
    · rw [if_neg h2, if_pos (by simp; omega)]
theorem p_byRate (hX : RXb S b) (hl : l < 6) {x : Nat} : f_X1_byRate (54 + l) (nI x) S = some (br b l x) := by
  rw [f_X1_byRate, if_pos (by omega), alen_54 hl, if_pos (by decide), if_pos (by decide), hX.2.2.1 l 2 hl (by omega), hX.2.2.1 l 4 hl (by omega)]
  rfl
theorem p_duePut (hX : RXb S b) (hb : bOk b) (hl : l < 6) {c c2 p2 : Nat} (h0 : S 26 l = nI c) (h2 : S 28 l = nI c2) (h3 : S 29 l = nI p2) (hc2 : c2 < 3000000) : f_X1_duePut (54 + l) (nI l) S = some (putI b l c c2 p2) := by
  rw [f_X1_duePut, if_pos (inb_n hl (by omega))]
  simp only [lt, nI_clamp (show l < 2 ^ 31 by omega), h0, h2, h3, p_hasRight hX hb hl hc2, p_byRate hX hl, b1, alen_54 hl, hX.2.2.1 l 3 hl (by omega), L1]
  unfold putI
  by_cases h : rtB b l c2 = true
  · have hq : 1 ≤ c2 ∧ bL b l 0 ≤ c2 := by simpa [rtB] using h
    simp only [if_pos h]
    rw [if_neg (by decide), if_pos ((nI_leI (by omega) (by omega)).mpr hq.1), if_pos (by omega), if_pos (by decide), if_pos (by rw [L0]; exact fun q => absurd ((nI_eq (by omega) (by omega)).mp q) (by omega))]
  · simp only [if_neg h, if_pos]
theorem p_dueWhole (hX : RXb S b) (hb : bOk b) (hl : l < 6) {k c p c2 p2 : Nat} (hk : k < 6) (h0 : S 26 l = nI c) (h1 : S 27 l = nI p) (h2 : S 28 l = nI c2) (h3 : S 29 l = nI p2) (hc : c < 3000000) (hc2 : c2 < 3000000) : f_X1_dueWhole (54 + l) (nI l) (nI k) S = some (whI b l k c p c2 p2) := by
  rw [f_X1_dueWhole, if_pos (inb_n hl (by omega))]
  have hd := p_duePut hX hb hl h0 h2 h3 hc2
  simp only [nI_clamp (show l < 2 ^ 31 by omega), h0, h1, p_hasRight hX hb hl hc, p_byRate hX hl, b1, f_X1_dueWhole_J31, f_X1_dueWhole_J50, alen_54 hl, hX.2.2.1 l 3 hl (by omega), hd]
  have hr : ∀ j : Nat, j < 6 → (nI k = nI j ↔ k = j) := fun j hj => nI_eq (by omega) (by omega)
  simp only [L0, L1, L2, L3, L4, L5, hr 0 (by omega), hr 1 (by omega), hr 2 (by omega), hr 3 (by omega), hr 4 (by omega), hr 5 (by omega)]
  have i3 : inb (nI 3) 9 = true := by decide
  have hrow : 1 ≤ 54 + l ∧ 54 + l ≤ 97 := by omega
  unfold whI ownI leaI
  by_cases h : rtB b l c = true
  · simp only [if_pos h, i3, if_pos hrow, if_true]
    rw [if_neg (show ¬ nI 1 = nI 0 by decide), if_neg (show ¬ nI 1 = nI 0 by decide)]
    split
    · rfl
    · split
      · rfl
      · split
        · rfl
        · split
          · rfl
          · split
            · rfl
            · rw [if_pos (by omega)]
  · simp only [if_neg h, if_true]
    split
    · rfl
    · split
      · rfl
      · split
        · rfl
        · split
          · rfl
          · split
            · rfl
            · rw [if_pos (by omega)]; rfl
theorem p_lessOthers (hX : RXb S b) (hl : l < 6) {k : Nat} (hk : k < 6) {W oth : Int32} : f_X1_lessOthers (54 + l) (nI k) W oth S = some (svI b l k oth W) := by
  rw [f_X1_lessOthers]
  have hr : ∀ j : Nat, j < 6 → (nI k = nI j ↔ k = j) := fun j hj => nI_eq (by omega) (by omega)
  have hrow : 1 ≤ 54 + l ∧ 54 + l ≤ 97 := by omega
  have i5 : inb (5 : Int32) 9 = true := by decide
  simp only [f_X1_lessOthers_J10, f_X1_lessOthers_J15, L4, hX.2.2.1 l 5 hl (by omega), alen_54 hl, i5, if_pos hrow, if_true, if_neg (show ¬ ((1 : Int32) = 0) by decide)]
  simp only [L5, hr 4 (by omega), hr 5 (by omega)]
  unfold svI
  by_cases h4 : k = 4
  · rw [if_pos h4, if_pos (Or.inl h4)]
  · rw [if_neg h4]
    by_cases h5 : k = 5
    · rw [if_pos h5, if_pos (Or.inr h5)]
    · rw [if_neg h5, if_neg (by omega)]
/-- the reference -/
theorem q_law (hR : RE S b) (hl : l < 6) {j : Nat} (hj : j < 9) : f_X4_lawOf (nI l) (nI j) S = some (nI (bL b l j)) := by
  rw [f_X4_lawOf]
  simp only [L9, pk_mul, nI_add, inb_n (show 9 * l + j < 54 by omega) (show 9 * l + j < 2 ^ 31 by omega), if_true, nI_clamp (show 9 * l + j < 2 ^ 31 by omega), hR.2.2.1 l j hl hj]
theorem q_right (hR : RE S b) (hb : bOk b) (hl : l < 6) {c : Nat} (hc : c < 3000000) : f_X4_isRight (nI l) (nI c) S = some (if rtB b l c = true then 1 else 0) := by
  have h0 := law_le hb hl (show 0 < 9 by omega)
  rw [f_X4_isRight, L1, L0, q_law hR hl (show 0 < 9 by omega)]
  simp only [b1, nI_ltI (show c < 2 ^ 31 by omega) (show 1 < 2 ^ 31 by omega), nI_ltI (show c < 2 ^ 31 by omega) (show bL b l 0 < 2 ^ 31 by omega)]
  unfold rtB
  by_cases h1 : c < 1
  · rw [if_pos h1, if_neg (by simp; omega)]
  · rw [if_neg h1]
    by_cases h2 : c < bL b l 0
    · rw [if_pos h2, if_neg (by simp; omega)]
    · rw [if_neg h2, if_pos (by simp; omega)]
theorem q_rate (hR : RE S b) (hl : l < 6) {x : Nat} : f_X4_byRate (nI l) (nI x) S = some (br b l x) := by
  rw [f_X4_byRate, L2, L4, q_law hR hl (show 2 < 9 by omega), q_law hR hl (show 4 < 9 by omega)]
  simp only [b1, lt]
  unfold br
  rw [← le_mn]
  split <;> rfl
theorem q_least (hR : RE S b) (hb : bOk b) (hl : l < 6) {c p : Nat} (h0 : S 15 l = nI c) (h1 : S 16 l = nI p) (hc : c < 3000000) : f_X4_leastOf (nI l) S = some (leaI b l c p) := by
  rw [f_X4_leastOf, if_pos (inb_n hl (by omega))]
  simp only [nI_clamp (show l < 2 ^ 31 by omega), h0, h1, q_right hR hb hl hc, q_rate hR hl, b1, L3, q_law hR hl (show 3 < 9 by omega), q_gr]
  unfold leaI
  by_cases h : rtB b l c = true
  · simp only [if_pos h]
    rw [if_neg (by decide)]
  · simp only [if_neg h, if_true]
theorem q_put (hR : RE S b) (hb : bOk b) (hl : l < 6) {c c2 p2 : Nat} (h0 : S 15 l = nI c) (h2 : S 17 l = nI c2) (h3 : S 18 l = nI p2) (hc2 : c2 < 3000000) : f_X4_putOf (nI l) S = some (putI b l c c2 p2) := by
  rw [f_X4_putOf, if_pos (inb_n hl (by omega))]
  simp only [nI_clamp (show l < 2 ^ 31 by omega), h0, h2, h3, q_right hR hb hl hc2, q_rate hR hl, b1, L3, q_law hR hl (show 3 < 9 by omega), q_gr]
  unfold putI
  by_cases h : rtB b l c2 = true
  · have hq : 1 ≤ c2 ∧ bL b l 0 ≤ c2 := by simpa [rtB] using h
    simp only [if_pos h]
    have hz : ¬ nI c2 = 0 := by rw [L0]; exact fun q => absurd ((nI_eq (by omega) (by omega)).mp q) (by omega)
    rw [if_neg (by decide), if_pos hz]
  · simp only [if_neg h, if_true]
theorem q_says (hR : RE S b) (hb : bOk b) (hl : l < 6) {k c p c2 p2 : Nat} (hk : k < 6) (h0 : S 15 l = nI c) (h1 : S 16 l = nI p) (h2 : S 17 l = nI c2) (h3 : S 18 l = nI p2) (hc : c < 3000000) (hc2 : c2 < 3000000) {oth : Int32} : f_X4_says (nI l) (nI k) oth S = some (svI b l k oth (whI b l k c p c2 p2)) := by
  have hr : ∀ j : Nat, j < 6 → (nI k = nI j ↔ k = j) := fun j hj => nI_eq (by omega) (by omega)
  have e1 := q_least hR hb hl h0 h1 hc
  have e2 := q_put hR hb hl h0 h2 h3 hc2
  have g := fun x y => q_gr x y S
  have g0 := fun x => q_gr0 x S
  rw [f_X4_says, L5, q_law hR hl (show 5 < 9 by omega)]
  simp only [b1, lt, nI_clamp (show l < 2 ^ 31 by omega), inb_n hl (show l < 2 ^ 31 by omega), if_true, h0, h1, q_right hR hb hl hc, q_rate hR hl, e1, e2, g0]
  simp only [g, L2, L3, L4]
  rw [show ((0 : Int32)) = nI 0 from rfl, show ((1 : Int32)) = nI 1 from rfl]
  simp only [hr 0 (by omega), hr 1 (by omega), hr 2 (by omega), hr 3 (by omega), hr 4 (by omega)]
  unfold whI svI ownI
  by_cases k0 : k = 0
  · subst k0
    by_cases h : rtB b l c = true
    · simp [h]; exact fun q => absurd q (by decide)
    · simp [h]; rfl
  · by_cases k1 : k = 1
    · subst k1; simp
    · by_cases k2 : k = 2
      · subst k2; simp
      · by_cases k3 : k = 3
        · subst k3; simp
        · by_cases k4 : k = 4
          · subst k4; simp; rfl
          · have k5 : k = 5 := by omega
            subst k5; simp; rfl
end XD
