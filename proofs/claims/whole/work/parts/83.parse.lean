/-! reading a spell off the tape -/
def dg (t : Nat → Nat) (tn p : Nat) : Bool := decide (p < tn ∧ 48 ≤ t p ∧ t p ≤ 57)
def nm (t : Nat → Nat) (tn : Nat) : Nat → Nat → Nat → Nat × Nat
  | 0, p, a => (a, p)
  | k + 1, p, a => if dg t tn p = true then nm t tn k (p + 1) (10 * a + (t p - 48)) else (a, p)
def lnd (v : Nat) : Nat := if 48 ≤ v ∧ v < 54 then v - 48 else 6
def wkd (v : Nat) : Nat := if v = 115 then 0 else if v = 102 then 1 else if v = 97 then 2 else if v = 98 then 3 else 4
abbrev vR : Type := Bool × Nat × (Nat → Nat)
def rdF (p : Nat) : vR := (false, p, fun _ => 0)
def vs7 (l w f u y d : Nat) : Nat → Nat := fun c => ([l, w, f, u, y, d, 1] : List Nat).getD c 0
def rd7 (tn p : Nat) (v : Nat → Nat) : vR := if p = tn then (true, p, v) else rdF p
def rd6 (t : Nat → Nat) (tn p l w f u y : Nat) : vR := if p < tn ∧ t p = 33 then rd7 tn (p + 1) (vs7 l w f u y 0) else rd7 tn p (vs7 l w f u y 1)
def rd5 (t : Nat → Nat) (tn p l w f u : Nat) : vR := if dg t tn p = true then rd6 t tn (nm t tn 3 p 0).2 l w f u (nm t tn 3 p 0).1 else rdF p
def rd4 (t : Nat → Nat) (tn p l w f u : Nat) : vR := if p < tn ∧ t p = 42 then rd5 t tn (p + 1) l w f u else rdF p
def rd3 (t : Nat → Nat) (tn p l w f : Nat) : vR := if dg t tn p = true then (if (nm t tn 3 p 0).1 ≤ f ∨ 900 < (nm t tn 3 p 0).1 then rdF p else rd4 t tn (nm t tn 3 p 0).2 l w f (nm t tn 3 p 0).1) else rdF p
def rd2 (t : Nat → Nat) (tn p l w f : Nat) : vR := if p < tn ∧ t p = 45 then rd3 t tn (p + 1) l w f else rdF p
def rd1 (t : Nat → Nat) (tn p l w : Nat) : vR := if dg t tn p = true then rd2 t tn (nm t tn 3 p 0).2 l w (nm t tn 3 p 0).1 else rdF p
def rd0 (t : Nat → Nat) (tn l : Nat) : vR := if 1 < tn ∧ wkd (t 1) < 4 then rd1 t tn 2 l (wkd (t 1)) else rdF 1
def rd (t : Nat → Nat) (tn : Nat) : vR := if 0 < tn ∧ lnd (t 0) < 6 then rd0 t tn (lnd (t 0)) else rdF 0
theorem nm_le (t : Nat → Nat) (tn : Nat) : ∀ k p a, p ≤ (nm t tn k p a).2 ∧ (nm t tn k p a).2 ≤ p + k ∧ (p ≤ tn → (nm t tn k p a).2 ≤ tn) ∧ (nm t tn k p a).1 + 1 ≤ (a + 1) * 10 ^ k := by
  intro k
  induction k with
  | zero => intro p a; rw [nm]; dsimp only; omega
  | succ k ih =>
    intro p a
    rw [nm]
    by_cases h : dg t tn p = true
    · rw [if_pos h]
      obtain ⟨h1, h2, h3⟩ : p < tn ∧ 48 ≤ t p ∧ t p ≤ 57 := of_decide_eq_true h
      obtain ⟨i1, i2, i3, i4⟩ := ih (p + 1) (10 * a + (t p - 48))
      refine ⟨by omega, by omega, fun _ => i3 (by omega), Nat.le_trans i4 ?_⟩
      rw [Nat.pow_succ, Nat.mul_comm (10 ^ k) 10, ← Nat.mul_assoc]
      exact Nat.mul_le_mul_right _ (by omega)
    · rw [if_neg h]
      dsimp only
      have : 1 ≤ 10 ^ (k + 1) := Nat.pos_of_ne_zero (by simp)
      refine ⟨by omega, by omega, fun h => h, ?_⟩
      exact Nat.le_mul_of_pos_right _ this
theorem nm_at {t : Nat → Nat} {tn p : Nat} (h : dg t tn p = true) : p < (nm t tn 3 p 0).2 := by
  rw [nm, if_pos h]
  have := (nm_le t tn 2 (p + 1) (10 * 0 + (t p - 48))).1
  omega
theorem nm_not {t : Nat → Nat} {tn p : Nat} (h : ¬ dg t tn p = true) : nm t tn 3 p 0 = (0, p) := by rw [nm, if_neg h]
theorem nm_999 (t : Nat → Nat) (tn p : Nat) : (nm t tn 3 p 0).1 ≤ 999 := by
  have := (nm_le t tn 3 p 0).2.2.2
  omega
theorem nI_nl2 {a b : Nat} (h : a < b) (hb : b < 2 ^ 31) : ¬ nI b ≤ nI a := fun q => absurd ((nI_leI (by omega) (by omega)).mp q) (by omega)
theorem s_chr : ∀ v, v < 256 → ((nI v).toUInt32 % 65536).toInt32 = nI v := by decide +kernel
def plc (j : Nat) (S : vS) (p : Nat) : vS := upk S 0 (upd (S 0) j (nI p))
theorem plc_plc (j : Nat) (S : vS) (p q : Nat) : plc j (plc j S p) q = plc j S q := by
  unfold plc
  rw [upk_upk, upk_eq]
  congr 1
  funext i
  simp only [upd_k]
  by_cases e : i = j <;> simp [e]
theorem plc_at (j : Nat) (S : vS) (p : Nat) : plc j S p 0 j = nI p := by unfold plc; rw [upk_eq, upd_k, if_pos rfl]
theorem plc_ne (j : Nat) (S : vS) (p : Nat) {k : Nat} (h : k ≠ 0) : plc j S p k = S k := upk_ne _ _ h
theorem plc_same {j : Nat} {S : vS} {p : Nat} (h : S 0 j = nI p) : plc j S p = S := upk_same h
theorem plc_ag {ks js : List Nat} (j : Nat) (S : vS) (p : Nat) (h : j ∈ js) : Ag ks js S (plc j S p) := Ag.j _ h
/-- the class's tape -/
def TC (S : vS) (t : Nat → Nat) (tn : Nat) : Prop := S 0 10 = nI tn ∧ tn ≤ 16 ∧ ∀ j, j < tn → S 22 j = nI (t j) ∧ t j < 256
theorem TC_ag {S S' : vS} {t : Nat → Nat} {tn a : Nat} (h : Ag [a] [11] S S') (ha : 34 ≤ a) (hT : TC S t tn) : TC S' t tn :=
  ⟨by rw [h.2 10 (by decide)]; exact hT.1, hT.2.1, fun j hj => by rw [h.1 22 (by decide) (by simp; omega)]; exact hT.2.2 j hj⟩
theorem s_is0 : ∀ v, v < 256 → ∀ j, j < 6 → (strJ 0 j = (nI v).toInt8.toInt32 ↔ lnd v = j) := by decide +kernel
theorem s_loop0 {S : vS} {v : Nat} (hv : v < 256) : ∀ (k j : Nat), j + k = 6 → (∀ i, i < j → ¬ lnd v = i) → ∀ n, k < n → f_J1_indexOfChar_4cfef_s0_L7 S n (nI 6) (nI v).toInt8.toInt32 (nI j) = if lnd v < 6 then some (.inr (nI (lnd v))) else some (.inl ()) := by
  intro k
  induction k with
  | zero =>
    intro j hj hne n hk
    obtain ⟨n, rfl⟩ : ∃ q, n = q + 1 := ⟨n - 1, by omega⟩
    have hF : ¬ lnd v < 6 := fun q => hne (lnd v) (by omega) rfl
    rw [f_J1_indexOfChar_4cfef_s0_L7, if_pos ((nI_leI (by omega) (by omega)).mpr (by omega)), if_neg hF]
  | succ k ih =>
    intro j hj hne n hk
    obtain ⟨n, rfl⟩ : ∃ q, n = q + 1 := ⟨n - 1, by omega⟩
    rw [f_J1_indexOfChar_4cfef_s0_L7, if_neg (show ¬ nI 6 ≤ nI j from fun q => absurd ((nI_leI (by omega) (by omega)).mp q) (by omega)), if_pos (inb_n (by omega) (by omega)), nI_clamp (by omega)]
    by_cases h : lnd v = j
    · rw [if_pos ((s_is0 v hv j (by omega)).mpr h), if_pos (show lnd v < 6 by omega), h]
    · rw [if_neg (fun q => h ((s_is0 v hv j (by omega)).mp q)), nI_1]
      exact ih (j + 1) (by omega) (fun i hi q => by
        by_cases e : i = j
        · exact h (q.trans e)
        · exact hne i (by omega) q) n (by omega)
theorem s_idx0 (S : vS) {v : Nat} (hv : v < 256) : f_J0_indexOf_0f7a4_s0 (((nI v).toUInt32 % 65536).toInt32) S = some (if lnd v < 6 then nI (lnd v) else -1) := by
  have h := s_loop0 (S := S) hv 6 0 (by omega) (fun i hi => by omega) FU (by unfold FU; omega)
  have c1 : f_J1_canEncode_9a6ad (nI v) S = some 1 := by
    rw [f_J1_canEncode_9a6ad, if_neg (nI_pos (by omega)), show (255 : Int32) = nI 255 from rfl, if_neg (fun q => absurd ((nI_ltI (by omega) (by omega)).mp q) (by omega))]
  have m1 : mx (0 : Int32) 0 = 0 := by decide
  have m2 : mn (nI 6) (nI 6) = nI 6 := by decide
  have l1 : f_J0_isLatin1_aae02_s0 S = some 1 := rfl
  have l2 : f_J0_length_8abf5_s0 S = some (nI 6) := rfl
  rw [s_chr v hv, f_J0_indexOf_0f7a4_s0, f_J0_indexOf_7cf53_s0, l1, b1_some, if_neg (by decide), l2, b1_some, f_J1_indexOf_4cfef_s0, c1, b1_some, if_neg (by decide), m1, L6, m2, if_pos (by decide), f_J1_indexOfChar_4cfef_s0, L0, h]
  by_cases q : lnd v < 6
  · rw [if_pos q, if_pos q]; rfl
  · rw [if_neg q, if_neg q]; rfl
theorem s_is1 : ∀ v, v < 256 → ∀ j, j < 4 → (strJ 1 j = (nI v).toInt8.toInt32 ↔ wkd v = j) := by decide +kernel
theorem s_loop1 {S : vS} {v : Nat} (hv : v < 256) : ∀ (k j : Nat), j + k = 4 → (∀ i, i < j → ¬ wkd v = i) → ∀ n, k < n → f_J1_indexOfChar_4cfef_s1_L7 S n (nI 4) (nI v).toInt8.toInt32 (nI j) = if wkd v < 4 then some (.inr (nI (wkd v))) else some (.inl ()) := by
  intro k
  induction k with
  | zero =>
    intro j hj hne n hk
    obtain ⟨n, rfl⟩ : ∃ q, n = q + 1 := ⟨n - 1, by omega⟩
    have hF : ¬ wkd v < 4 := fun q => hne (wkd v) (by omega) rfl
    rw [f_J1_indexOfChar_4cfef_s1_L7, if_pos ((nI_leI (by omega) (by omega)).mpr (by omega)), if_neg hF]
  | succ k ih =>
    intro j hj hne n hk
    obtain ⟨n, rfl⟩ : ∃ q, n = q + 1 := ⟨n - 1, by omega⟩
    rw [f_J1_indexOfChar_4cfef_s1_L7, if_neg (show ¬ nI 4 ≤ nI j from fun q => absurd ((nI_leI (by omega) (by omega)).mp q) (by omega)), if_pos (inb_n (by omega) (by omega)), nI_clamp (by omega)]
    by_cases h : wkd v = j
    · rw [if_pos ((s_is1 v hv j (by omega)).mpr h), if_pos (show wkd v < 4 by omega), h]
    · rw [if_neg (fun q => h ((s_is1 v hv j (by omega)).mp q)), nI_1]
      exact ih (j + 1) (by omega) (fun i hi q => by
        by_cases e : i = j
        · exact h (q.trans e)
        · exact hne i (by omega) q) n (by omega)
theorem s_idx1 (S : vS) {v : Nat} (hv : v < 256) : f_J0_indexOf_0f7a4_s1 (((nI v).toUInt32 % 65536).toInt32) S = some (if wkd v < 4 then nI (wkd v) else -1) := by
  have h := s_loop1 (S := S) hv 4 0 (by omega) (fun i hi => by omega) FU (by unfold FU; omega)
  have c1 : f_J1_canEncode_9a6ad (nI v) S = some 1 := by
    rw [f_J1_canEncode_9a6ad, if_neg (nI_pos (by omega)), show (255 : Int32) = nI 255 from rfl, if_neg (fun q => absurd ((nI_ltI (by omega) (by omega)).mp q) (by omega))]
  have m1 : mx (0 : Int32) 0 = 0 := by decide
  have m2 : mn (nI 4) (nI 4) = nI 4 := by decide
  have l1 : f_J0_isLatin1_aae02_s1 S = some 1 := rfl
  have l2 : f_J0_length_8abf5_s1 S = some (nI 4) := rfl
  rw [s_chr v hv, f_J0_indexOf_0f7a4_s1, f_J0_indexOf_7cf53_s1, l1, b1_some, if_neg (by decide), l2, b1_some, f_J1_indexOf_4cfef_s1, c1, b1_some, if_neg (by decide), m1, L4, m2, if_pos (by decide), f_J1_indexOfChar_4cfef_s1, L0, h]
  by_cases q : wkd v < 4
  · rw [if_pos q, if_pos q]; rfl
  · rw [if_neg q, if_neg q]; rfl
theorem c_choice0 {S : vS} {t : Nat → Nat} {tn p a : Nat} (hT : TC S t tn) (hp9 : p ≤ tn) (h : S 0 11 = nI p) (ha : 1 ≤ a ∧ a ≤ 97) (hl : alen a = 7) : (p < tn ∧ lnd (t p) < 6 → f_X2_readChoice_s0 a (nI 0) S = some (1, plc 11 (upk S a (upd (S a) 0 (nI (lnd (t p))))) (p + 1))) ∧ (¬ (p < tn ∧ lnd (t p) < 6) → f_X2_readChoice_s0 a (nI 0) S = some (0, S)) := by
  obtain ⟨t1, t2, t3⟩ := hT
  have j0 : f_X2_readChoice_s0_J29 a (nI 0) (-1) S = some (0, S) := by rw [f_X2_readChoice_s0_J29, if_neg (by decide)]
  by_cases hp : p < tn
  · obtain ⟨q1, q2⟩ := t3 p hp
    have e : f_X2_readChoice_s0 a (nI 0) S = f_X2_readChoice_s0_J29 a (nI 0) (if lnd (t p) < 6 then nI (lnd (t p)) else -1) S := by
      rw [f_X2_readChoice_s0, t1, h, if_neg (nI_nl2 hp (by omega)), if_pos (inb_n (by omega) (by omega)), nI_clamp (by omega), q1, s_idx0 _ q2, b1_some]
    constructor
    · intro hh
      rw [e, if_pos hh.2, f_X2_readChoice_s0_J29, if_pos (nI_pos' (by omega)), if_pos ha, hl, if_pos (by decide), nI_clamp (by omega)]
      simp only [lt]
      rw [upk_ne _ _ (show (0 : Nat) ≠ a by omega), h, nI_1]
      unfold plc
      rw [upk_ne _ _ (show (0 : Nat) ≠ a by omega)]
    · intro hh
      rw [e, if_neg (fun q => hh ⟨hp, q⟩), j0]
  · have e : f_X2_readChoice_s0 a (nI 0) S = some (0, S) := by
      rw [f_X2_readChoice_s0, t1, h, if_pos ((nI_leI (by omega) (by omega)).mpr (by omega)), j0]
    exact ⟨fun hh => absurd hh.1 hp, fun _ => e⟩
theorem c_choice1 {S : vS} {t : Nat → Nat} {tn p a : Nat} (hT : TC S t tn) (hp9 : p ≤ tn) (h : S 0 11 = nI p) (ha : 1 ≤ a ∧ a ≤ 97) (hl : alen a = 7) : (p < tn ∧ wkd (t p) < 4 → f_X2_readChoice_s1 a (nI 1) S = some (1, plc 11 (upk S a (upd (S a) 1 (nI (wkd (t p))))) (p + 1))) ∧ (¬ (p < tn ∧ wkd (t p) < 4) → f_X2_readChoice_s1 a (nI 1) S = some (0, S)) := by
  obtain ⟨t1, t2, t3⟩ := hT
  have j0 : f_X2_readChoice_s1_J29 a (nI 1) (-1) S = some (0, S) := by rw [f_X2_readChoice_s1_J29, if_neg (by decide)]
  by_cases hp : p < tn
  · obtain ⟨q1, q2⟩ := t3 p hp
    have e : f_X2_readChoice_s1 a (nI 1) S = f_X2_readChoice_s1_J29 a (nI 1) (if wkd (t p) < 4 then nI (wkd (t p)) else -1) S := by
      rw [f_X2_readChoice_s1, t1, h, if_neg (nI_nl2 hp (by omega)), if_pos (inb_n (by omega) (by omega)), nI_clamp (by omega), q1, s_idx1 _ q2, b1_some]
    constructor
    · intro hh
      rw [e, if_pos hh.2, f_X2_readChoice_s1_J29, if_pos (nI_pos' (by omega)), if_pos ha, hl, if_pos (by decide), nI_clamp (by omega)]
      simp only [lt]
      rw [upk_ne _ _ (show (0 : Nat) ≠ a by omega), h, nI_1]
      unfold plc
      rw [upk_ne _ _ (show (0 : Nat) ≠ a by omega)]
    · intro hh
      rw [e, if_neg (fun q => hh ⟨hp, q⟩), j0]
  · have e : f_X2_readChoice_s1 a (nI 1) S = some (0, S) := by
      rw [f_X2_readChoice_s1, t1, h, if_pos ((nI_leI (by omega) (by omega)).mpr (by omega)), j0]
    exact ⟨fun hh => absurd hh.1 hp, fun _ => e⟩
theorem b3_some {α β γ δ : Type} (a : α) (c : β) (d : γ) (k : α → β → γ → Option δ) : b3 (some (a, c, d)) k = k a c d := rfl
theorem c_nloop {t : Nat → Nat} {tn : Nat} {a : Nat} {c : Int32} : ∀ (k i p x : Nat), i + k = 3 → ∀ n (S : vS), k < n → TC S t tn → p ≤ tn → S 0 11 = nI p → f_X2_readNumber_L5 n a c (nI x) (nI i) S = some (nI (nm t tn k p x).1, nI (i + ((nm t tn k p x).2 - p)), plc 11 S (nm t tn k p x).2) := by
  intro k
  induction k with
  | zero =>
    intro i p x hi n S hk hT hp h
    obtain ⟨n, rfl⟩ : ∃ q, n = q + 1 := ⟨n - 1, by omega⟩
    rw [f_X2_readNumber_L5, L3, if_pos ((nI_leI (by omega) (by omega)).mpr (by omega)), nm]
    dsimp only
    rw [Nat.sub_self, Nat.add_zero, plc_same h]
  | succ k ih =>
    intro i p x hi n S hk hT hp h
    obtain ⟨n, rfl⟩ : ∃ q, n = q + 1 := ⟨n - 1, by omega⟩
    obtain ⟨t1, t2, t3⟩ := id hT
    have stop : ¬ dg t tn p = true → (nm t tn (k + 1) p x) = (x, p) := fun hd => by rw [nm, if_neg hd]
    rw [f_X2_readNumber_L5, L3, if_neg (nI_nl2 (by omega) (by omega)), t1, h]
    by_cases h1 : p < tn
    · obtain ⟨q1, q2⟩ := t3 p h1
      rw [if_neg (nI_nl2 h1 (by omega)), if_pos (inb_n (by omega) (by omega)), nI_clamp (by omega), q1, show (48 : Int32) = nI 48 from rfl, show (57 : Int32) = nI 57 from rfl]
      by_cases h2 : t p < 48
      · rw [if_pos ((nI_ltI (by omega) (by omega)).mpr h2), stop (fun q => by have := of_decide_eq_true q; omega)]
        dsimp only
        rw [Nat.sub_self, Nat.add_zero, plc_same h]
      · rw [if_neg (fun q => h2 ((nI_ltI (by omega) (by omega)).mp q))]
        by_cases h3 : 57 < t p
        · rw [if_pos ((nI_ltI (by omega) (by omega)).mpr h3), stop (fun q => by have := of_decide_eq_true q; omega)]
          dsimp only
          rw [Nat.sub_self, Nat.add_zero, plc_same h]
        · have hd : dg t tn p = true := decide_eq_true (by omega)
          rw [if_neg (fun q => h3 ((nI_ltI (by omega) (by omega)).mp q))]
          simp only [lt]
          have hx : nI x * 10 + nI (t p) - nI 48 = nI (10 * x + (t p - 48)) := by
            have e : nI (10 * x + (t p - 48)) + nI 48 = nI x * 10 + nI (t p) := by
              rw [L10, pk_mul, nI_add, nI_add]
              congr 1
              omega
            rw [← e]; grind
          rw [nI_1, nI_1, hx]
          have hr := ih (i + 1) (p + 1) (10 * x + (t p - 48)) (by omega) n (plc 11 S (p + 1)) (by omega) (TC_ag (a := 34) (plc_ag _ _ _ (by decide)) (by decide) hT) (by omega) (plc_at _ _ _)
          rw [plc_plc] at hr
          have en : nm t tn (k + 1) p x = nm t tn k (p + 1) (10 * x + (t p - 48)) := by rw [nm, if_pos hd]
          have hle := (nm_le t tn k (p + 1) (10 * x + (t p - 48))).1
          rw [en, show i + ((nm t tn k (p + 1) (10 * x + (t p - 48))).2 - p) = i + 1 + ((nm t tn k (p + 1) (10 * x + (t p - 48))).2 - (p + 1)) by omega]
          exact hr
    · rw [if_pos ((nI_leI (by omega) (by omega)).mpr (by omega)), stop (fun q => by have := of_decide_eq_true q; omega)]
      dsimp only
      rw [Nat.sub_self, Nat.add_zero, plc_same h]
theorem c_number {S : vS} {t : Nat → Nat} {tn p a c : Nat} (hT : TC S t tn) (hp : p ≤ tn) (h : S 0 11 = nI p) (ha : 34 ≤ a ∧ a ≤ 97) (hl : alen a = 7) (hc : c < 7) : ∃ S', f_X2_readNumber a (nI c) S = some (rI (dg t tn p), S') ∧ Ag [a] [11] S S' ∧ S' 0 11 = nI (nm t tn 3 p 0).2 ∧ S' a c = nI (nm t tn 3 p 0).1 ∧ ∀ j, j ≠ c → S' a j = S a j := by
  have e := c_nloop (a := a) (c := nI c) 3 0 p 0 (by omega) FU S (by unfold FU; omega) hT hp h
  have hle := nm_le t tn 3 p 0
  have ht := hT.2.1
  refine ⟨upk (plc 11 S (nm t tn 3 p 0).2) a (upd (S a) c (nI (nm t tn 3 p 0).1)), ?_, ?_, ?_, ?_, fun j hj => ?_⟩
  · rw [f_X2_readNumber, L0, e, b3_some, f_X2_readNumber_J84, if_pos (by omega), hl, if_pos (inb_n hc (by omega)), nI_clamp (by omega), plc_ne _ _ _ (by omega)]
    simp only [lt]
    by_cases hd : dg t tn p = true
    · have := nm_at hd
      rw [if_neg (by rw [L0]; exact nI_nl2 (by omega) (by omega)), hd]
      rfl
    · rw [nm_not hd]
      dsimp only
      rw [Nat.sub_self, if_pos (by decide), Bool.eq_false_iff.mpr hd]
      rfl
  · exact (plc_ag _ _ _ (by decide)).tr (Ag.k _ List.mem_cons_self (by omega))
  · rw [upk_ne _ _ (by omega), plc_at]
  · rw [upk_eq, upd_k, if_pos rfl]
  · rw [upk_eq, upd_k, if_neg hj]
theorem c_sign {S : vS} {t : Nat → Nat} {tn p c : Nat} (hT : TC S t tn) (hp9 : p ≤ tn) (h : S 0 11 = nI p) (hc : c < 256) : (p < tn ∧ t p = c → f_X2_readSign (nI c) S = some (1, plc 11 S (p + 1))) ∧ (¬ (p < tn ∧ t p = c) → f_X2_readSign (nI c) S = some (0, S)) := by
  obtain ⟨t1, t2, t3⟩ := hT
  by_cases hp : p < tn
  · obtain ⟨q1, q2⟩ := t3 p hp
    have e : f_X2_readSign (nI c) S = if nI (t p) = nI c then some (1, plc 11 S (p + 1)) else some (0, S) := by
      rw [f_X2_readSign, t1, h, if_neg (nI_nl2 hp (by omega)), if_pos (inb_n (by omega) (by omega)), nI_clamp (by omega), q1]
      simp only [lt]
      rw [nI_1]
      rfl
    exact ⟨fun hh => by rw [e, if_pos (by rw [hh.2])], fun hh => by rw [e, if_neg (fun q => hh ⟨hp, (nI_eq (by omega) (by omega)).mp q⟩)]⟩
  · exact ⟨fun hh => absurd hh.1 hp, fun _ => by rw [f_X2_readSign, t1, h, if_pos ((nI_leI (by omega) (by omega)).mpr (by omega))]⟩
theorem c_till {S : vS} {t : Nat → Nat} {tn p a f : Nat} (hT : TC S t tn) (hp : p ≤ tn) (h : S 0 11 = nI p) (ha : 34 ≤ a ∧ a ≤ 97) (hl : alen a = 7) (hf : f ≤ 999) (h2 : S a 2 = nI f) : ∃ S', Ag [a] [11] S S' ∧ (∀ j, j ≠ 3 → S' a j = S a j) ∧ ((f_X2_readTill a S = some (1, S') ∧ dg t tn p = true ∧ ¬ ((nm t tn 3 p 0).1 ≤ f ∨ 900 < (nm t tn 3 p 0).1) ∧ S' 0 11 = nI (nm t tn 3 p 0).2 ∧ S' a 3 = nI (nm t tn 3 p 0).1) ∨ (f_X2_readTill a S = some (0, S') ∧ ¬ (dg t tn p = true ∧ ¬ ((nm t tn 3 p 0).1 ≤ f ∨ 900 < (nm t tn 3 p 0).1)) ∧ S' 0 11 = nI p)) := by
  obtain ⟨S2, e, a2, r11, r3, o⟩ := c_number hT hp h ha hl (show 3 < 7 by omega)
  have e2 : S2 a 2 = nI f := by rw [o 2 (by omega), h2]
  have h9 := nm_999 t tn p
  have back : Ag [a] [11] S (plc 11 S2 p) := a2.tr (plc_ag _ _ _ (by decide))
  have L3' : (3 : Int32) = nI 3 := rfl
  rw [f_X2_readTill, L3', e, b2_some]
  by_cases hd : dg t tn p = true
  · rw [hd, if_neg (by decide), if_pos (by omega), hl, if_pos (by decide), if_pos (by decide), r3, e2, h, L900]
    simp only [lt]
    by_cases h1 : (nm t tn 3 p 0).1 ≤ f
    · rw [if_pos ((nI_leI (by omega) (by omega)).mpr h1)]
      exact ⟨plc 11 S2 p, back, fun j hj => by rw [plc_ne _ _ _ (by omega)]; exact o j hj, Or.inr ⟨rfl, fun q => q.2 (Or.inl h1), plc_at _ _ _⟩⟩
    · rw [if_neg (fun q => h1 ((nI_leI (by omega) (by omega)).mp q))]
      by_cases h3 : 900 < (nm t tn 3 p 0).1
      · rw [if_pos ((nI_ltI (by omega) (by omega)).mpr h3)]
        exact ⟨plc 11 S2 p, back, fun j hj => by rw [plc_ne _ _ _ (by omega)]; exact o j hj, Or.inr ⟨rfl, fun q => q.2 (Or.inr h3), plc_at _ _ _⟩⟩
      · rw [if_neg (fun q => h3 ((nI_ltI (by omega) (by omega)).mp q))]
        exact ⟨S2, a2, o, Or.inl ⟨rfl, trivial, by omega, r11, r3⟩⟩
  · rw [Bool.eq_false_iff.mpr hd, if_pos (by decide)]
    rw [nm_not hd] at r11
    exact ⟨S2, a2, o, Or.inr ⟨rfl, fun q => absurd q.1 (by decide), r11⟩⟩
def Pr (a : Nat) (S0 : vS) (o : Option (Int32 × vS)) (r : vR) : Prop := ∃ S', o = some (rI r.1, S') ∧ Ag [a] [11] S0 S' ∧ S' 0 11 = nI r.2.1 ∧ (r.1 = true → ∀ c, c < 7 → S' a c = nI (r.2.2 c))
theorem Pr_fail {a p : Nat} {S0 S : vS} (hA : Ag [a] [11] S0 S) (h : S 0 11 = nI p) : Pr a S0 (f_X2_readInto_J75 a S) (rdF p) :=
  ⟨S, by rw [f_X2_readInto_J75, f_X2_readInto_J76, if_pos rfl]; rfl, hA, h, fun q => absurd (show false = true from q) (by decide)⟩
theorem Pr_end {t : Nat → Nat} {tn a p d : Nat} {S0 S : vS} (hA : Ag [a] [11] S0 S) (hT : TC S t tn) (hp : p ≤ tn) (h : S 0 11 = nI p) {v : Nat → Nat} (hv : ∀ c, c < 7 → S a c = nI (v c)) : Pr a S0 (if (S 0 11) = (S 0 10) then some ((1 : Int32), S) else some ((0 : Int32), S)) (rd7 tn p v) := by
  have ht := hT.2.1
  rw [h, hT.1, rd7]
  by_cases e : p = tn
  · rw [if_pos e, if_pos (by rw [e])]
    exact ⟨S, rfl, hA, h, fun _ => hv⟩
  · rw [if_neg e, if_neg (fun q => e ((nI_eq (by omega) (by omega)).mp q))]
    exact ⟨S, rfl, hA, h, fun q => absurd (show false = true from q) (by decide)⟩
theorem Pr_six {t : Nat → Nat} {tn a p l w f u y : Nat} {S0 S : vS} (ha : 34 ≤ a ∧ a ≤ 97) (hl : alen a = 7) (hA : Ag [a] [11] S0 S) (hT : TC S t tn) (hp : p ≤ tn) (h : S 0 11 = nI p) (h0 : S a 0 = nI l) (h1 : S a 1 = nI w) (h2 : S a 2 = nI f) (h3 : S a 3 = nI u) (h4 : S a 4 = nI y) : Pr a S0 (f_X2_readInto_J76 a 1 S) (rd6 t tn p l w f u y) := by
  have gen : ∀ (d q : Nat) (S1 : vS), Ag [a] [11] S S1 → q ≤ tn → S1 0 11 = nI q → S1 a = S a → Pr a S0 (lt (upk S1 a (upd (S1 a) 5 (nI d))) fun S13 => if inb (6 : Int32) 7 = true then lt (upk S13 a (upd (S13 a) 6 (1 : Int32))) fun S15 => if (S15 0 11) = (S15 0 10) then some ((1 : Int32), S15) else some ((0 : Int32), S15) else none) (rd7 tn q (vs7 l w f u y d)) := by
    intro d q S1 hB hq hq1 ha1
    have hC : Ag [a] [11] S1 (upk (upk S1 a (upd (S1 a) 5 (nI d))) a (upd ((upk S1 a (upd (S1 a) 5 (nI d))) a) 6 (1 : Int32))) := (Ag.k _ List.mem_cons_self (by omega)).tr (Ag.k _ List.mem_cons_self (by omega))
    simp only [lt]
    rw [if_pos (by decide)]
    refine Pr_end (t := t) (d := d) ((hA.tr hB).tr hC) (TC_ag hC (by omega) (TC_ag hB (by omega) hT)) hq ?_ ?_
    · rw [upk_ne _ _ (by omega), upk_ne _ _ (by omega), hq1]
    · intro c hc
      rw [upk_eq, upk_eq, ha1, upd_k, upd_k]
      rcases (show c = 0 ∨ c = 1 ∨ c = 2 ∨ c = 3 ∨ c = 4 ∨ c = 5 ∨ c = 6 by omega) with rfl | rfl | rfl | rfl | rfl | rfl | rfl
      · rw [if_neg (by decide), if_neg (by decide), h0]; rfl
      · rw [if_neg (by decide), if_neg (by decide), h1]; rfl
      · rw [if_neg (by decide), if_neg (by decide), h2]; rfl
      · rw [if_neg (by decide), if_neg (by decide), h3]; rfl
      · rw [if_neg (by decide), if_neg (by decide), h4]; rfl
      · rw [if_neg (by decide), if_pos rfl]; rfl
      · rw [if_pos rfl]; rfl
  obtain ⟨g1, g2⟩ := c_sign (c := 33) hT (by omega) h (by decide)
  rw [f_X2_readInto_J76, if_neg (by decide), show (33 : Int32) = nI 33 from rfl, rd6]
  by_cases q : p < tn ∧ t p = 33
  · rw [if_pos q, g1 q, b2_some, if_neg (by decide), if_pos (by omega), hl, if_pos (by decide)]
    exact gen 0 (p + 1) _ (plc_ag _ _ _ (by decide)) (by omega) (plc_at _ _ _) (plc_ne _ _ _ (by omega))
  · rw [if_neg q, g2 q, b2_some, if_pos (by decide), if_pos (by omega), hl, if_pos (by decide)]
    exact gen 1 p S (Ag.rf _ _ _) hp h rfl
theorem c_into {S : vS} {t : Nat → Nat} {tn a : Nat} (hT : TC S t tn) (ha : 34 ≤ a ∧ a ≤ 97) (hl : alen a = 7) : Pr a S (f_X2_readInto a S) (rd t tn) := by
  have A1 : Ag [a] [11] S (plc 11 S 0) := plc_ag _ _ _ (by decide)
  have T1 := TC_ag A1 (by omega) hT
  have P1 : plc 11 S 0 0 11 = nI 0 := plc_at _ _ _
  have e1 : f_X2_readInto a S = b2 (f_X2_readChoice_s0 a (0 : Int32) (plc 11 S 0)) fun r4 S3 => if r4 = 0 then f_X2_readInto_J75 a S3 else b2 (f_X2_readChoice_s1 a (1 : Int32) S3) fun r25 S24 => if r25 = 0 then f_X2_readInto_J75 a S24 else b2 (f_X2_readNumber a (2 : Int32) S24) fun r29 S28 => if r29 = 0 then f_X2_readInto_J75 a S28 else b2 (f_X2_readSign (45 : Int32) S28) fun r33 S32 => if r33 = 0 then f_X2_readInto_J75 a S32 else b2 (f_X2_readTill a S32) fun r37 S36 => if r37 = 0 then f_X2_readInto_J75 a S36 else b2 (f_X2_readSign (42 : Int32) S36) fun r41 S40 => if r41 = 0 then f_X2_readInto_J75 a S40 else b2 (f_X2_readNumber a (4 : Int32) S40) fun r45 S44 => if r45 = 0 then f_X2_readInto_J75 a S44 else f_X2_readInto_J76 a (1 : Int32) S44 := rfl
  rw [e1]
  generalize plc 11 S 0 = S1 at A1 T1 P1
  obtain ⟨c1, c2⟩ := c_choice0 T1 (by omega) P1 (by omega) hl
  rw [L0, L1, L2, L4, show (45 : Int32) = nI 45 from rfl, show (42 : Int32) = nI 42 from rfl, rd]
  by_cases q : 0 < tn ∧ lnd (t 0) < 6
  rotate_left
  · rw [if_neg q, c2 q, b2_some, if_pos (by decide)]
    exact Pr_fail A1 P1
  rw [if_pos q, c1 q, b2_some, if_neg (by decide), rd0]
  have B2 : Ag [a] [11] S1 (plc 11 (upk S1 a (upd (S1 a) 0 (nI (lnd (t 0))))) (0 + 1)) := (Ag.k _ List.mem_cons_self (by omega)).tr (plc_ag _ _ _ (by decide))
  have A2 := A1.tr B2
  have T2 := TC_ag B2 (by omega) T1
  have P2 : plc 11 (upk S1 a (upd (S1 a) 0 (nI (lnd (t 0))))) (0 + 1) 0 11 = nI 1 := plc_at _ _ _
  have V20 : plc 11 (upk S1 a (upd (S1 a) 0 (nI (lnd (t 0))))) (0 + 1) a 0 = nI (lnd (t 0)) := by rw [plc_ne _ _ _ (by omega), upk_eq, upd_k, if_pos rfl]
  generalize plc 11 (upk S1 a (upd (S1 a) 0 (nI (lnd (t 0))))) (0 + 1) = S2 at A2 T2 P2 V20
  obtain ⟨c1, c2⟩ := c_choice1 T2 (by omega) P2 (by omega) hl
  by_cases q : 1 < tn ∧ wkd (t 1) < 4
  rotate_left
  · rw [if_neg q, c2 q, b2_some, if_pos (by decide)]
    exact Pr_fail A2 P2
  rw [if_pos q, c1 q, b2_some, if_neg (by decide), rd1]
  have B3 : Ag [a] [11] S2 (plc 11 (upk S2 a (upd (S2 a) 1 (nI (wkd (t 1))))) (1 + 1)) := (Ag.k _ List.mem_cons_self (by omega)).tr (plc_ag _ _ _ (by decide))
  have A3 := A2.tr B3
  have T3 := TC_ag B3 (by omega) T2
  have P3 : plc 11 (upk S2 a (upd (S2 a) 1 (nI (wkd (t 1))))) (1 + 1) 0 11 = nI 2 := plc_at _ _ _
  have V31 : plc 11 (upk S2 a (upd (S2 a) 1 (nI (wkd (t 1))))) (1 + 1) a 1 = nI (wkd (t 1)) := by rw [plc_ne _ _ _ (by omega), upk_eq, upd_k, if_pos rfl]
  have V30 : plc 11 (upk S2 a (upd (S2 a) 1 (nI (wkd (t 1))))) (1 + 1) a 0 = nI (lnd (t 0)) := by rw [plc_ne _ _ _ (by omega), upk_eq, upd_k, if_neg (by decide), V20]
  generalize plc 11 (upk S2 a (upd (S2 a) 1 (nI (wkd (t 1))))) (1 + 1) = S3 at A3 T3 P3 V30 V31
  obtain ⟨S4, e4, B4, P4, V42, o4⟩ := c_number (c := 2) T3 (by omega) P3 ha hl (by decide)
  have A4 := A3.tr B4
  have T4 := TC_ag B4 (by omega) T3
  have V40 : S4 a 0 = nI (lnd (t 0)) := by rw [o4 0 (by decide), V30]
  have V41 : S4 a 1 = nI (wkd (t 1)) := by rw [o4 1 (by decide), V31]
  rw [e4, b2_some]
  by_cases q : dg t tn 2 = true
  rotate_left
  · rw [nm_not q] at P4
    rw [if_neg q, Bool.eq_false_iff.mpr q, if_pos (by decide)]
    exact Pr_fail A4 P4
  rw [if_pos q, q, if_neg (by decide), rd2]
  have b4 := (nm_le t tn 3 2 0).2.2.1 (by omega)
  have f9 := nm_999 t tn 2
  generalize (nm t tn 3 2 0).2 = p4 at P4 b4
  generalize (nm t tn 3 2 0).1 = f at V42 f9
  obtain ⟨c1, c2⟩ := c_sign (c := 45) T4 (by omega) P4 (by decide)
  by_cases q : p4 < tn ∧ t p4 = 45
  rotate_left
  · rw [if_neg q, c2 q, b2_some, if_pos (by decide)]
    exact Pr_fail A4 P4
  rw [if_pos q, c1 q, b2_some, if_neg (by decide), rd3]
  have B5 : Ag [a] [11] S4 (plc 11 S4 (p4 + 1)) := plc_ag _ _ _ (by decide)
  have A5 := A4.tr B5
  have T5 := TC_ag B5 (by omega) T4
  have P5 : plc 11 S4 (p4 + 1) 0 11 = nI (p4 + 1) := plc_at _ _ _
  have V50 : plc 11 S4 (p4 + 1) a = S4 a := plc_ne _ _ _ (by omega)
  generalize plc 11 S4 (p4 + 1) = S5 at A5 T5 P5 V50
  obtain ⟨S6, B6, o6, h6⟩ := c_till T5 (by omega) P5 ha hl f9 (by rw [V50, V42])
  have A6 := A5.tr B6
  have T6 := TC_ag B6 (by omega) T5
  rcases h6 with ⟨e6, q1, q2, P6, V63⟩ | ⟨e6, q1, P6⟩
  rotate_left
  · rw [e6, b2_some, if_pos (by decide)]
    by_cases g : dg t tn (p4 + 1) = true
    · rw [if_pos g, if_pos (Classical.byContradiction fun g2 => q1 ⟨g, g2⟩)]
      exact Pr_fail A6 P6
    · rw [if_neg g]
      exact Pr_fail A6 P6
  rw [e6, b2_some, if_neg (by decide), if_pos q1, if_neg q2, rd4]
  have V60 : S6 a 0 = nI (lnd (t 0)) := by rw [o6 0 (by decide), V50, V40]
  have V61 : S6 a 1 = nI (wkd (t 1)) := by rw [o6 1 (by decide), V50, V41]
  have V62 : S6 a 2 = nI f := by rw [o6 2 (by decide), V50, V42]
  have b6 := (nm_le t tn 3 (p4 + 1) 0).2.2.1 (by omega)
  generalize (nm t tn 3 (p4 + 1) 0).2 = p6 at P6 b6
  generalize (nm t tn 3 (p4 + 1) 0).1 = u at V63
  obtain ⟨c1, c2⟩ := c_sign (c := 42) T6 (by omega) P6 (by decide)
  by_cases q : p6 < tn ∧ t p6 = 42
  rotate_left
  · rw [if_neg q, c2 q, b2_some, if_pos (by decide)]
    exact Pr_fail A6 P6
  rw [if_pos q, c1 q, b2_some, if_neg (by decide), rd5]
  have B7 : Ag [a] [11] S6 (plc 11 S6 (p6 + 1)) := plc_ag _ _ _ (by decide)
  have A7 := A6.tr B7
  have T7 := TC_ag B7 (by omega) T6
  have P7 : plc 11 S6 (p6 + 1) 0 11 = nI (p6 + 1) := plc_at _ _ _
  have V70 : plc 11 S6 (p6 + 1) a = S6 a := plc_ne _ _ _ (by omega)
  generalize plc 11 S6 (p6 + 1) = S7 at A7 T7 P7 V70
  obtain ⟨S8, e8, B8, P8, V84, o8⟩ := c_number (c := 4) T7 (by omega) P7 ha hl (by decide)
  have A8 := A7.tr B8
  have T8 := TC_ag B8 (by omega) T7
  rw [e8, b2_some]
  by_cases q : dg t tn (p6 + 1) = true
  rotate_left
  · rw [nm_not q] at P8
    rw [if_neg q, Bool.eq_false_iff.mpr q, if_pos (by decide)]
    exact Pr_fail A8 P8
  rw [if_pos q, q, if_neg (by decide)]
  exact Pr_six ha hl A8 T8 ((nm_le t tn 3 (p6 + 1) 0).2.2.1 (by omega)) P8 (by rw [o8 0 (by decide), V70, V60]) (by rw [o8 1 (by decide), V70, V61]) (by rw [o8 2 (by decide), V70, V62]) (by rw [o8 3 (by decide), V70, V63]) V84
