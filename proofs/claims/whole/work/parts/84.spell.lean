/-! the reference reads; spell -/
def TR (S : vS) (t : Nat → Nat) (tn : Nat) : Prop := S 0 0 = nI tn ∧ tn ≤ 16 ∧ ∀ j, j < tn → S 2 j = nI (t j) ∧ t j < 256
def AgN (N : Nat) (S S' : vS) : Prop := (∀ k j, k ≠ 0 → (3 ≤ k → k ≤ 8 → j ≠ N) → S' k j = S k j) ∧ ∀ j, j ≠ 1 → S' 0 j = S 0 j
theorem AgN.rf (N : Nat) (S : vS) : AgN N S S := ⟨fun _ _ _ _ => rfl, fun _ _ => rfl⟩
theorem AgN.tr {N : Nat} {S S1 S2 : vS} (h : AgN N S S1) (h2 : AgN N S1 S2) : AgN N S S2 := ⟨fun k j a c => (h2.1 k j a c).trans (h.1 k j a c), fun j a => (h2.2 j a).trans (h.2 j a)⟩
theorem AgN.p (N : Nat) (S : vS) (p : Nat) : AgN N S (plc 1 S p) := ⟨fun k j a _ => by rw [plc_ne _ _ _ a], fun j a => by unfold plc; rw [upk_eq, upd_k, if_neg a]⟩
theorem AgN.c (N : Nat) (S : vS) {k : Nat} (hk : 3 ≤ k ∧ k ≤ 8) (x : Int32) : AgN N S (upk S k (upd (S k) N x)) := ⟨fun k' j a c => by
  by_cases e : k' = k
  · subst e; rw [upk_eq, upd_k, if_neg (c hk.1 hk.2)]
  · rw [upk_ne _ _ e], fun j _ => by rw [upk_ne _ _ (by omega)]⟩
theorem TR_ag {N : Nat} {S S' : vS} {t : Nat → Nat} {tn : Nat} (h : AgN N S S') (hT : TR S t tn) : TR S' t tn :=
  ⟨by rw [h.2 0 (by decide)]; exact hT.1, hT.2.1, fun j hj => by rw [h.1 2 j (by decide) (fun q => by omega)]; exact hT.2.2 j hj⟩
theorem m1_lt (n : Nat) (h : n < 2 ^ 31) : (-1 : Int32) < nI n := by
  rw [Int32.lt_iff_toInt_lt, nI_toInt h]
  have : (-1 : Int32).toInt = -1 := by decide
  rw [this]; omega
def sgI (t : Nat → Nat) (tn p : Nat) : Int32 := if p < tn then nI (t p) else -1
theorem q_sgn {S : vS} {t : Nat → Nat} {tn p : Nat} (hT : TR S t tn) (hp : p ≤ tn) (h : S 0 1 = nI p) : f_X4_sign S = some (sgI t tn p) := by
  obtain ⟨t1, t2, t3⟩ := hT
  rw [f_X4_sign, t1, h, sgI]
  by_cases q : p < tn
  · rw [if_neg (nI_nl2 q (by omega)), if_pos (inb_n (by omega) (by omega)), nI_clamp (by omega), (t3 p q).1, if_pos q]
  · rw [if_pos ((nI_leI (by omega) (by omega)).mpr (by omega)), if_neg q]
theorem q_dig {S : vS} {t : Nat → Nat} {tn p : Nat} (ht : p < tn → t p < 256) : f_X4_isIn (sgI t tn p) (48 : Int32) (57 : Int32) S = some (rI (dg t tn p)) := by
  rw [sgI]
  by_cases q : p < tn
  · have hv := ht q
    rw [if_pos q, f_X4_isIn, show (48 : Int32) = nI 48 from rfl, show (57 : Int32) = nI 57 from rfl]
    by_cases h1 : t p < 48
    · rw [if_pos ((nI_ltI (by omega) (by omega)).mpr h1), show dg t tn p = false from decide_eq_false (by omega)]; rfl
    · rw [if_neg (fun q => h1 ((nI_ltI (by omega) (by omega)).mp q))]
      by_cases h2 : 57 < t p
      · rw [if_pos ((nI_ltI (by omega) (by omega)).mpr h2), show dg t tn p = false from decide_eq_false (by omega)]; rfl
      · rw [if_neg (fun q => h2 ((nI_ltI (by omega) (by omega)).mp q)), show dg t tn p = true from decide_eq_true (by omega)]; rfl
  · rw [if_neg q, show dg t tn p = false from decide_eq_false (by omega), f_X4_isIn, if_pos (by decide)]; rfl
theorem q_takes {S : vS} {t : Nat → Nat} {tn p c : Nat} (hT : TR S t tn) (hp : p ≤ tn) (h : S 0 1 = nI p) (hc : c < 256) : (p < tn ∧ t p = c → f_X4_takes (nI c) S = some (1, plc 1 S (p + 1))) ∧ (¬ (p < tn ∧ t p = c) → f_X4_takes (nI c) S = some (0, S)) := by
  have e : f_X4_takes (nI c) S = if sgI t tn p = nI c then some (1, plc 1 S (p + 1)) else some (0, S) := by
    rw [f_X4_takes, q_sgn hT hp h, b1_some, h, nI_1]
    rfl
  rw [e, sgI]
  by_cases q : p < tn
  · obtain ⟨t1, t2⟩ := hT.2.2 p q
    rw [if_pos q]
    exact ⟨fun hh => by rw [if_pos (by rw [hh.2])], fun hh => by rw [if_neg (fun g => hh ⟨q, (nI_eq (by omega) (by omega)).mp g⟩)]⟩
  · rw [if_neg q]
    refine ⟨fun hh => absurd hh.1 q, fun _ => ?_⟩
    rw [if_neg (fun g => by have := m1_lt c (by omega); rw [g] at this; exact absurd this (Int32.lt_irrefl))]
theorem q_nloop {t : Nat → Nat} {tn : Nat} : ∀ (k i p x : Nat), i + k = 3 → ∀ n (S : vS), k < n → TR S t tn → p ≤ tn → S 0 1 = nI p → f_X4_number_L20 n (nI x) (nI i) S = some (nI (nm t tn k p x).1, plc 1 S (nm t tn k p x).2) := by
  intro k
  induction k with
  | zero =>
    intro i p x hi n S hk hT hp h
    obtain ⟨n, rfl⟩ : ∃ q, n = q + 1 := ⟨n - 1, by omega⟩
    rw [f_X4_number_L20, L3, if_pos ((nI_leI (by omega) (by omega)).mpr (by omega)), nm]
    dsimp only
    rw [plc_same h]
  | succ k ih =>
    intro i p x hi n S hk hT hp h
    obtain ⟨n, rfl⟩ : ∃ q, n = q + 1 := ⟨n - 1, by omega⟩
    rw [f_X4_number_L20, L3, if_neg (nI_nl2 (by omega) (by omega)), q_sgn hT hp h, b1_some, q_dig (fun q => (hT.2.2 p q).2), b1_some]
    by_cases hd : dg t tn p = true
    · have h1 : p < tn ∧ 48 ≤ t p ∧ t p ≤ 57 := of_decide_eq_true hd
      rw [hd, if_neg (by decide), b1_some, nm, if_pos hd, sgI, if_pos h1.1]
      simp only [lt]
      have hx : (10 : Int32) * nI x + nI (t p) - 48 = nI (10 * x + (t p - 48)) := by
        have e : nI (10 * x + (t p - 48)) + nI 48 = nI 10 * nI x + nI (t p) := by
          rw [pk_mul, nI_add, nI_add]
          congr 1
          omega
        rw [show (48 : Int32) = nI 48 from rfl, L10, ← e]; grind
      rw [hx, h, nI_1, nI_1]
      have hr := ih (i + 1) (p + 1) (10 * x + (t p - 48)) (by omega) n (plc 1 S (p + 1)) (by omega) (TR_ag (AgN.p 0 _ _) hT) (by omega) (plc_at _ _ _)
      rw [plc_plc] at hr
      exact hr
    · rw [Bool.eq_false_iff.mpr hd, if_pos (by decide), nm, if_neg hd]
      dsimp only
      rw [plc_same h]
theorem q_number {S : vS} {t : Nat → Nat} {tn p : Nat} (hT : TR S t tn) (hp : p ≤ tn) (h : S 0 1 = nI p) : (dg t tn p = true → f_X4_number S = some (nI (nm t tn 3 p 0).1, plc 1 S (nm t tn 3 p 0).2)) ∧ (¬ dg t tn p = true → f_X4_number S = some (-1, S)) := by
  rw [f_X4_number, q_sgn hT hp h, b1_some, q_dig (fun q => (hT.2.2 p q).2), b1_some]
  refine ⟨fun hd => ?_, fun hd => ?_⟩
  · rw [hd, if_neg (by decide), L0, q_nloop 3 0 p 0 (by omega) FU S (by unfold FU; omega) hT hp h, b2_some]
  · rw [Bool.eq_false_iff.mpr hd, if_pos (by decide)]
def wkI (s : Int32) : Int32 := if s = 115 then 0 else if s = 102 then 1 else if s = 97 then 2 else if s = 98 then 3 else -1
theorem wkI_n : ∀ v, v < 256 → wkI (nI v) = if wkd v < 4 then nI (wkd v) else -1 := by decide +kernel
theorem lnd_n : ∀ v, v < 256 → (lnd v < 6 → nI v - 48 = nI (lnd v)) ∧ (¬ lnd v < 6 → (nI v - 48 < 0 ∨ 6 ≤ nI v - 48)) := by decide +kernel
def PrN (N : Nat) (S0 : vS) (o : Option (Int32 × vS)) (r : vR) : Prop := ∃ S', o = some (rI r.1, S') ∧ AgN N S0 S' ∧ S' 0 1 = nI r.2.1 ∧ (r.1 = true → ∀ c, c < 6 → S' (3 + c) N = nI (r.2.2 c))
theorem PrN_fail {N p : Nat} {S0 S : vS} (hA : AgN N S0 S) (h : S 0 1 = nI p) : PrN N S0 (some (0, S)) (rdF p) := ⟨S, rfl, hA, h, fun q => absurd (show false = true from q) (by decide)⟩
theorem PrN_end {t : Nat → Nat} {tn N p : Nat} {S0 S : vS} (hA : AgN N S0 S) (hT : TR S t tn) (hp : p ≤ tn) (h : S 0 1 = nI p) {v : Nat → Nat} (hv : ∀ c, c < 6 → S (3 + c) N = nI (v c)) : PrN N S0 (if (S 0 1) = (S 0 0) then some ((1 : Int32), S) else some ((0 : Int32), S)) (rd7 tn p v) := by
  have ht := hT.2.1
  rw [h, hT.1, rd7]
  by_cases e : p = tn
  · rw [if_pos e, if_pos (by rw [e])]
    exact ⟨S, rfl, hA, h, fun _ => hv⟩
  · rw [if_neg e, if_neg (fun q => e ((nI_eq (by omega) (by omega)).mp q))]
    exact PrN_fail hA h
theorem q_six {t : Nat → Nat} {tn N p l w f u y : Nat} {S0 S : vS} (hN : N < 20) (hA : AgN N S0 S) (hT : TR S t tn) (hp : p ≤ tn) (h : S 0 1 = nI p) (h0 : S 3 N = nI l) (h1 : S 4 N = nI w) (h2 : S 5 N = nI f) (h3 : S 6 N = nI u) (h4 : S 7 N = nI y) : PrN N S0 (b2 (f_X4_takes (33 : Int32) S) fun r49 S48 => if r49 = 0 then lt (upk S48 8 (upd (S48 8) N (1 : Int32))) fun S51 => if (S51 0 1) = (S51 0 0) then some ((1 : Int32), S51) else some ((0 : Int32), S51) else lt (upk S48 8 (upd (S48 8) N (0 : Int32))) fun S53 => if (S53 0 1) = (S53 0 0) then some ((1 : Int32), S53) else some ((0 : Int32), S53)) (rd6 t tn p l w f u y) := by
  have gen : ∀ (d q : Nat) (S1 : vS), AgN N S S1 → q ≤ tn → S1 0 1 = nI q → (∀ k, k ≠ 0 → S1 k = S k) → PrN N S0 (lt (upk S1 8 (upd (S1 8) N (nI d))) fun S51 => if (S51 0 1) = (S51 0 0) then some ((1 : Int32), S51) else some ((0 : Int32), S51)) (rd7 tn q (vs7 l w f u y d)) := by
    intro d q S1 hB hq hq1 ha1
    have hC : AgN N S1 (upk S1 8 (upd (S1 8) N (nI d))) := AgN.c N S1 (by decide) _
    simp only [lt]
    refine PrN_end (t := t) ((hA.tr hB).tr hC) (TR_ag hC (TR_ag hB hT)) hq (by rw [upk_ne _ _ (by decide), hq1]) ?_
    intro c hc
    rcases (show c = 0 ∨ c = 1 ∨ c = 2 ∨ c = 3 ∨ c = 4 ∨ c = 5 by omega) with rfl | rfl | rfl | rfl | rfl | rfl
    · rw [upk_ne _ _ (by decide), ha1 _ (by decide)]; exact h0
    · rw [upk_ne _ _ (by decide), ha1 _ (by decide)]; exact h1
    · rw [upk_ne _ _ (by decide), ha1 _ (by decide)]; exact h2
    · rw [upk_ne _ _ (by decide), ha1 _ (by decide)]; exact h3
    · rw [upk_ne _ _ (by decide), ha1 _ (by decide)]; exact h4
    · rw [upk_eq, upd_k, if_pos rfl]; rfl
  obtain ⟨g1, g2⟩ := q_takes (c := 33) hT hp h (by decide)
  rw [show (33 : Int32) = nI 33 from rfl, rd6]
  by_cases q : p < tn ∧ t p = 33
  · rw [if_pos q, g1 q, b2_some, if_neg (by decide)]
    exact gen 0 (p + 1) _ (AgN.p _ _ _) (by omega) (plc_at _ _ _) (fun k hk => plc_ne _ _ _ hk)
  · rw [if_neg q, g2 q, b2_some, if_pos (by decide)]
    exact gen 1 p S (AgN.rf _ _) hp h (fun k hk => rfl)
