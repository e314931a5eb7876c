/-! image, on -/
theorem c_kb10 : ∀ (k s : Nat), s + k = 20 → ∀ n (S : vS), k < n → ∃ S', f_X0_copyFrom_kb_L10 n (nI s) S = some S' ∧ (∀ j, (j < 66 + s ∨ 66 + 20 ≤ j) → S' j = S j) ∧ ∀ i c, s ≤ i → i < 20 → c < 7 → S' (66 + i) c = S (34 + i) c := by
  intro k
  induction k with
  | zero =>
    intro s hs n S hk
    obtain ⟨n, rfl⟩ : ∃ q, n = q + 1 := ⟨n - 1, by omega⟩
    rw [f_X0_copyFrom_kb_L10, L20, if_pos ((nI_leI (by omega) (by omega)).mpr (by omega))]
    exact ⟨S, rfl, fun j _ => rfl, fun i c h1 h2 _ => by omega⟩
  | succ k ih =>
    intro s hs n S hk
    obtain ⟨n, rfl⟩ : ∃ q, n = q + 1 := ⟨n - 1, by omega⟩
    have z0 : (0 : Int32).toNatClampNeg = 0 := rfl
    have z7 : (7 : Int32).toNatClampNeg = 7 := rfl
    rw [f_X0_copyFrom_kb_L10, L20, if_neg (fun q => absurd ((nI_leI (by omega) (by omega)).mp q) (by omega)), if_pos (inb_n (by omega) (by omega)), nI_clamp (by omega), z0, z7, if_pos ⟨by decide, by rw [alen_34 (by omega)]; decide, by rw [alen_66 (by omega)]; decide⟩, nI_1]
    simp only [lt]
    obtain ⟨S', e, a, g⟩ := ih (s + 1) (by omega) n (upk S (66 + s) (va_cpy (S (34 + s)) (S (66 + s)) 0 0 7)) (by omega)
    refine ⟨S', e, fun j h => ?_, fun i c h1 h2 h3 => ?_⟩
    · rw [a j (by omega), upk_ne _ _ (by omega)]
    · by_cases hi : i = s
      · subst hi
        rw [a (66 + i) (by omega), upk_eq, va_cpy, if_pos (by omega)]
        congr 1
        omega
      · rw [g i c (by omega) h2 h3, upk_ne _ _ (by omega)]
theorem c_kb43 : ∀ (k s : Nat), s + k = 6 → ∀ n (S : vS), k < n → ∃ S', f_X0_copyFrom_kb_L43 n (nI s) S = some S' ∧ (∀ j, ((j < 86 + s ∨ 86 + 6 ≤ j) ∧ (j < 92 + s ∨ 92 + 6 ≤ j)) → S' j = S j) ∧ (∀ i c, s ≤ i → i < 6 → c < 9 → S' (86 + i) c = S (54 + i) c) ∧ ∀ i c, s ≤ i → i < 6 → c < 6 → S' (92 + i) c = S (60 + i) c := by
  intro k
  induction k with
  | zero =>
    intro s hs n S hk
    obtain ⟨n, rfl⟩ : ∃ q, n = q + 1 := ⟨n - 1, by omega⟩
    rw [f_X0_copyFrom_kb_L43, L6, if_pos ((nI_leI (by omega) (by omega)).mpr (by omega))]
    exact ⟨S, rfl, fun j _ => rfl, fun i c h1 h2 _ => by omega, fun i c h1 h2 _ => by omega⟩
  | succ k ih =>
    intro s hs n S hk
    obtain ⟨n, rfl⟩ : ∃ q, n = q + 1 := ⟨n - 1, by omega⟩
    have z0 : (0 : Int32).toNatClampNeg = 0 := rfl
    have z9 : (9 : Int32).toNatClampNeg = 9 := rfl
    have z6 : (6 : Int32).toNatClampNeg = 6 := rfl
    rw [f_X0_copyFrom_kb_L43, if_neg (show ¬ (6 : Int32) ≤ nI s from fun q => absurd ((nI_leI (a := 6) (by omega) (by omega)).mp q) (by omega)), if_pos (inb_n (by omega) (by omega)), nI_clamp (by omega), z0, z9, z6, if_pos ⟨by decide, by rw [alen_54 (by omega)]; decide, by rw [alen_86 (by omega)]; decide⟩]
    simp only [lt]
    rw [if_pos ⟨by decide, by rw [alen_60 (by omega)]; decide, by rw [alen_92 (by omega)]; decide⟩, nI_1]
    obtain ⟨S', e, a, g, g2⟩ := ih (s + 1) (by omega) n (upk (upk S (86 + s) (va_cpy (S (54 + s)) (S (86 + s)) 0 0 9)) (92 + s) (va_cpy (upk S (86 + s) (va_cpy (S (54 + s)) (S (86 + s)) 0 0 9) (60 + s)) (upk S (86 + s) (va_cpy (S (54 + s)) (S (86 + s)) 0 0 9) (92 + s)) 0 0 6)) (by omega)
    refine ⟨S', e, fun j h => ?_, fun i c h1 h2 h3 => ?_, fun i c h1 h2 h3 => ?_⟩
    · rw [a j (by omega), upk_ne _ _ (by omega), upk_ne _ _ (by omega)]
    · by_cases hi : i = s
      · subst hi
        rw [a (86 + i) (by omega), upk_ne _ _ (by omega), upk_eq, va_cpy, if_pos (by omega)]
        congr 1
        omega
      · rw [g i c (by omega) h2 h3, upk_ne _ _ (by omega), upk_ne _ _ (by omega)]
    · by_cases hi : i = s
      · subst hi
        rw [a (92 + i) (by omega), upk_eq, va_cpy, if_pos (by omega), upk_ne _ _ (by omega)]
        congr 1
        omega
      · rw [g2 i c (by omega) h2 h3, upk_ne _ _ (by omega), upk_ne _ _ (by omega)]
theorem c_kb {S : vS} {b : Bk} (hn : bN b ≤ 20) (hX : RXb S b) : ∃ S', f_X0_copyFrom_kb S = some S' ∧ Ag (24 :: List.range' 66 32) [13] S S' ∧ RXk S' b := by
  have z0 : (0 : Int32).toNatClampNeg = 0 := rfl
  have z6 : (6 : Int32).toNatClampNeg = 6 := rfl
  have a1 : Ag (24 :: List.range' 66 32) [13] S (upk S 0 (upd (S 0) 13 (S 0 12))) := Ag.j _ (by decide)
  generalize hS1 : upk S 0 (upd (S 0) 13 (S 0 12)) = S1 at a1
  obtain ⟨S2, e2, a2, g2⟩ := c_kb10 20 0 (by omega) FU S1 (by unfold FU; omega)
  obtain ⟨S3, e3, a3, g3, h3⟩ := c_kb43 6 0 (by omega) FU S2 (by unfold FU; omega)
  refine ⟨upk S3 24 (va_cpy (S3 23) (S3 24) 0 0 6), ?_, ?_, ?_⟩
  · rw [f_X0_copyFrom_kb]
    simp only [lt, hS1]
    rw [L0, e2, b1_some, e3, b1_some, ← L0, z0, z6, if_pos ⟨by decide, by decide, by decide⟩]
  · refine a1.tr ⟨fun k h0 hk => ?_, fun j hj => ?_⟩
    · have h9 : k ≠ 24 ∧ (k < 66 ∨ 66 + 32 ≤ k) := by
        simp only [List.mem_cons, List.mem_range'_1] at hk
        omega
      rw [upk_ne _ _ h9.1, a3 k (by omega), a2 k (by omega)]
    · rw [upk_ne _ _ (by decide), a3 0 (by omega), a2 0 (by omega)]
  · obtain ⟨x0, x1, x2, x3, x4⟩ := hX
    refine ⟨?_, fun s c hs hc => ?_, fun l j hl hj => ?_, fun l hl => ?_, fun x y hx hy => ?_⟩
    · rw [upk_ne _ _ (by decide), a3 0 (by omega), a2 0 (by omega), ← hS1, upk_eq, upd_k, if_pos rfl, x0]
    · rw [upk_ne _ _ (by omega), a3 (66 + s) (by omega), g2 s c (by omega) (by omega) hc, ← hS1, upk_ne _ _ (by omega), x1 s c hs hc]
    · rw [upk_ne _ _ (by omega), g3 l j (by omega) hl hj, a2 (54 + l) (by omega), ← hS1, upk_ne _ _ (by omega), x2 l j hl hj]
    · rw [upk_eq, va_cpy, if_pos (by omega), show 0 + (l - 0) = l by omega, a3 23 (by omega), a2 23 (by omega), ← hS1, upk_ne _ _ (by decide), x3 l hl]
    · rw [upk_ne _ _ (by omega), h3 x y (by omega) hx hy, a2 (60 + x) (by omega), ← hS1, upk_ne _ _ (by omega), x4 x y hx hy]
theorem c_bk10 : ∀ (k s : Nat), s + k = 20 → ∀ n (S : vS), k < n → ∃ S', f_X0_copyFrom_bk_L10 n (nI s) S = some S' ∧ (∀ j, (j < 34 + s ∨ 34 + 20 ≤ j) → S' j = S j) ∧ ∀ i c, s ≤ i → i < 20 → c < 7 → S' (34 + i) c = S (66 + i) c := by
  intro k
  induction k with
  | zero =>
    intro s hs n S hk
    obtain ⟨n, rfl⟩ : ∃ q, n = q + 1 := ⟨n - 1, by omega⟩
    rw [f_X0_copyFrom_bk_L10, L20, if_pos ((nI_leI (by omega) (by omega)).mpr (by omega))]
    exact ⟨S, rfl, fun j _ => rfl, fun i c h1 h2 _ => by omega⟩
  | succ k ih =>
    intro s hs n S hk
    obtain ⟨n, rfl⟩ : ∃ q, n = q + 1 := ⟨n - 1, by omega⟩
    have z0 : (0 : Int32).toNatClampNeg = 0 := rfl
    have z7 : (7 : Int32).toNatClampNeg = 7 := rfl
    rw [f_X0_copyFrom_bk_L10, L20, if_neg (fun q => absurd ((nI_leI (by omega) (by omega)).mp q) (by omega)), if_pos (inb_n (by omega) (by omega)), nI_clamp (by omega), z0, z7, if_pos ⟨by decide, by rw [alen_66 (by omega)]; decide, by rw [alen_34 (by omega)]; decide⟩, nI_1]
    simp only [lt]
    obtain ⟨S', e, a, g⟩ := ih (s + 1) (by omega) n (upk S (34 + s) (va_cpy (S (66 + s)) (S (34 + s)) 0 0 7)) (by omega)
    refine ⟨S', e, fun j h => ?_, fun i c h1 h2 h3 => ?_⟩
    · rw [a j (by omega), upk_ne _ _ (by omega)]
    · by_cases hi : i = s
      · subst hi
        rw [a (34 + i) (by omega), upk_eq, va_cpy, if_pos (by omega)]
        congr 1
        omega
      · rw [g i c (by omega) h2 h3, upk_ne _ _ (by omega)]
theorem c_bk43 : ∀ (k s : Nat), s + k = 6 → ∀ n (S : vS), k < n → ∃ S', f_X0_copyFrom_bk_L43 n (nI s) S = some S' ∧ (∀ j, ((j < 54 + s ∨ 54 + 6 ≤ j) ∧ (j < 60 + s ∨ 60 + 6 ≤ j)) → S' j = S j) ∧ (∀ i c, s ≤ i → i < 6 → c < 9 → S' (54 + i) c = S (86 + i) c) ∧ ∀ i c, s ≤ i → i < 6 → c < 6 → S' (60 + i) c = S (92 + i) c := by
  intro k
  induction k with
  | zero =>
    intro s hs n S hk
    obtain ⟨n, rfl⟩ : ∃ q, n = q + 1 := ⟨n - 1, by omega⟩
    rw [f_X0_copyFrom_bk_L43, L6, if_pos ((nI_leI (by omega) (by omega)).mpr (by omega))]
    exact ⟨S, rfl, fun j _ => rfl, fun i c h1 h2 _ => by omega, fun i c h1 h2 _ => by omega⟩
  | succ k ih =>
    intro s hs n S hk
    obtain ⟨n, rfl⟩ : ∃ q, n = q + 1 := ⟨n - 1, by omega⟩
    have z0 : (0 : Int32).toNatClampNeg = 0 := rfl
    have z9 : (9 : Int32).toNatClampNeg = 9 := rfl
    have z6 : (6 : Int32).toNatClampNeg = 6 := rfl
    rw [f_X0_copyFrom_bk_L43, if_neg (show ¬ (6 : Int32) ≤ nI s from fun q => absurd ((nI_leI (a := 6) (by omega) (by omega)).mp q) (by omega)), if_pos (inb_n (by omega) (by omega)), nI_clamp (by omega), z0, z9, z6, if_pos ⟨by decide, by rw [alen_86 (by omega)]; decide, by rw [alen_54 (by omega)]; decide⟩]
    simp only [lt]
    rw [if_pos ⟨by decide, by rw [alen_92 (by omega)]; decide, by rw [alen_60 (by omega)]; decide⟩, nI_1]
    obtain ⟨S', e, a, g, g2⟩ := ih (s + 1) (by omega) n (upk (upk S (54 + s) (va_cpy (S (86 + s)) (S (54 + s)) 0 0 9)) (60 + s) (va_cpy (upk S (54 + s) (va_cpy (S (86 + s)) (S (54 + s)) 0 0 9) (92 + s)) (upk S (54 + s) (va_cpy (S (86 + s)) (S (54 + s)) 0 0 9) (60 + s)) 0 0 6)) (by omega)
    refine ⟨S', e, fun j h => ?_, fun i c h1 h2 h3 => ?_, fun i c h1 h2 h3 => ?_⟩
    · rw [a j (by omega), upk_ne _ _ (by omega), upk_ne _ _ (by omega)]
    · by_cases hi : i = s
      · subst hi
        rw [a (54 + i) (by omega), upk_ne _ _ (by omega), upk_eq, va_cpy, if_pos (by omega)]
        congr 1
        omega
      · rw [g i c (by omega) h2 h3, upk_ne _ _ (by omega), upk_ne _ _ (by omega)]
    · by_cases hi : i = s
      · subst hi
        rw [a (60 + i) (by omega), upk_eq, va_cpy, if_pos (by omega), upk_ne _ _ (by omega)]
        congr 1
        omega
      · rw [g2 i c (by omega) h2 h3, upk_ne _ _ (by omega), upk_ne _ _ (by omega)]
theorem c_bk {S : vS} {b : Bk} (hn : bN b ≤ 20) (hX : RXk S b) : ∃ S', f_X0_copyFrom_bk S = some S' ∧ Ag (23 :: List.range' 34 32) [12] S S' ∧ RXb S' b := by
  have z0 : (0 : Int32).toNatClampNeg = 0 := rfl
  have z6 : (6 : Int32).toNatClampNeg = 6 := rfl
  have a1 : Ag (23 :: List.range' 34 32) [12] S (upk S 0 (upd (S 0) 12 (S 0 13))) := Ag.j _ (by decide)
  generalize hS1 : upk S 0 (upd (S 0) 12 (S 0 13)) = S1 at a1
  obtain ⟨S2, e2, a2, g2⟩ := c_bk10 20 0 (by omega) FU S1 (by unfold FU; omega)
  obtain ⟨S3, e3, a3, g3, h3⟩ := c_bk43 6 0 (by omega) FU S2 (by unfold FU; omega)
  refine ⟨upk S3 23 (va_cpy (S3 24) (S3 23) 0 0 6), ?_, ?_, ?_⟩
  · rw [f_X0_copyFrom_bk]
    simp only [lt, hS1]
    rw [L0, e2, b1_some, e3, b1_some, ← L0, z0, z6, if_pos ⟨by decide, by decide, by decide⟩]
  · refine a1.tr ⟨fun k h0 hk => ?_, fun j hj => ?_⟩
    · have h9 : k ≠ 23 ∧ (k < 34 ∨ 34 + 32 ≤ k) := by
        simp only [List.mem_cons, List.mem_range'_1] at hk
        omega
      rw [upk_ne _ _ h9.1, a3 k (by omega), a2 k (by omega)]
    · rw [upk_ne _ _ (by decide), a3 0 (by omega), a2 0 (by omega)]
  · obtain ⟨x0, x1, x2, x3, x4⟩ := hX
    refine ⟨?_, fun s c hs hc => ?_, fun l j hl hj => ?_, fun l hl => ?_, fun x y hx hy => ?_⟩
    · rw [upk_ne _ _ (by decide), a3 0 (by omega), a2 0 (by omega), ← hS1, upk_eq, upd_k, if_pos rfl, x0]
    · rw [upk_ne _ _ (by omega), a3 (34 + s) (by omega), g2 s c (by omega) (by omega) hc, ← hS1, upk_ne _ _ (by omega), x1 s c hs hc]
    · rw [upk_ne _ _ (by omega), g3 l j (by omega) hl hj, a2 (86 + l) (by omega), ← hS1, upk_ne _ _ (by omega), x2 l j hl hj]
    · rw [upk_eq, va_cpy, if_pos (by omega), show 0 + (l - 0) = l by omega, a3 24 (by omega), a2 24 (by omega), ← hS1, upk_ne _ _ (by decide), x3 l hl]
    · rw [upk_ne _ _ (by omega), h3 x y (by omega) hx hy, a2 (92 + x) (by omega), ← hS1, upk_ne _ _ (by omega), x4 x y hx hy]
def off (a : Nat) : Nat := ([0, 0, 0, 0, 21, 42, 63, 84, 105, 126, 147, 201, 207, 243] : List Nat).getD a 0
theorem off_ok : ∀ a, a < 13 → 3 ≤ a → off (a + 1) = off a + alen a ∧ alen a ≤ 54 ∧ off a + alen a ≤ 243 ∧ ∀ c, c < a → 3 ≤ c → off c + alen c ≤ off a := by decide
theorem c_put {a p : Nat} (ha : 1 ≤ a ∧ a ≤ 97) (h21 : a ≠ 21) (hl : alen a ≤ 54) (hp : p + alen a ≤ 299) : ∀ (k i : Nat), i + k = alen a → ∀ n (S : vS), k < n → S 0 7 = 1 → S 0 8 = nI (p + i) → ∃ S', f_X4_passes_L2 n a (nI i) S = some S' ∧ Ag [21] [8] S S' ∧ S' 0 8 = nI (p + alen a) ∧ (∀ j, i ≤ j → j < alen a → S' 21 (p + j) = S a j) ∧ ∀ j, j < p + i → S' 21 j = S 21 j := by
  intro k
  induction k with
  | zero =>
    intro i hi n S hk h7 h8
    obtain ⟨n, rfl⟩ : ∃ q, n = q + 1 := ⟨n - 1, by omega⟩
    rw [f_X4_passes_L2, if_pos ha, if_pos ((nI_leI (by omega) (by omega)).mpr (by omega))]
    exact ⟨S, rfl, Ag.rf _ _ _, by rw [h8]; congr 1; omega, fun j h1 h2 => by omega, fun j h => rfl⟩
  | succ k ih =>
    intro i hi n S hk h7 h8
    obtain ⟨n, rfl⟩ : ∃ q, n = q + 1 := ⟨n - 1, by omega⟩
    have hA : Ag [21] [8] S (upk (upk S 21 (upd (S 21) (p + i) (S a i))) 0 (upd ((upk S 21 (upd (S 21) (p + i) (S a i))) 0) 8 (nI (p + (i + 1))))) := (Ag.k _ (by decide) (by decide)).tr (Ag.j _ (by decide))
    have e0 : (upk S 21 (upd (S 21) (p + i) (S a i))) 0 = S 0 := upk_ne _ _ (by decide)
    obtain ⟨S', e, a', r8, g, o⟩ := ih (i + 1) (by omega) n (upk (upk S 21 (upd (S 21) (p + i) (S a i))) 0 (upd ((upk S 21 (upd (S 21) (p + i) (S a i))) 0) 8 (nI (p + (i + 1))))) (by omega) (by rw [hA.2 7 (by decide)]; exact h7) (by rw [upk_eq, upd_k, if_pos rfl])
    refine ⟨S', ?_, hA.tr a', r8, fun j h1 h2 => ?_, fun j h => ?_⟩
    · rw [f_X4_passes_L2, if_pos ha, if_neg (fun q => absurd ((nI_leI (by omega) (by omega)).mp q) (by omega)), h7, if_neg (by decide), if_pos (inb_n (by omega) (by omega)), h8, if_pos (inb_n (by omega) (by omega)), nI_clamp (by omega), nI_clamp (by omega), nI_1]
      simp only [lt]
      rw [e0] at e
      rw [e0, h8, nI_1]
      exact e
    · by_cases hj : j = i
      · subst hj
        rw [o (p + j) (by omega), upk_ne _ _ (by decide), upk_eq, upd_k, if_pos rfl]
      · rw [g j (by omega) h2, upk_ne _ _ (by omega), upk_ne _ _ h21]
    · rw [o j (by omega), upk_ne _ _ (by decide), upk_eq, upd_k, if_neg (by omega)]
def IPut (S0 : vS) (a : Nat) (S : vS) : Prop := Ag [21] [8] S0 S ∧ S 0 8 = nI (off a) ∧ ∀ c s, 3 ≤ c → c < a → s < alen c → S 21 (off c + s) = S0 c s
theorem c_put1 {S0 S : vS} {a : Nat} (h3 : 3 ≤ a) (ha : a < 13) (h7 : S0 0 7 = 1) (hI : IPut S0 a S) : ∃ S', f_X4_passes a S = some S' ∧ IPut S0 (a + 1) S' := by
  obtain ⟨o1, o2, o3, o4⟩ := off_ok a ha h3
  obtain ⟨i1, i2, i3⟩ := hI
  obtain ⟨S', e, a', r8, g, o⟩ := c_put (a := a) (p := off a) (by omega) (by omega) o2 (by omega) (alen a) 0 (by omega) FU S (by unfold FU; omega) (by rw [i1.2 7 (by decide)]; exact h7) (by rw [i2]; rfl)
  refine ⟨S', by rw [f_X4_passes, L0, e, b1_some], i1.tr a', by rw [r8, o1], fun c s hc h hs => ?_⟩
  by_cases hca : c = a
  · subst hca
    rw [g s (by omega) hs, i1.1 c (by omega) (by simp; omega)]
  · have := o4 c (by omega) hc
    rw [o (off c + s) (by omega), i3 c s hc (by omega) hs]
theorem c_putAll {S : vS} {x : Nat} (h7 : S 0 7 = 1) (h2 : S 0 2 = nI x) : ∃ S', f_X4_passesAll S = some S' ∧ Ag [21] [8] S S' ∧ (∀ c s, 3 ≤ c → c < 13 → s < alen c → S' 21 (off c + s) = S c s) ∧ S' 21 243 = nI x := by
  have hA : Ag [21] [8] S (upk S 0 (upd (S 0) 8 0)) := Ag.j _ (by decide)
  have i3 : IPut S 3 (upk S 0 (upd (S 0) 8 0)) := ⟨hA, by rw [upk_eq, upd_k, if_pos rfl]; rfl, fun c s h1 h2 => by omega⟩
  obtain ⟨S4, e3, i4⟩ := c_put1 (a := 3) (by decide) (by decide) h7 i3
  obtain ⟨S5, e4, i5⟩ := c_put1 (a := 4) (by decide) (by decide) h7 i4
  obtain ⟨S6, e5, i6⟩ := c_put1 (a := 5) (by decide) (by decide) h7 i5
  obtain ⟨S7, e6, i7⟩ := c_put1 (a := 6) (by decide) (by decide) h7 i6
  obtain ⟨S8, e7, i8⟩ := c_put1 (a := 7) (by decide) (by decide) h7 i7
  obtain ⟨S9, e8, i9⟩ := c_put1 (a := 8) (by decide) (by decide) h7 i8
  obtain ⟨S10, e9, i10⟩ := c_put1 (a := 9) (by decide) (by decide) h7 i9
  obtain ⟨S11, e10, i11⟩ := c_put1 (a := 10) (by decide) (by decide) h7 i10
  obtain ⟨S12, e11, i12⟩ := c_put1 (a := 11) (by decide) (by decide) h7 i11
  obtain ⟨S13, e12, i13⟩ := c_put1 (a := 12) (by decide) (by decide) h7 i12
  refine ⟨upk S13 21 (upd (S13 21) 243 (S13 0 2)), ?_, i13.1.tr (Ag.k _ (by decide) (by decide)), fun c s h1 h2 h3 => ?_, ?_⟩
  · rw [f_X4_passesAll]
    simp only [lt]
    rw [e3, b1_some, e4, b1_some, e5, b1_some, e6, b1_some, e7, b1_some, e8, b1_some, e9, b1_some, e10, b1_some, e11, b1_some, e12, b1_some, i13.1.2 7 (by decide), h7, if_neg (by decide), i13.2.1, if_pos (by decide)]
    rfl
  · have := off_ok c h2 h1
    rw [upk_eq, upd_k, if_neg (by omega), i13.2.2 c s h1 h2 h3]
  · rw [upk_eq, upd_k, if_pos rfl, i13.1.2 2 (by decide), h2]
theorem c_take {a p : Nat} (ha : 1 ≤ a ∧ a ≤ 97) (h21 : a ≠ 21) (hl : alen a ≤ 54) (hp : p + alen a ≤ 299) : ∀ (k i : Nat), i + k = alen a → ∀ n (S : vS), k < n → S 0 7 = 0 → S 0 8 = nI (p + i) → ∃ S', f_X4_passes_L2 n a (nI i) S = some S' ∧ Ag [a] [8] S S' ∧ S' 0 8 = nI (p + alen a) ∧ (∀ j, i ≤ j → j < alen a → S' a j = S 21 (p + j)) ∧ ∀ j, j < i → S' a j = S a j := by
  intro k
  induction k with
  | zero =>
    intro i hi n S hk h7 h8
    obtain ⟨n, rfl⟩ : ∃ q, n = q + 1 := ⟨n - 1, by omega⟩
    rw [f_X4_passes_L2, if_pos ha, if_pos ((nI_leI (by omega) (by omega)).mpr (by omega))]
    exact ⟨S, rfl, Ag.rf _ _ _, by rw [h8]; congr 1; omega, fun j h1 h2 => by omega, fun j h => rfl⟩
  | succ k ih =>
    intro i hi n S hk h7 h8
    obtain ⟨n, rfl⟩ : ∃ q, n = q + 1 := ⟨n - 1, by omega⟩
    have hA : Ag [a] [8] S (upk (upk S a (upd (S a) i (S 21 (p + i)))) 0 (upd ((upk S a (upd (S a) i (S 21 (p + i)))) 0) 8 (nI (p + (i + 1))))) := (Ag.k _ List.mem_cons_self (by omega)).tr (Ag.j _ (by decide))
    have e0 : (upk S a (upd (S a) i (S 21 (p + i)))) 0 = S 0 := upk_ne _ _ (by omega)
    obtain ⟨S', e, a', r8, g, o⟩ := ih (i + 1) (by omega) n (upk (upk S a (upd (S a) i (S 21 (p + i)))) 0 (upd ((upk S a (upd (S a) i (S 21 (p + i)))) 0) 8 (nI (p + (i + 1))))) (by omega) (by rw [hA.2 7 (by decide)]; exact h7) (by rw [upk_eq, upd_k, if_pos rfl])
    refine ⟨S', ?_, hA.tr a', r8, fun j h1 h2 => ?_, fun j h => ?_⟩
    · rw [f_X4_passes_L2, if_pos ha, if_neg (fun q => absurd ((nI_leI (by omega) (by omega)).mp q) (by omega)), h7, if_pos rfl, h8, if_pos (inb_n (by omega) (by omega)), if_pos (inb_n (by omega) (by omega)), nI_clamp (by omega), nI_clamp (by omega), nI_1]
      simp only [lt]
      rw [e0] at e
      rw [e0, h8, nI_1]
      exact e
    · by_cases hj : j = i
      · subst hj
        rw [o j (by omega), upk_ne _ _ (by omega), upk_eq, upd_k, if_pos rfl]
      · rw [g j (by omega) h2, upk_ne _ _ (by decide), upk_ne _ _ (by omega)]
    · rw [o j (by omega), upk_ne _ _ (by omega), upk_eq, upd_k, if_neg (by omega)]
abbrev bkL : List Nat := [3, 4, 5, 6, 7, 8, 9, 10, 11, 12]
theorem bkL_in : ∀ a, a < 13 → 3 ≤ a → a ∈ bkL := by decide
def ITake (S0 : vS) (a : Nat) (S : vS) : Prop := Ag bkL [8] S0 S ∧ S 0 8 = nI (off a) ∧ ∀ c s, 3 ≤ c → c < a → s < alen c → S c s = S0 21 (off c + s)
theorem c_take1 {S0 S : vS} {a : Nat} (h3 : 3 ≤ a) (ha : a < 13) (h7 : S0 0 7 = 0) (hI : ITake S0 a S) : ∃ S', f_X4_passes a S = some S' ∧ ITake S0 (a + 1) S' := by
  obtain ⟨o1, o2, o3, o4⟩ := off_ok a ha h3
  obtain ⟨i1, i2, i3⟩ := hI
  obtain ⟨S', e, a', r8, g, o⟩ := c_take (a := a) (p := off a) (by omega) (by omega) o2 (by omega) (alen a) 0 (by omega) FU S (by unfold FU; omega) (by rw [i1.2 7 (by decide)]; exact h7) (by rw [i2]; rfl)
  refine ⟨S', by rw [f_X4_passes, L0, e, b1_some], i1.tr (a'.mono (fun k hk => by rw [List.mem_singleton] at hk; subst hk; exact bkL_in _ ha h3) (fun j hj => hj)), by rw [r8, o1], fun c s hc h hs => ?_⟩
  by_cases hca : c = a
  · subst hca
    rw [g s (by omega) hs, i1.1 21 (by decide) (by decide)]
  · rw [a'.1 c (by omega) (by simpa using hca), i3 c s hc (by omega) hs]
theorem c_takeAll {S : vS} (h7 : S 0 7 = 0) : ∃ S', f_X4_passesAll S = some S' ∧ Ag bkL [8, 2] S S' ∧ (∀ c s, 3 ≤ c → c < 13 → s < alen c → S' c s = S 21 (off c + s)) ∧ S' 0 2 = S 21 243 := by
  have hA : Ag bkL [8] S (upk S 0 (upd (S 0) 8 0)) := Ag.j _ (by decide)
  have i3 : ITake S 3 (upk S 0 (upd (S 0) 8 0)) := ⟨hA, by rw [upk_eq, upd_k, if_pos rfl]; rfl, fun c s h1 h2 => by omega⟩
  obtain ⟨S4, e3, i4⟩ := c_take1 (a := 3) (by decide) (by decide) h7 i3
  obtain ⟨S5, e4, i5⟩ := c_take1 (a := 4) (by decide) (by decide) h7 i4
  obtain ⟨S6, e5, i6⟩ := c_take1 (a := 5) (by decide) (by decide) h7 i5
  obtain ⟨S7, e6, i7⟩ := c_take1 (a := 6) (by decide) (by decide) h7 i6
  obtain ⟨S8, e7, i8⟩ := c_take1 (a := 7) (by decide) (by decide) h7 i7
  obtain ⟨S9, e8, i9⟩ := c_take1 (a := 8) (by decide) (by decide) h7 i8
  obtain ⟨S10, e9, i10⟩ := c_take1 (a := 9) (by decide) (by decide) h7 i9
  obtain ⟨S11, e10, i11⟩ := c_take1 (a := 10) (by decide) (by decide) h7 i10
  obtain ⟨S12, e11, i12⟩ := c_take1 (a := 11) (by decide) (by decide) h7 i11
  obtain ⟨S13, e12, i13⟩ := c_take1 (a := 12) (by decide) (by decide) h7 i12
  refine ⟨upk S13 0 (upd (S13 0) 2 (S13 21 243)), ?_, (i13.1.mono (fun k h => h) (by decide)).tr (Ag.j _ (by decide)), fun c s h1 h2 h3 => ?_, ?_⟩
  · rw [f_X4_passesAll]
    simp only [lt]
    rw [e3, b1_some, e4, b1_some, e5, b1_some, e6, b1_some, e7, b1_some, e8, b1_some, e9, b1_some, e10, b1_some, e11, b1_some, e12, b1_some, i13.1.2 7 (by decide), h7, if_pos rfl, i13.2.1, if_pos (by decide)]
    rfl
  · rw [upk_ne _ _ (by omega), i13.2.2 c s h1 h2 h3]
  · rw [upk_eq, upd_k, if_pos rfl, i13.1.1 21 (by decide) (by decide)]
theorem RMk_of {S S' : vS} {b : Bk} (hn : bN b ≤ 20) (hM : RM S b) (h : ∀ c s, 3 ≤ c → c < 13 → s < alen c → S' 21 (off c + s) = S c s) (h2 : S' 21 243 = nI (bN b)) : RMk S' b := by
  obtain ⟨m1, m2, m3, m4⟩ := hM
  refine ⟨h2, fun s c hs hc => ?_, fun l j hl hj => ?_, fun l hl => ?_, fun x y hx hy => ?_⟩
  · have e : off (3 + c) = 21 * c ∧ alen (3 + c) = 21 := by
      rcases (show c = 0 ∨ c = 1 ∨ c = 2 ∨ c = 3 ∨ c = 4 ∨ c = 5 ∨ c = 6 by omega) with rfl | rfl | rfl | rfl | rfl | rfl | rfl <;> exact ⟨rfl, rfl⟩
    have := h (3 + c) s (by omega) (by omega) (by rw [e.2]; omega)
    rw [e.1] at this
    rw [this, m1 s c hs hc]
  · have := h 10 (9 * l + j) (by omega) (by omega) (by show _ < 54; omega)
    rw [show off 10 = 147 from rfl] at this
    rw [this, m2 l j hl hj]
  · have := h 11 l (by omega) (by omega) hl
    rw [show off 11 = 201 from rfl] at this
    rw [this, m3 l hl]
  · have := h 12 (6 * x + y) (by omega) (by omega) (by show _ < 36; omega)
    rw [show off 12 = 207 from rfl] at this
    rw [this, m4 x y hx hy]
theorem RM_of {S S' : vS} {b : Bk} (hn : bN b ≤ 20) (hM : RMk S b) (h : ∀ c s, 3 ≤ c → c < 13 → s < alen c → S' c s = S 21 (off c + s)) : RM S' b := by
  obtain ⟨-, m1, m2, m3, m4⟩ := hM
  refine ⟨fun s c hs hc => ?_, fun l j hl hj => ?_, fun l hl => ?_, fun x y hx hy => ?_⟩
  · have e : off (3 + c) = 21 * c ∧ alen (3 + c) = 21 := by
      rcases (show c = 0 ∨ c = 1 ∨ c = 2 ∨ c = 3 ∨ c = 4 ∨ c = 5 ∨ c = 6 by omega) with rfl | rfl | rfl | rfl | rfl | rfl | rfl <;> exact ⟨rfl, rfl⟩
    have := h (3 + c) s (by omega) (by omega) (by rw [e.2]; omega)
    rw [e.1] at this
    rw [this, m1 s c hs hc]
  · have := h 10 (9 * l + j) (by omega) (by omega) (by show _ < 54; omega)
    rw [show off 10 = 147 from rfl] at this
    rw [this, m2 l j hl hj]
  · have := h 11 l (by omega) (by omega) hl
    rw [show off 11 = 201 from rfl] at this
    rw [this, m3 l hl]
  · have := h 12 (6 * x + y) (by omega) (by omega) (by show _ < 36; omega)
    rw [show off 12 = 207 from rfl] at this
    rw [this, m4 x y hx hy]
theorem RXb_out {S S' : vS} {b : Bk} (hn : bN b ≤ 20) (h : ∀ k, k ≠ 0 → k < 66 → k ≠ 24 → k ≠ 21 → S' k = S k) (h0 : S' 0 12 = S 0 12) (hX : RXb S b) : RXb S' b := by
  obtain ⟨x0, x1, x2, x3, x4⟩ := hX
  refine ⟨by rw [h0, x0], fun s c hs hc => ?_, fun l j hl hj => ?_, fun l hl => ?_, fun x y hx hy => ?_⟩
  · rw [h _ (by omega) (by omega) (by omega) (by omega)]; exact x1 s c hs hc
  · rw [h _ (by omega) (by omega) (by omega) (by omega)]; exact x2 l j hl hj
  · rw [h _ (by omega) (by omega) (by omega) (by omega)]; exact x3 l hl
  · rw [h _ (by omega) (by omega) (by omega) (by omega)]; exact x4 x y hx hy
theorem t_image {S : vS} (hI : IV S) : Alike f_X3_image f_X4_image S := by
  obtain ⟨⟨b, i1⟩, ⟨tn, i2⟩, ⟨rn, i3⟩, i4, i5, hk9, kb, i6⟩ := id hI
  have hn := i1.2.1
  obtain ⟨S1, e1, a1, x1⟩ := c_kb hn i1.2.2.1
  have a2 : Ag (24 :: List.range' 66 32) [13, 18] S (upk S1 0 (upd (S1 0) 18 1)) := (a1.mono (fun k h => h) (by decide)).tr (Ag.j _ (by decide))
  have x2 : RXk (upk S1 0 (upd (S1 0) 18 1)) b := RX_ag (ks := []) (js := [18]) (Ag.j _ (by decide)) (by decide) (by decide) (by decide) x1
  have h18 : (upk S1 0 (upd (S1 0) 18 1)) 0 18 = 1 := by rw [upk_eq, upd_k, if_pos rfl]
  generalize hS2 : upk S1 0 (upd (S1 0) 18 1) = S2 at a2 x2 h18
  have a3 : Ag [] [7, 6] S2 (upk S2 0 (upd (S2 0) 7 1)) := Ag.j _ (by decide)
  have h37 : (upk S2 0 (upd (S2 0) 7 1)) 0 7 = 1 := by rw [upk_eq, upd_k, if_pos rfl]
  generalize hS3 : upk S2 0 (upd (S2 0) 7 1) = S3 at a3 h37
  have a4 : Ag [] [7, 6] S3 (upk S3 0 (upd (S3 0) 6 1)) := Ag.j _ (by decide)
  have h47 : (upk S3 0 (upd (S3 0) 6 1)) 0 7 = 1 := by rw [upk_eq, upd_k, if_neg (by decide), h37]
  have h46 : (upk S3 0 (upd (S3 0) 6 1)) 0 6 = 1 := by rw [upk_eq, upd_k, if_pos rfl]
  generalize hS4 : upk S3 0 (upd (S3 0) 6 1) = S4 at a4 h47 h46
  have a24 := a3.tr a4
  have h42 : S4 0 2 = nI (bN b) := by rw [a24.2 2 (by decide), a2.2 2 (by decide)]; exact i1.2.2.2.2.1
  obtain ⟨S5, e5, a5, g5, r5⟩ := c_putAll h47 h42
  have aA : Ag (21 :: 24 :: List.range' 66 32) [13, 18, 7, 6, 8] S S5 := ((a2.mono (fun k h => List.mem_cons_of_mem _ h) (by decide)).tr (a24.mono (by simp) (by decide))).tr (a5.mono (by simp) (by decide))
  have hM4 : RM S4 b := RM_ag a24 (by simp) (RM_ag a2 (fun k h => by simp only [List.mem_cons, List.mem_range'_1] at h; omega) i1.2.2.2.1)
  have x5 : RXk S5 b := RX_ag a5 (by decide) (by decide) (by decide) (RX_ag a24 (by simp) (by decide) (by decide) x2)
  refine ⟨nI (bN b), S2, S5, ?_, ?_, ⟨b, i1.1, hn, ?_, ?_, ?_, ?_⟩, ⟨tn, IVt_ag aA (by decide) (by decide) i2⟩, ⟨rn, IVr_ag aA (by decide) (by decide) i3⟩, IVn_ag aA (by decide) i4, IVm_ag aA (by decide) i5, true, b, ?_, ?_, fun _ => ⟨i1.1, hn, x5, RMk_of hn hM4 g5 r5⟩⟩
  · rw [f_X3_image, e1, b1_some]
    simp only [lt, hS2]
    rw [a2.2 12 (by decide), i1.2.2.1.1]
  · rw [f_X4_image]
    simp only [lt, hS3, hS4]
    rw [e5, b1_some, a5.2 2 (by decide), h42]
  · exact RXb_out hn (fun k h0 h1 h2 h3 => aA.1 k h0 (by simp only [List.mem_cons, List.mem_range'_1]; omega)) (aA.2 12 (by decide)) i1.2.2.1
  · exact RM_ag a5 (by decide) hM4
  · rw [aA.2 2 (by decide)]; exact i1.2.2.2.2.1
  · rw [aA.2 3 (by decide)]; exact i1.2.2.2.2.2
  · rw [a5.2 6 (by decide), h46]; rfl
  · rw [a5.2 18 (by decide), a24.2 18 (by decide), h18]; rfl
theorem t_on {S : vS} (hI : IV S) : Alike f_X3_on f_X4_on S := by
  obtain ⟨⟨b, i1⟩, ⟨tn, i2⟩, ⟨rn, i3⟩, i4, i5, hk9, kb, i6⟩ := id hI
  cases hk9 with
  | false => exact ref_end hI (w := -3) (k := 3) (by decide) (by decide) (by rw [f_X3_on, i6.2.1, if_pos (show rI false = 0 from rfl)]) (fun S1 _ h => by rw [f_X4_on, h 0 (by decide), i6.1, if_pos (show rI false = 0 from rfl)])
  | true =>
    obtain ⟨k1, k2, k3, k4⟩ := i6.2.2 rfl
    obtain ⟨S1, e1, a1, x1⟩ := c_bk k2 k3
    have a2 : Ag [] [7] S1 (upk S1 0 (upd (S1 0) 7 0)) := Ag.j _ (by decide)
    have h27 : (upk S1 0 (upd (S1 0) 7 0)) 0 7 = 0 := by rw [upk_eq, upd_k, if_pos rfl]
    generalize hS2 : upk S1 0 (upd (S1 0) 7 0) = S2 at a2 h27
    obtain ⟨S3, e3, a3, g3, r3⟩ := c_takeAll h27
    have m1 : ∀ k, k ≠ 0 → k ∉ (23 :: List.range' 34 32) → k ∉ bkL → S3 k = S k := fun k h0 h1 h2 => by rw [a3.1 k h0 h2, a2.1 k h0 (by simp), a1.1 k h0 h1]
    have aA : Ag (bkL ++ 23 :: List.range' 34 32) [12, 7, 8, 2] S S3 := ((a1.mono (fun k h => List.mem_append_right _ h) (by decide)).tr (a2.mono (by simp) (by decide))).tr (a3.mono (fun k h => List.mem_append_left _ h) (by decide))
    have hk2 : RMk S2 kb := by
      have e21 : S2 21 = S 21 := by rw [a2.1 21 (by decide) (by decide), a1.1 21 (by decide) (by decide)]
      unfold RMk
      rw [e21]; exact k4
    have x3 : RXb S3 kb := by
      have x2 : RXb S2 kb := RX_ag a2 (by simp) (by decide) (by decide) x1
      exact RX_ag a3 (by decide) (by decide) (by decide) x2
    have h2 : S3 0 2 = nI (bN kb) := by rw [r3]; exact hk2.1
    refine ⟨nI (bN kb), S1, S3, ?_, ?_, ⟨kb, k1, k2, x3, RM_of k2 hk2 g3, h2, ?_⟩, ⟨tn, IVt_ag aA (by decide) (by decide) i2⟩, ⟨rn, IVr_ag aA (by decide) (by decide) i3⟩, IVn_ag aA (by decide) i4, IVm_ag aA (by decide) i5, true, kb, IVk_ag aA ?_ (by decide) i6⟩
    · rw [f_X3_on, i6.2.1, if_neg (by decide), e1, b1_some, x1.1]
    · rw [f_X4_on, a1.2 6 (by decide), i6.1, if_neg (by decide)]
      simp only [lt, hS2]
      rw [e3, b1_some, h2]
    · rw [aA.2 3 (by decide)]; exact i1.2.2.2.2.2
    · intro k hk
      simp only [List.mem_append, List.mem_cons, List.mem_range'_1, List.not_mem_nil, or_false] at hk
      omega
