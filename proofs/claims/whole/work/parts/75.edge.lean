/-! edge, year -/
theorem itr_cong {sv sv' : Nat → Int32 → Int32} (h : ∀ l, l < 6 → ∀ x, sv l x = sv' l x) : ∀ k o r, itr sv k o r = itr sv' k o r := by
  have htr : ∀ l, l ≤ 6 → ∀ o, tr sv l o = tr sv' l o := by
    intro l
    induction l with
    | zero => intro _ o; rfl
    | succ l ih => intro hl o; rw [tr, tr, ih (by omega), h l (by omega)]
  have hch : ∀ l, l ≤ 6 → ∀ o, ch sv l o = ch sv' l o := by
    intro l
    induction l with
    | zero => intro _ o; rfl
    | succ l ih => intro hl o; rw [ch, ch, ih (by omega), htr l (by omega), h l (by omega)]
  intro k
  induction k with
  | zero => intro o r; rfl
  | succ k ih => intro o r; rw [itr, itr, htr 6 (by omega), hch 6 (by omega), ih]
theorem owT_cong {b : Bk} {t t' : Nat → Nat → Nat} (h : ∀ l j, l < 6 → j < 4 → t l j = t' l j) : owT b t = owT b t' := by
  unfold owT
  apply itr_cong
  intro l hl x
  unfold svT
  rw [h l 0 hl (by omega), h l 1 hl (by omega), h l 2 hl (by omega), h l 3 hl (by omega)]
theorem ow_bn {b : Bk} {l k y : Nat} (hl : l < 6) (hk : bhN b (bN b) + k ≤ 900) : ow (bnB b l (bhN b (bN b) + k) y) = owT b (fun o j => TT b o j + k * un b l y o j) := by
  show owT b (TT (bnB b l (bhN b (bN b) + k) y)) = _
  exact owT_cong (fun o j ho hj => bnB_tot hl hj hk)
theorem un_le {b : Bk} {l y o j : Nat} (hy : y ≤ 999) : un b l y o j ≤ 999 := by
  unfold un
  split
  · split <;> omega
  · omega
theorem tk_lt {b : Bk} (hb : bOk b) {l k y : Nat} (hk : k ≤ 900) (hy : y ≤ 999) : ∀ o j, o < 6 → j < 4 → TT b o j + k * un b l y o j < 3000000 := fun o j _ _ => by
  have h1 := tot_le hb o j 900 (Nat.le_refl _)
  have h2 : k * un b l y o j ≤ 900 * 999 := Nat.mul_le_mul hk (un_le hy)
  unfold TT
  omega
/-- all but what is found anew and the places behind the spells -/
def AgB (n : Nat) (S S' : vS) : Prop := (∀ k, k ≠ 0 → ¬ (3 ≤ k ∧ k ≤ 9) → ¬ (14 ≤ k ∧ k ≤ 19) → S' k = S k) ∧ (∀ k, 3 ≤ k → k ≤ 9 → ∀ s, s < n → S' k s = S k s) ∧ ∀ j, j ≠ 4 → S' 0 j = S 0 j
theorem AgB.tr {n : Nat} {S S1 S2 : vS} (h : AgB n S S1) (h2 : AgB n S1 S2) : AgB n S S2 := ⟨fun k a c d => (h2.1 k a c d).trans (h.1 k a c d), fun k a c s d => (h2.2.1 k a c s d).trans (h.2.1 k a c s d), fun j a => (h2.2.2 j a).trans (h.2.2 j a)⟩
theorem AgB.of {n : Nat} {ks js : List Nat} {S S1 : vS} (h : Ag ks js S S1) (hk : ∀ k, k ∈ ks → 14 ≤ k ∧ k ≤ 19) (hj : ∀ j, j ∈ js → j = 4) : AgB n S S1 := ⟨fun k a c d => h.1 k a (fun q => d (hk k q)), fun k a c s d => by rw [h.1 k (by omega) (fun q => by have := hk k q; omega)], fun j a => h.2 j (fun q => a (hj j q))⟩
theorem IVb_AgB {b : Bk} {S S' : vS} (h : AgB (bN b) S S') (hI : IVb S b) : IVb S' b := by
  obtain ⟨i1, i2, i3, i4, i5, i6⟩ := hI
  refine ⟨i1, i2, ⟨by rw [h.2.2 12 (by decide)]; exact i3.1, fun s c hs hc => ?_, fun l j hl hj => ?_, fun l hl => ?_, fun x y hx hy => ?_⟩, ⟨fun s c hs hc => ?_, fun l j hl hj => ?_, fun l hl => ?_, fun x y hx hy => ?_⟩, by rw [h.2.2 2 (by decide)]; exact i5, by rw [h.2.2 3 (by decide)]; exact i6⟩
  · rw [h.1 _ (by omega) (by omega) (by omega)]; exact i3.2.1 s c hs hc
  · rw [h.1 _ (by omega) (by omega) (by omega)]; exact i3.2.2.1 l j hl hj
  · rw [h.1 _ (by omega) (by omega) (by omega)]; exact i3.2.2.2.1 l hl
  · rw [h.1 _ (by omega) (by omega) (by omega)]; exact i3.2.2.2.2 x y hx hy
  · rw [h.2.1 _ (by omega) (by omega) s hs]; exact i4.1 s c hs hc
  · rw [h.1 _ (by omega) (by omega) (by omega)]; exact i4.2.1 l j hl hj
  · rw [h.1 _ (by omega) (by omega) (by omega)]; exact i4.2.2.1 l hl
  · rw [h.1 _ (by omega) (by omega) (by omega)]; exact i4.2.2.2 x y hx hy
theorem IV_AgB {b : Bk} {S S' : vS} (hb : IVb S b) (h : AgB (bN b) S S') (hI : IV S) : IV S' := by
  obtain ⟨-, ⟨tn, i2⟩, ⟨rn, i3⟩, i4, i5, hk9, kb, i6⟩ := hI
  have e : ∀ k, k ≠ 0 → ¬ (3 ≤ k ∧ k ≤ 9) → ¬ (14 ≤ k ∧ k ≤ 19) → S' k = S k := h.1
  refine ⟨⟨b, IVb_AgB h hb⟩, ⟨tn, i2.1, by rw [h.2.2 0 (by decide)]; exact i2.2.1, by rw [h.2.2 10 (by decide)]; exact i2.2.2.1, fun j hj => by rw [e 2 (by decide) (by decide) (by decide), e 22 (by decide) (by decide) (by decide)]; exact i2.2.2.2 j hj⟩, ⟨rn, i3.1, by rw [h.2.2 5 (by decide)]; exact i3.2.1, by rw [h.2.2 17 (by decide)]; exact i3.2.2.1, fun j hj => by rw [e 20 (by decide) (by decide) (by decide), e 32 (by decide) (by decide) (by decide)]; exact i3.2.2.2 j hj⟩, fun j => by rw [e 1 (by decide) (by decide) (by decide), e 33 (by decide) (by decide) (by decide)]; exact i4 j, fun j hj => by rw [e 13 (by decide) (by decide) (by decide)]; exact i5 j hj, hk9, kb, by rw [h.2.2 6 (by decide)]; exact i6.1, by rw [h.2.2 18 (by decide)]; exact i6.2.1, fun q => ?_⟩
  obtain ⟨q1, q2, q3, q4⟩ := i6.2.2 q
  refine ⟨q1, q2, ⟨by rw [h.2.2 13 (by decide)]; exact q3.1, fun s c hs hc => ?_, fun l j hl hj => ?_, fun l hl => ?_, fun x y hx hy => ?_⟩, ?_⟩
  · rw [e _ (by omega) (by omega) (by omega)]; exact q3.2.1 s c hs hc
  · rw [e _ (by omega) (by omega) (by omega)]; exact q3.2.2.1 l j hl hj
  · rw [e _ (by omega) (by omega) (by omega)]; exact q3.2.2.2.1 l hl
  · rw [e _ (by omega) (by omega) (by omega)]; exact q3.2.2.2.2 x y hx hy
  · unfold RMk
    rw [e 21 (by decide) (by decide) (by decide)]
    exact q4
theorem q_with {b : Bk} {S : vS} (h : IVb S b) (hn : bN b < 20) {l k t y : Nat} (hl : l < 6) (hy : y ≤ 999) (hk : k ≤ 900) (ht : bhN b (bN b) < t) (ht9 : t = if bhN b (bN b) + k < 900 then bhN b (bN b) + k else 900) : ∃ S', f_X4_findsWith (nI l) (nI (bhN b (bN b))) (nI k) (nI y) S = some S' ∧ AgB (bN b) S S' ∧ ∀ j, j < 6 → S' 19 j = (ow (bnB b l t y)).1 j := by
  have hbh := bhN_le b h.1 (bN b) (Nat.le_refl _)
  have ht9' : t ≤ 900 := by rw [ht9]; split <;> omega
  have h2 := h.2.2.2.2.1
  generalize hT : (upk (upk (upk (upk (upk (upk (upk S 3 (upd (S 3) (bN b) (nI l))) 4 (upd (S 4) (bN b) 3)) 5 (upd (S 5) (bN b) (nI (bhN b (bN b))))) 6 (upd (S 6) (bN b) (nI t))) 7 (upd (S 7) (bN b) (nI y))) 8 (upd (S 8) (bN b) 1)) 9 (upd (S 9) (bN b) 1)) = T
  have hTk : ∀ k, (k = 3 → T k = upd (S k) (bN b) (nI l)) ∧ (k = 4 → T k = upd (S k) (bN b) 3) ∧ (k = 5 → T k = upd (S k) (bN b) (nI (bhN b (bN b)))) ∧ (k = 6 → T k = upd (S k) (bN b) (nI t)) ∧ (k = 7 → T k = upd (S k) (bN b) (nI y)) ∧ (k = 8 → T k = upd (S k) (bN b) 1) ∧ (k = 9 → T k = upd (S k) (bN b) 1) ∧ (¬ (3 ≤ k ∧ k ≤ 9) → T k = S k) := by
    intro k
    rw [← hT]
    simp only [upk_k]
    refine ⟨?_, ?_, ?_, ?_, ?_, ?_, ?_, fun q => ?_⟩
    iterate 7 (rintro rfl; simp)
    rw [if_neg (by omega), if_neg (by omega), if_neg (by omega), if_neg (by omega), if_neg (by omega), if_neg (by omega), if_neg (by omega)]
  have h0 : T 0 = S 0 := (hTk 0).2.2.2.2.2.2.2 (by omega)
  have hR : RE T (bnB b l t y) := by
    refine ⟨fun i c hi hc => ?_, fun i hi => ?_, fun o j ho hj => by rw [(hTk 10).2.2.2.2.2.2.2 (by omega)]; exact h.2.2.2.1.2.1 o j ho hj, fun o ho => by rw [(hTk 11).2.2.2.2.2.2.2 (by omega)]; exact h.2.2.2.1.2.2.1 o ho, fun x z hx hz => by rw [(hTk 12).2.2.2.2.2.2.2 (by omega)]; exact h.2.2.2.1.2.2.2 x z hx hz⟩
    · have hi2 : i < bN b + 1 := hi
      by_cases hin : i = bN b
      · subst hin
        rw [bnB_new]
        rcases (show c = 0 ∨ c = 1 ∨ c = 2 ∨ c = 3 ∨ c = 4 ∨ c = 5 by omega) with rfl | rfl | rfl | rfl | rfl | rfl
        · rw [(hTk 3).1 rfl, upd_k, if_pos rfl]; rfl
        · rw [(hTk 4).2.1 rfl, upd_k, if_pos rfl]; rfl
        · rw [(hTk 5).2.2.1 rfl, upd_k, if_pos rfl]; rfl
        · rw [(hTk 6).2.2.2.1 rfl, upd_k, if_pos rfl]; rfl
        · rw [(hTk 7).2.2.2.2.1 rfl, upd_k, if_pos rfl]; rfl
        · rw [(hTk 8).2.2.2.2.2.1 rfl, upd_k, if_pos rfl]; rfl
      · rw [bnB_old b l t y c i hin]
        have hold : T (3 + c) i = S (3 + c) i := by
          rcases (show c = 0 ∨ c = 1 ∨ c = 2 ∨ c = 3 ∨ c = 4 ∨ c = 5 by omega) with rfl | rfl | rfl | rfl | rfl | rfl
          · rw [(hTk 3).1 rfl, upd_k, if_neg hin]
          · rw [(hTk 4).2.1 rfl, upd_k, if_neg hin]
          · rw [(hTk 5).2.2.1 rfl, upd_k, if_neg hin]
          · rw [(hTk 6).2.2.2.1 rfl, upd_k, if_neg hin]
          · rw [(hTk 7).2.2.2.2.1 rfl, upd_k, if_neg hin]
          · rw [(hTk 8).2.2.2.2.2.1 rfl, upd_k, if_neg hin]
        rw [hold]
        exact h.2.2.2.1.1 i c (by omega) (by omega)
    · have hi2 : i < bN b + 1 := hi
      have h3n : ¬ nI i = T 0 3 := by
        rw [h0, h.2.2.2.2.2]
        intro q
        have h2 : (0 : Int32) ≤ nI i := nI_pos' (by omega)
        rw [q] at h2
        exact absurd h2 (by decide)
      refine ⟨fun q => absurd q h3n, fun _ => ?_⟩
      rw [(hTk 9).2.2.2.2.2.2.1 rfl, upd_k]
      by_cases hin : i = bN b
      · rw [if_pos hin, hin, bnB_new]; rfl
      · rw [if_neg hin, bnB_old b l t y 6 i hin]
        exact h.2.2.2.1.1 i 6 (by omega) (by omega)
  obtain ⟨S', e, a, g, -⟩ := q_finds (bnB_ok h.1 hl ht ht9' hy) (by show bN b + 1 ≤ 21; omega) hR
  have e' : f_X4_finds (nI (bN b + 1)) T = some S' := e
  have hAT : AgB (bN b) S T := by
    refine ⟨fun k a c d => (hTk k).2.2.2.2.2.2.2 c, fun k a c s hs => ?_, fun j _ => by rw [h0]⟩
    have hne : ¬ s = bN b := by omega
    rcases (show k = 3 ∨ k = 4 ∨ k = 5 ∨ k = 6 ∨ k = 7 ∨ k = 8 ∨ k = 9 by omega) with rfl | rfl | rfl | rfl | rfl | rfl | rfl
    · rw [(hTk 3).1 rfl, upd_k, if_neg hne]
    · rw [(hTk 4).2.1 rfl, upd_k, if_neg hne]
    · rw [(hTk 5).2.2.1 rfl, upd_k, if_neg hne]
    · rw [(hTk 6).2.2.2.1 rfl, upd_k, if_neg hne]
    · rw [(hTk 7).2.2.2.2.1 rfl, upd_k, if_neg hne]
    · rw [(hTk 8).2.2.2.2.2.1 rfl, upd_k, if_neg hne]
    · rw [(hTk 9).2.2.2.2.2.2.1 rfl, upd_k, if_neg hne]
  refine ⟨S', ?_, hAT.tr (AgB.of a (by decide) (by decide)), g⟩
  have hin : inb (nI (bN b)) 21 = true := inb_n (by omega) (by omega)
  have hcl : (nI (bN b)).toNatClampNeg = bN b := nI_clamp (by omega)
  have j56 : f_X4_findsWith_J56 (nI y) (nI (bN b)) (nI t) (upk (upk (upk S 3 (upd (S 3) (bN b) (nI l))) 4 (upd (S 4) (bN b) 3)) 5 (upd (S 5) (bN b) (nI (bhN b (bN b))))) = some S' := by
    rw [f_X4_findsWith_J56, if_pos hin]
    simp only [lt, hcl, upk_k, if_neg (show ¬ (0 : Nat) = 3 by decide), if_neg (show ¬ (0 : Nat) = 4 by decide), if_neg (show ¬ (0 : Nat) = 5 by decide), if_neg (show ¬ (0 : Nat) = 6 by decide), if_neg (show ¬ (0 : Nat) = 7 by decide), if_neg (show ¬ (0 : Nat) = 8 by decide), if_neg (show ¬ (0 : Nat) = 9 by decide), if_neg (show ¬ (6 : Nat) = 3 by decide), if_neg (show ¬ (6 : Nat) = 4 by decide), if_neg (show ¬ (6 : Nat) = 5 by decide), if_neg (show ¬ (7 : Nat) = 3 by decide), if_neg (show ¬ (7 : Nat) = 4 by decide), if_neg (show ¬ (7 : Nat) = 5 by decide), if_neg (show ¬ (7 : Nat) = 6 by decide), if_neg (show ¬ (8 : Nat) = 3 by decide), if_neg (show ¬ (8 : Nat) = 4 by decide), if_neg (show ¬ (8 : Nat) = 5 by decide), if_neg (show ¬ (8 : Nat) = 6 by decide), if_neg (show ¬ (8 : Nat) = 7 by decide), if_neg (show ¬ (9 : Nat) = 3 by decide), if_neg (show ¬ (9 : Nat) = 4 by decide), if_neg (show ¬ (9 : Nat) = 5 by decide), if_neg (show ¬ (9 : Nat) = 6 by decide), if_neg (show ¬ (9 : Nat) = 7 by decide), if_neg (show ¬ (9 : Nat) = 8 by decide), h2, hin, if_true, nI_1]
    rw [hT, e', b1_some]
  rw [f_X4_findsWith, h2, if_pos hin]
  simp only [lt, hcl, upk_k, if_neg (show ¬ (0 : Nat) = 3 by decide), if_neg (show ¬ (0 : Nat) = 4 by decide), if_neg (show ¬ (0 : Nat) = 5 by decide), if_neg (show ¬ (4 : Nat) = 3 by decide), if_neg (show ¬ (5 : Nat) = 3 by decide), if_neg (show ¬ (5 : Nat) = 4 by decide), h2, hin, if_true, nI_add]
  rw [L900]
  by_cases hc : 900 ≤ bhN b (bN b) + k
  · rw [if_pos ((nI_leI (by omega) (by omega)).mpr hc)]
    rw [if_neg (by omega)] at ht9
    rw [ht9] at j56
    exact j56
  · rw [if_neg (fun q => hc ((nI_leI (by omega) (by omega)).mp q))]
    rw [if_pos (by omega)] at ht9
    rw [ht9] at j56
    exact j56
theorem q_behind {b : Bk} {S : vS} (hb : bOk b) (hn : bN b ≤ 20) (hM : RM S b) (h2 : S 0 2 = nI (bN b)) : f_X4_behind S = some (nI (bhN b (bN b))) := by
  have key : ∀ (k i : Nat), i + k = bN b → ∀ n, k < n → f_X4_behind_L4 S n (nI (bhN b i)) (nI i) = some (nI (bhN b (bN b))) := by
    intro k
    induction k with
    | zero =>
      intro i hi n hk
      obtain ⟨n, rfl⟩ : ∃ q, n = q + 1 := ⟨n - 1, by omega⟩
      have : i = bN b := by omega
      subst this
      rw [f_X4_behind_L4, h2, if_pos ((nI_leI (by omega) (by omega)).mpr (Nat.le_refl _))]
    | succ k ih =>
      intro i hi n hk
      obtain ⟨n, rfl⟩ : ∃ q, n = q + 1 := ⟨n - 1, by omega⟩
      have hq := bhN_le b hb i (by omega)
      have q3 := (hb.1 i (by omega)).2.2.2.1
      have r3 : S 6 i = nI (bC b 3 i) := hM.1 i 3 (by omega) (by omega)
      have hr := ih (i + 1) (by omega) n (by omega)
      rw [f_X4_behind_L4, h2, if_neg (fun q => absurd ((nI_leI (by omega) (by omega)).mp q) (by omega)), if_pos (inb_n (by omega) (by omega)), nI_clamp (by omega), r3, q_gr, b1_some, nI_max _ _ (by omega) (by omega), nI_1]
      exact hr
  have h := key (bN b) 0 (by omega) FU (by unfold FU; omega)
  rw [bhN] at h
  rw [f_X4_behind, L0, h, b1_some]
/-- edge -/
def egS (b : Bk) (l y : Nat) (now : Int32) : Nat → Nat → Int32
  | 0, _ => -9
  | k + 1, m => if now < (ow (bnB b l (bhN b (bN b) + m) y)).1 l then nI m else egS b l y now k (m + 1)
theorem p_edge_loop {b : Bk} (hb : bOk b) (hn : bN b ≤ 20) {l y mo : Nat} (hl : l < 6) (hy : y ≤ 999) (now : Int32) (hmo : mo ≤ 120) (hmo9 : bhN b (bN b) + mo ≤ 900) : ∀ (k m : Nat), m + 1 + k = mo + 1 → ∀ n (S : vS), k < n → RXb S b → (∀ o j, o < 6 → j < 4 → S (26 + j) o = nI (TT b o j + m * un b l y o j)) → ∃ S', Ag scX scJ S S' ∧ ((f_X3_edge_L93 n (nI l) (nI y) now (nI mo) (nI (m + 1)) S = some (.inl S') ∧ egS b l y now k (m + 1) = -9) ∨ f_X3_edge_L93 n (nI l) (nI y) now (nI mo) (nI (m + 1)) S = some (.inr (egS b l y now k (m + 1), S'))) := by
  intro k
  induction k with
  | zero =>
    intro m hm n S hk hX hS
    obtain ⟨n, rfl⟩ : ∃ q, n = q + 1 := ⟨n - 1, by omega⟩
    refine ⟨S, Ag.rf _ _ _, Or.inl ⟨?_, rfl⟩⟩
    rw [f_X3_edge_L93, if_pos ((nI_ltI (by omega) (by omega)).mpr (by omega))]
  | succ k ih =>
    intro m hm n S hk hX hS
    obtain ⟨n, rfl⟩ : ∃ q, n = q + 1 := ⟨n - 1, by omega⟩
    obtain ⟨S1, e1, a1, g1⟩ := p_addBench hb (len := 1) (y := y) hl hX
    have hX1 := RX_ag a1 (by decide) (by decide) (by decide) hX
    have hS1 : ∀ o j, o < 6 → j < 4 → S1 (26 + j) o = nI (TT b o j + (m + 1) * un b l y o j) := fun o j ho hj => by
      rw [g1 o j ho hj, hS o j ho hj, nI_add, Nat.one_mul, Nat.succ_mul, Nat.add_assoc]
    obtain ⟨S2, e2, a2, g2, -⟩ := p_settle hb (fun o j => TT b o j + (m + 1) * un b l y o j) (tk_lt hb (by omega) hy) hX1 hS1
    have a12 : Ag scX scJ S S2 := (a1.mono (by decide) (by decide)).tr (a2.mono (by decide) (by decide))
    have hv : S2 31 l = (ow (bnB b l (bhN b (bN b) + (m + 1)) y)).1 l := by rw [g2 l hl, ow_bn hl (by omega)]
    rw [f_X3_edge_L93, if_neg (fun q => absurd ((nI_ltI (by omega) (by omega)).mp q) (by omega)), L1, e1, b1_some, e2, b2_some, if_pos (inb_n hl (by omega)), nI_clamp (by omega), hv, egS]
    by_cases h : now < (ow (bnB b l (bhN b (bN b) + (m + 1)) y)).1 l
    · rw [if_pos h, if_neg (fun q => absurd (Int32.lt_of_lt_of_le h q) (Int32.lt_irrefl))]
      exact ⟨S2, a12, Or.inr rfl⟩
    · rw [if_neg h, if_pos (Int32.not_lt.mp h), nI_add]
      obtain ⟨S3, a3, h3⟩ := ih (m + 1) (by omega) n S2 (by omega) (RX_ag a12 (by decide) (by decide) (by decide) hX) (fun o j ho hj => by rw [a2.1 (26 + j) (by omega) (by simp; omega)]; exact hS1 o j ho hj)
      exact ⟨S3, a12.tr a3, h3⟩
theorem q_edge_loop {b : Bk} (hn : bN b < 20) {l y mo : Nat} (hl : l < 6) (hy : y ≤ 999) (now : Int32) (hmo : mo = if 120 ≤ 900 - bhN b (bN b) then 120 else 900 - bhN b (bN b)) : ∀ (k m : Nat), m + 1 + k = mo + 1 → ∀ n (S : vS), k < n → IVb S b → ∃ S', AgB (bN b) S S' ∧ ((f_X4_edge_L73 n (nI l) (nI y) now (nI (bhN b (bN b))) (nI (m + 1)) S = some (.inl S') ∧ egS b l y now k (m + 1) = -9) ∨ f_X4_edge_L73 n (nI l) (nI y) now (nI (bhN b (bN b))) (nI (m + 1)) S = some (.inr (egS b l y now k (m + 1), S'))) := by
  intro k
  induction k with
  | zero =>
    intro m hm n S hk hI
    obtain ⟨n, rfl⟩ : ∃ q, n = q + 1 := ⟨n - 1, by omega⟩
    have hbh := bhN_le b hI.1 (bN b) (Nat.le_refl _)
    refine ⟨S, ⟨fun _ _ _ _ => rfl, fun _ _ _ _ _ => rfl, fun _ _ => rfl⟩, Or.inl ⟨?_, rfl⟩⟩
    rw [f_X4_edge_L73, L120, L900, nI_add]
    by_cases h : 120 ≤ 900 - bhN b (bN b)
    · rw [if_pos h] at hmo
      rw [if_pos ((nI_ltI (by omega) (by omega)).mpr (by omega))]
    · rw [if_neg h] at hmo
      rw [if_neg (fun q => absurd ((nI_ltI (by omega) (by omega)).mp q) (by omega)), if_pos ((nI_ltI (by omega) (by omega)).mpr (by omega))]
  | succ k ih =>
    intro m hm n S hk hI
    obtain ⟨n, rfl⟩ : ∃ q, n = q + 1 := ⟨n - 1, by omega⟩
    have hbh := bhN_le b hI.1 (bN b) (Nat.le_refl _)
    have hm1 : m + 1 ≤ 120 ∧ bhN b (bN b) + (m + 1) ≤ 900 := by
      by_cases h : 120 ≤ 900 - bhN b (bN b)
      · rw [if_pos h] at hmo; omega
      · rw [if_neg h] at hmo; omega
    obtain ⟨S1, e1, a1, g1⟩ := q_with hI hn (k := m + 1) (t := bhN b (bN b) + (m + 1)) hl hy (by omega) (by omega) (by split <;> omega)
    rw [f_X4_edge_L73, L120, L900, nI_add, if_neg (fun q => absurd ((nI_ltI (by omega) (by omega)).mp q) (by omega)), if_neg (fun q => absurd ((nI_ltI (by omega) (by omega)).mp q) (by omega)), e1, b1_some, if_pos (inb_n hl (by omega)), nI_clamp (by omega), g1 l hl, egS]
    by_cases h : now < (ow (bnB b l (bhN b (bN b) + (m + 1)) y)).1 l
    · rw [if_pos h, if_neg (fun q => absurd (Int32.lt_of_lt_of_le h q) (Int32.lt_irrefl))]
      exact ⟨S1, a1, Or.inr rfl⟩
    · rw [if_neg h, if_pos (Int32.not_lt.mp h), nI_1]
      obtain ⟨S3, a3, h3⟩ := ih (m + 1) (by omega) n S1 (by omega) (IVb_AgB a1 hI)
      exact ⟨S3, a1.tr a3, h3⟩
