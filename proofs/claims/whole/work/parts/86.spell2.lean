/-! spell -/
def Ws (r : vR) : Prop := r.1 = true → ∃ l w f u y d, r.2.2 = vs7 l w f u y d ∧ l < 6 ∧ w < 4 ∧ f < u ∧ u ≤ 900 ∧ y ≤ 999 ∧ d ≤ 1
theorem Ws_F (p : Nat) : Ws (rdF p) := fun h => absurd (show false = true from h) (by decide)
theorem Ws_7 {tn p l w f u y d : Nat} (h : l < 6 ∧ w < 4 ∧ f < u ∧ u ≤ 900 ∧ y ≤ 999 ∧ d ≤ 1) : Ws (rd7 tn p (vs7 l w f u y d)) := by
  unfold rd7
  split
  · exact fun _ => ⟨l, w, f, u, y, d, rfl, h⟩
  · exact Ws_F _
theorem Ws_6 {t : Nat → Nat} {tn p l w f u y : Nat} (h : l < 6 ∧ w < 4 ∧ f < u ∧ u ≤ 900 ∧ y ≤ 999) : Ws (rd6 t tn p l w f u y) := by
  obtain ⟨h1, h2, h3, h4, h5⟩ := h
  unfold rd6
  split
  · exact Ws_7 ⟨h1, h2, h3, h4, h5, by omega⟩
  · exact Ws_7 ⟨h1, h2, h3, h4, h5, by omega⟩
theorem Ws_4 {t : Nat → Nat} {tn p l w f u : Nat} (h : l < 6 ∧ w < 4 ∧ f < u ∧ u ≤ 900) : Ws (rd4 t tn p l w f u) := by
  obtain ⟨h1, h2, h3, h4⟩ := h
  unfold rd4
  split
  · unfold rd5
    split
    · exact Ws_6 ⟨h1, h2, h3, h4, nm_999 t tn (p + 1)⟩
    · exact Ws_F _
  · exact Ws_F _
theorem Ws_3 {t : Nat → Nat} {tn p l w f : Nat} (h : l < 6 ∧ w < 4) : Ws (rd3 t tn p l w f) := by
  obtain ⟨h1, h2⟩ := h
  unfold rd3
  split
  · by_cases q : (nm t tn 3 p 0).1 ≤ f ∨ 900 < (nm t tn 3 p 0).1
    · rw [if_pos q]; exact Ws_F _
    · rw [if_neg q]; exact Ws_4 ⟨h1, h2, by omega, by omega⟩
  · exact Ws_F _
theorem Ws_rd (t : Nat → Nat) (tn : Nat) : Ws (rd t tn) := by
  unfold rd
  by_cases h0 : 0 < tn ∧ lnd (t 0) < 6
  · rw [if_pos h0]
    unfold rd0
    by_cases h1 : 1 < tn ∧ wkd (t 1) < 4
    · rw [if_pos h1]
      unfold rd1
      split
      · unfold rd2
        split
        · exact Ws_3 ⟨h0.2, h1.2⟩
        · exact Ws_F _
      · exact Ws_F _
    · rw [if_neg h1]; exact Ws_F _
  · rw [if_neg h0]; exact Ws_F _
def AgS (N : Nat) (S S' : vS) : Prop := (∀ k j, k ≠ 0 → k ≠ 34 + N → (3 ≤ k → k ≤ 9 → j ≠ N) → S' k j = S k j) ∧ ∀ j, 2 < j → j < 10 ∨ 12 < j → S' 0 j = S 0 j
theorem IV_spell {S S' : vS} {b' : Bk} {N : Nat} (hI : IV S) (hN : N < 20) (h : AgS N S S') (h00 : S' 0 0 = nI 0) (h10 : S' 0 10 = nI 0) (hb' : IVb S' b') : IV S' := by
  obtain ⟨⟨b, i1⟩, ⟨tn, i2⟩, ⟨rn, i3⟩, i4, i5, hk9, kb, i6⟩ := hI
  have g : ∀ k j, 9 < k → k ≠ 34 + N → S' k j = S k j := fun k j h1 h2 => h.1 k j (by omega) h2 (fun _ q => absurd q (by omega))
  refine ⟨⟨b', hb'⟩, ⟨0, by omega, h00, h10, fun j hj => absurd hj (by omega)⟩, ⟨rn, i3.1, ?_, ?_, fun j hj => ?_⟩, fun j => ?_, fun j hj => ?_, hk9, kb, ?_, ?_, fun q => ?_⟩
  · rw [h.2 5 (by omega) (by omega)]; exact i3.2.1
  · rw [h.2 17 (by omega) (by omega)]; exact i3.2.2.1
  · rw [g 20 j (by omega) (by omega), g 32 j (by omega) (by omega)]; exact i3.2.2.2 j hj
  · rw [h.1 1 j (by omega) (by omega) (fun q => absurd q (by omega)), g 33 j (by omega) (by omega)]; exact i4 j
  · rw [g 13 j (by omega) (by omega)]; exact i5 j hj
  · rw [h.2 6 (by omega) (by omega)]; exact i6.1
  · rw [h.2 18 (by omega) (by omega)]; exact i6.2.1
  · obtain ⟨q1, q2, q3, q4⟩ := i6.2.2 q
    refine ⟨q1, q2, ⟨?_, fun s c hs hc => ?_, fun l j hl hj => ?_, fun l hl => ?_, fun x y hx hy => ?_⟩, ?_⟩
    · rw [h.2 13 (by omega) (by omega)]; exact q3.1
    · rw [g _ c (by omega) (by omega)]; exact q3.2.1 s c hs hc
    · rw [g _ j (by omega) (by omega)]; exact q3.2.2.1 l j hl hj
    · rw [g _ l (by omega) (by omega)]; exact q3.2.2.2.1 l hl
    · rw [g _ y (by omega) (by omega)]; exact q3.2.2.2.2 x y hx hy
    · obtain ⟨r1, r2, r3, r4, r5⟩ := q4
      have e : ∀ j, S' 21 j = S 21 j := fun j => g 21 j (by omega) (by omega)
      exact ⟨by rw [e]; exact r1, fun s c hs hc => by rw [e]; exact r2 s c hs hc, fun l j hl hj => by rw [e]; exact r3 l j hl hj, fun l hl => by rw [e]; exact r4 l hl, fun x y hx hy => by rw [e]; exact r5 x y hx hy⟩
theorem IVb_same {S S' : vS} {b : Bk} (hb : IVb S b) (hN : bN b < 20) (h : AgS (bN b) S S') (h12 : S' 0 12 = S 0 12) (h2 : S' 0 2 = S 0 2) : IVb S' b := by
  obtain ⟨k1, k2, ⟨x1, x2, x3, x4, x5⟩, ⟨m1, m2, m3, m4⟩, k5, k6⟩ := hb
  have g : ∀ k j, 9 < k → k ≠ 34 + bN b → S' k j = S k j := fun k j h1 h2 => h.1 k j (by omega) h2 (fun _ q => absurd q (by omega))
  refine ⟨k1, k2, ⟨by rw [h12]; exact x1, fun s c hs hc => ?_, fun l j hl hj => ?_, fun l hl => ?_, fun x y hx hy => ?_⟩, ⟨fun s c hs hc => ?_, fun l j hl hj => ?_, fun l hl => ?_, fun x y hx hy => ?_⟩, by rw [h2]; exact k5, by rw [h.2 3 (by omega) (by omega)]; exact k6⟩
  · rw [g _ c (by omega) (by omega)]; exact x2 s c hs hc
  · rw [g _ j (by omega) (by omega)]; exact x3 l j hl hj
  · rw [g _ l (by omega) (by omega)]; exact x4 l hl
  · rw [g _ y (by omega) (by omega)]; exact x5 x y hx hy
  · rw [h.1 _ s (by omega) (by omega) (fun _ _ => by omega)]; exact m1 s c hs hc
  · rw [g _ _ (by omega) (by omega)]; exact m2 l j hl hj
  · rw [g _ l (by omega) (by omega)]; exact m3 l hl
  · rw [g _ _ (by omega) (by omega)]; exact m4 x y hx hy
theorem IVb_new {S S' : vS} {b : Bk} {v : Nat → Nat} (hb : IVb S b) (hN : bN b < 20) (h : AgS (bN b) S S') (h12 : S' 0 12 = nI (bN b + 1)) (h2 : S' 0 2 = nI (bN b + 1)) (hc : ∀ c, c < 7 → S' (34 + bN b) c = nI (v c)) (hm : ∀ c, c < 7 → S' (3 + c) (bN b) = nI (v c)) (ok : v 0 < 6 ∧ v 1 < 4 ∧ v 2 < v 3 ∧ v 3 ≤ 900 ∧ v 4 ≤ 999 ∧ v 5 ≤ 1 ∧ v 6 ≤ 1) : IVb S' (bN b + 1, fun c s => if s = bN b then v c else bC b c s, bL b, bK b, bP b) := by
  obtain ⟨k1, k2, ⟨x1, x2, x3, x4, x5⟩, ⟨m1, m2, m3, m4⟩, k5, k6⟩ := hb
  have g : ∀ k j, 9 < k → k ≠ 34 + bN b → S' k j = S k j := fun k j h1 h2 => h.1 k j (by omega) h2 (fun _ q => absurd q (by omega))
  refine ⟨⟨fun s hs => ?_, k1.2⟩, ?_, ⟨h12, fun s c hs hc' => ?_, fun l j hl hj => ?_, fun l hl => ?_, fun x y hx hy => ?_⟩, ⟨fun s c hs hc' => ?_, fun l j hl hj => ?_, fun l hl => ?_, fun x y hx hy => ?_⟩, h2, by rw [h.2 3 (by omega) (by omega)]; exact k6⟩
  · have hs' : s < bN b + 1 := hs
    by_cases e : s = bN b
    · subst e
      simp only [sOk, bC, if_true]
      exact ok
    · have := k1.1 s (by omega)
      simp only [sOk, bC, if_neg e]
      exact this
  · show bN b + 1 ≤ 20
    omega
  · have hs' : s < bN b + 1 := hs
    show S' (34 + s) c = nI (if s = bN b then v c else bC b c s)
    by_cases e : s = bN b
    · rw [if_pos e, e]; exact hc c hc'
    · rw [if_neg e, g _ c (by omega) (by omega)]; exact x2 s c (by omega) hc'
  · rw [g _ j (by omega) (by omega)]; exact x3 l j hl hj
  · rw [g _ l (by omega) (by omega)]; exact x4 l hl
  · rw [g _ y (by omega) (by omega)]; exact x5 x y hx hy
  · have hs' : s < bN b + 1 := hs
    show S' (3 + c) s = nI (if s = bN b then v c else bC b c s)
    by_cases e : s = bN b
    · rw [if_pos e, e]; exact hm c hc'
    · rw [if_neg e, h.1 _ s (by omega) (by omega) (fun _ _ => e)]; exact m1 s c (by omega) hc'
  · rw [g _ _ (by omega) (by omega)]; exact m2 l j hl hj
  · rw [g _ l (by omega) (by omega)]; exact m3 l hl
  · rw [g _ _ (by omega) (by omega)]; exact m4 x y hx hy
theorem t_spell {S : vS} (hI : IV S) : Alike f_X3_spell f_X4_spell S := by
  obtain ⟨⟨b, i1⟩, ⟨tn, i2⟩, ⟨rn, i3⟩, i4, i5, hk9, kb, i6⟩ := id hI
  have hn := i1.2.1
  have h12 : S 0 12 = nI (bN b) := i1.2.2.1.1
  have h2 : S 0 2 = nI (bN b) := i1.2.2.2.2.1
  by_cases hN : bN b < 20
  rotate_left
  · have e20 : bN b = 20 := by omega
    exact ref_end hI (w := -6) (k := 6) (by decide) (by decide) (by rw [f_X3_spell, h12, L20, e20, if_neg (by decide)]) (fun S1 _ h => by rw [f_X4_spell, h 0 (by decide), h2, L20, e20, if_pos rfl])
  · obtain ⟨t, hC, hR⟩ : ∃ t : Nat → Nat, TC S t tn ∧ TR S t tn := by
      have hv : ∀ j, j < tn → ∃ v, (S 22 j).toNatClampNeg = v ∧ S 2 j = nI v ∧ S 22 j = nI v ∧ v < 256 := fun j hj => by
        obtain ⟨v, v1, v2, v3⟩ := i2.2.2.2 j hj
        exact ⟨v, by rw [v3, nI_clamp (by omega)], v2, v3, v1⟩
      refine ⟨fun j => (S 22 j).toNatClampNeg, ⟨i2.2.2.1, i2.1, fun j hj => ?_⟩, ⟨i2.2.1, i2.1, fun j hj => ?_⟩⟩
      · obtain ⟨v, e, v1, v2, v3⟩ := hv j hj
        dsimp only
        rw [e]; exact ⟨v2, v3⟩
      · obtain ⟨v, e, v1, v2, v3⟩ := hv j hj
        dsimp only
        rw [e]; exact ⟨v1, v3⟩
    have W := Ws_rd t tn
    have hcl : (nI (bN b)).toNatClampNeg = bN b := nI_clamp (by omega)
    have fX3 : f_X3_spell S = b2 (f_X2_readInto (34 + bN b) S) fun r5 S4 => lt (upk S4 0 (upd (S4 0) 10 (0 : Int32))) fun S6 => if r5 = 0 then some (((-20 : Int32) - (S6 0 11)), S6) else lt (upk S6 0 (upd (S6 0) 12 ((S6 0 12) + (1 : Int32)))) fun S8 => some (((S8 0 12) - (1 : Int32)), S8) := by
      rw [f_X3_spell, h12, L20, if_pos ((nI_ltI (by omega) (by omega)).mpr hN), if_pos (inb_n hN (by omega)), hcl]
    have fX4 : ∀ S1 : vS, S1 0 2 = nI (bN b) → f_X4_spell S1 = b2 (f_X4_reads S1) fun r4 S3 => lt (upk S3 0 (upd (S3 0) 0 (0 : Int32))) fun S5 => if r4 = 0 then some (((-20 : Int32) - (S5 0 1)), S5) else if inb (S5 0 2) 21 = true then lt (upk S5 9 (upd (S5 9) ((S5 0 2).toNatClampNeg) (1 : Int32))) fun S8 => lt (upk S8 0 (upd (S8 0) 2 ((S8 0 2) + (1 : Int32)))) fun S9 => some (((S9 0 2) - (1 : Int32)), S9) else none := fun S1 q => by
      rw [f_X4_spell, q, L20, if_neg (fun g => absurd ((nI_eq (by omega) (by omega)).mp g) (by omega))]
    obtain ⟨S1, e1, a1, p1, v1⟩ := c_into (a := 34 + bN b) hC (by omega) (alen_34 hN)
    have A2 : Ag [34 + bN b] [11, 10, 12] S (upk S1 0 (upd (S1 0) 10 (0 : Int32))) := (a1.mono (fun k q => q) (by decide)).tr (Ag.j _ (by decide))
    have s2a : ∀ j, j < 7 → (rd t tn).1 = true → (upk S1 0 (upd (S1 0) 10 (0 : Int32))) (34 + bN b) j = nI ((rd t tn).2.2 j) := fun j hj q => by rw [upk_ne _ _ (by omega)]; exact v1 q j hj
    have s2p : (upk S1 0 (upd (S1 0) 10 (0 : Int32))) 0 11 = nI (rd t tn).2.1 := by rw [upk_eq, upd_k, if_neg (by decide)]; exact p1
    have s2t : (upk S1 0 (upd (S1 0) 10 (0 : Int32))) 0 10 = nI 0 := by rw [upk_eq, upd_k, if_pos rfl]; rfl
    have s2n : (upk S1 0 (upd (S1 0) 10 (0 : Int32))) 0 12 = nI (bN b) := by rw [upk_eq, upd_k, if_neg (by decide), a1.2 12 (by decide)]; exact h12
    rw [e1, b2_some, lt_eq] at fX3
    generalize upk S1 0 (upd (S1 0) 10 (0 : Int32)) = S2 at A2 s2a s2p s2t s2n fX3
    have back : ∀ {S' : vS}, Ag [34 + bN b] [11, 10, 12] S S' → TR S' t tn := fun {S'} h => ⟨by rw [h.2 0 (by decide)]; exact hR.1, hR.2.1, fun j hj => by rw [h.1 2 (by decide) (by simp; omega)]; exact hR.2.2 j hj⟩
    by_cases hr : (rd t tn).1 = true
    · rw [hr, if_neg (by decide), s2n, lt_eq, nI_1] at fX3
      have A3 : Ag [34 + bN b] [11, 10, 12] S (upk S2 0 (upd (S2 0) 12 (nI (bN b + 1)))) := A2.tr (Ag.j _ (by decide))
      have c3 : ∀ j, j < 7 → (upk S2 0 (upd (S2 0) 12 (nI (bN b + 1)))) (34 + bN b) j = nI ((rd t tn).2.2 j) := fun j hj => by rw [upk_ne _ _ (by omega)]; exact s2a j hj hr
      have n3 : (upk S2 0 (upd (S2 0) 12 (nI (bN b + 1)))) 0 12 = nI (bN b + 1) := by rw [upk_eq, upd_k, if_pos rfl]
      have t3 : (upk S2 0 (upd (S2 0) 12 (nI (bN b + 1)))) 0 10 = nI 0 := by rw [upk_eq, upd_k, if_neg (by decide)]; exact s2t
      rw [n3] at fX3
      generalize upk S2 0 (upd (S2 0) 12 (nI (bN b + 1))) = S3 at A3 c3 n3 t3 fX3
      obtain ⟨S4, e4, a4, p4, v4⟩ := q_reads (N := bN b) hN (back A3) (by rw [A3.2 2 (by decide)]; exact h2)
      have f4 := fX4 S3 (by rw [A3.2 2 (by decide)]; exact h2)
      have e52 : (upk S4 0 (upd (S4 0) 0 (0 : Int32))) 0 2 = nI (bN b) := by rw [upk_eq, upd_k, if_neg (by decide), a4.2 2 (by decide), A3.2 2 (by decide)]; exact h2
      rw [e4, b2_some, lt_eq, hr, if_neg (by decide), e52, if_pos (inb_n (by omega) (by omega)), hcl, lt_eq, lt_eq, upk_ne _ _ (show (0 : Nat) ≠ 9 by decide), e52, nI_1] at f4
      rw [upk_eq, upd_k, if_pos rfl] at f4
      refine ⟨_, S3, _, fX3, f4, ?_⟩
      have hag : AgS (bN b) S (upk (upk (upk S4 0 (upd (S4 0) 0 (0 : Int32))) 9 (upd (upk S4 0 (upd (S4 0) 0 (0 : Int32)) 9) (bN b) (1 : Int32))) 0 (upd (upk S4 0 (upd (S4 0) 0 (0 : Int32)) 0) 2 (nI (bN b + 1)))) := by
        refine ⟨fun k j k0 ka kc => ?_, fun j j1 j2 => ?_⟩
        · rw [upk_ne _ _ k0]
          by_cases e9 : k = 9
          · subst e9
            rw [upk_eq, upd_k, if_neg (kc (by omega) (by omega)), upk_ne _ _ (by decide), a4.1 9 j (by decide) (fun _ q => absurd q (by omega)), A3.1 9 (by decide) (by simp; omega)]
          · rw [upk_ne _ _ e9, upk_ne _ _ k0, a4.1 k j k0 (fun q1 q2 => kc q1 (by omega)), A3.1 k k0 (by simp; omega)]
        · rw [upk_eq, upd_k, if_neg (by omega), upk_eq, upd_k, if_neg (by omega), a4.2 j (by omega), A3.2 j (by simp; omega)]
      obtain ⟨l, w, f, u, y, d, ev, o1, o2, o3, o4, o5, o6⟩ := W hr
      rw [ev] at c3 v4
      refine IV_spell (N := bN b) hI hN hag ?_ ?_ (IVb_new (v := vs7 l w f u y d) i1 hN hag ?_ ?_ ?_ ?_ ⟨o1, o2, o3, o4, o5, o6, Nat.le_refl 1⟩)
      · rw [upk_eq, upd_k, if_neg (by decide), upk_eq, upd_k, if_pos rfl]; rfl
      · rw [upk_eq, upd_k, if_neg (by decide), upk_eq, upd_k, if_neg (by decide), a4.2 10 (by decide)]; exact t3
      · rw [upk_eq, upd_k, if_neg (by decide), upk_eq, upd_k, if_neg (by decide), a4.2 12 (by decide)]; exact n3
      · rw [upk_eq, upd_k, if_pos rfl]
      · intro c hc
        rw [upk_ne _ _ (by omega), upk_ne _ _ (by omega), upk_ne _ _ (by omega), a4.1 _ c (by omega) (fun _ q => absurd q (by omega))]
        exact c3 c hc
      · intro c hc
        by_cases e6 : c = 6
        · subst e6
          rw [upk_ne _ _ (by decide), upk_eq, upd_k, if_pos rfl]
          rfl
        · rw [upk_ne _ _ (by omega), upk_ne _ _ (by omega), upk_ne _ _ (by omega)]
          exact v4 hr c (by omega)
    · rw [Bool.eq_false_iff.mpr hr, if_pos (by decide), s2p] at fX3
      obtain ⟨S4, e4, a4, p4, v4⟩ := q_reads (N := bN b) hN (back A2) (by rw [A2.2 2 (by decide)]; exact h2)
      have f4 := fX4 S2 (by rw [A2.2 2 (by decide)]; exact h2)
      have e51 : (upk S4 0 (upd (S4 0) 0 (0 : Int32))) 0 1 = nI (rd t tn).2.1 := by rw [upk_eq, upd_k, if_neg (by decide)]; exact p4
      rw [e4, b2_some, lt_eq, Bool.eq_false_iff.mpr hr, if_pos (by decide), e51] at f4
      refine ⟨_, S2, _, fX3, f4, ?_⟩
      have hag : AgS (bN b) S (upk S4 0 (upd (S4 0) 0 (0 : Int32))) := by
        refine ⟨fun k j k0 ka kc => ?_, fun j j1 j2 => ?_⟩
        · rw [upk_ne _ _ k0, a4.1 k j k0 (fun q1 q2 => kc q1 (by omega)), A2.1 k k0 (by simp; omega)]
        · rw [upk_eq, upd_k, if_neg (by omega), a4.2 j (by omega), A2.2 j (by simp; omega)]
      refine IV_spell (N := bN b) hI hN hag ?_ ?_ (IVb_same i1 hN hag ?_ ?_)
      · rw [upk_eq, upd_k, if_pos rfl]; rfl
      · rw [upk_eq, upd_k, if_neg (by decide), a4.2 10 (by decide)]; exact s2t
      · rw [upk_eq, upd_k, if_neg (by decide), a4.2 12 (by decide), s2n, h12]
      · rw [upk_eq, upd_k, if_neg (by decide), a4.2 2 (by decide), A2.2 2 (by decide)]
