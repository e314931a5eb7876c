/-! feed -/
theorem RM_out {S S' : vS} {b : Bk} (h : ∀ k, 3 ≤ k → k ≤ 12 → S' k = S k) (hM : RM S b) : RM S' b := by
  obtain ⟨m1, m2, m3, m4⟩ := hM
  refine ⟨fun s c hs hc => ?_, fun l j hl hj => ?_, fun l hl => ?_, fun x y hx hy => ?_⟩
  · rw [h _ (by omega) (by omega)]; exact m1 s c hs hc
  · rw [h _ (by omega) (by omega)]; exact m2 l j hl hj
  · rw [h _ (by omega) (by omega)]; exact m3 l hl
  · rw [h _ (by omega) (by omega)]; exact m4 x y hx hy
theorem fd_se : ∀ v, v < 256 → (BitVec.ofNat 64 v).signExtend 32 = BitVec.ofNat 32 v := by decide +kernel
theorem fd_255 : ∀ k, k < 64 → ¬ k < 8 → (255#64).getLsbD k = false := by decide +kernel
theorem fd_eq (x : BitVec 64) {i : Nat} (hi : i < 8) : (x.sshiftRight (8 * i)) &&& 255#64 = (x >>> (8 * i)) &&& 255#64 := by
  apply BitVec.eq_of_getLsbD_eq
  intro k hk
  rw [BitVec.getLsbD_and, BitVec.getLsbD_and, BitVec.getLsbD_sshiftRight, BitVec.getLsbD_ushiftRight]
  by_cases h : k < 8
  · rw [if_pos (by omega)]
    have : decide (64 ≤ k) = false := by simp; omega
    rw [this]
    simp
  · rw [fd_255 k hk h, Bool.and_false, Bool.and_false]
def fdv (x : Int64) (i : Nat) : Nat := ((x.toBitVec >>> (8 * i)) &&& 255#64).toNat
theorem fd_lt (x : Int64) (i : Nat) : fdv x i < 256 := by
  unfold fdv
  rw [BitVec.toNat_and]
  have : (x.toBitVec >>> (8 * i)).toNat &&& (255#64).toNat ≤ (255#64).toNat := Nat.and_le_right
  have e : (255#64).toNat = 255 := rfl
  omega
theorem fd_nar (x : Int64) (i : Nat) : ((x.toBitVec >>> (8 * i)) &&& 255#64).signExtend 32 = BitVec.ofNat 32 (fdv x i) := by
  have h := fd_se _ (fd_lt x i)
  rw [← h]
  congr 1
  unfold fdv
  apply BitVec.eq_of_toNat_eq
  rw [BitVec.toNat_ofNat, Nat.mod_eq_of_lt (BitVec.isLt _)]
theorem fd_n1 : ∀ i, i < 8 → (UInt64.mod (((8 : Int32) * nI i).toInt64.toUInt64 &&& Int64.toUInt64 63) 64).toBitVec.toNat = 8 * i := by decide +kernel
theorem fd_n2 : ∀ i, i < 8 → ((((8 : Int32) * nI i).toInt64 &&& 63).toBitVec.smod 64).toNat = 8 * i := by decide +kernel
theorem fd_c (x : Int64) {i : Nat} (hi : i < 8) : ((x.toUInt64 >>> (((8 : Int32) * nI i).toInt64.toUInt64 &&& Int64.toUInt64 63)).toInt64 &&& (255 : Int64)).toInt32 = nI (fdv x i) := by
  apply Int32.toBitVec_inj.mp
  show ((x.toBitVec >>> (UInt64.mod (((8 : Int32) * nI i).toInt64.toUInt64 &&& Int64.toUInt64 63) 64).toBitVec.toNat) &&& 255#64).signExtend 32 = BitVec.ofNat 32 (fdv x i)
  rw [fd_n1 i hi]
  exact fd_nar x i
theorem fd_r (x : Int64) {i : Nat} (hi : i < 8) : ((x >>> (((8 : Int32) * nI i).toInt64 &&& 63)) &&& (255 : Int64)).toInt32 = nI (fdv x i) := by
  apply Int32.toBitVec_inj.mp
  show ((x.toBitVec.sshiftRight ((((8 : Int32) * nI i).toInt64 &&& 63).toBitVec.smod 64).toNat) &&& 255#64).signExtend 32 = BitVec.ofNat 32 (fdv x i)
  rw [fd_n2 i hi, fd_eq _ hi]
  exact fd_nar x i
theorem p_feed {x : Int64} {c t : Nat} (hc : c ≤ 8) (ht : t + c ≤ 16) : ∀ (k i : Nat), i + k = c → ∀ n (S : vS), k < n → S 0 10 = nI (t + i) → ∃ S', f_X3_feed_L42 n (nI c) x (nI i) S = some S' ∧ Ag [22] [10] S S' ∧ S' 0 10 = nI (t + c) ∧ (∀ j, i ≤ j → j < c → S' 22 (t + j) = nI (fdv x j)) ∧ ∀ j, j < t + i → S' 22 j = S 22 j := by
  intro k
  induction k with
  | zero =>
    intro i hi n S hk h
    obtain ⟨n, rfl⟩ : ∃ q, n = q + 1 := ⟨n - 1, by omega⟩
    rw [f_X3_feed_L42, if_pos ((nI_leI (by omega) (by omega)).mpr (by omega))]
    exact ⟨S, rfl, Ag.rf _ _ _, by rw [h]; congr 1; omega, fun j h1 h2 => by omega, fun j h => rfl⟩
  | succ k ih =>
    intro i hi n S hk h
    obtain ⟨n, rfl⟩ : ∃ q, n = q + 1 := ⟨n - 1, by omega⟩
    have hA : Ag [22] [10] S (upk (upk S 22 (upd (S 22) (t + i) (nI (fdv x i)))) 0 (upd ((upk S 22 (upd (S 22) (t + i) (nI (fdv x i)))) 0) 10 (nI (t + (i + 1))))) := (Ag.k _ (by decide) (by decide)).tr (Ag.j _ (by decide))
    have e0 : (upk S 22 (upd (S 22) (t + i) (nI (fdv x i)))) 0 = S 0 := upk_ne _ _ (by decide)
    obtain ⟨S', e, a', r, g, o⟩ := ih (i + 1) (by omega) n (upk (upk S 22 (upd (S 22) (t + i) (nI (fdv x i)))) 0 (upd ((upk S 22 (upd (S 22) (t + i) (nI (fdv x i)))) 0) 10 (nI (t + (i + 1))))) (by omega) (by rw [upk_eq, upd_k, if_pos rfl])
    refine ⟨S', ?_, hA.tr a', r, fun j h1 h2 => ?_, fun j h3 => ?_⟩
    · rw [f_X3_feed_L42, if_neg (fun q => absurd ((nI_leI (by omega) (by omega)).mp q) (by omega)), h, if_pos (inb_n (by omega) (by omega)), nI_clamp (by omega), fd_c x (by omega), nI_1]
      simp only [lt]
      rw [e0] at e
      rw [e0, h, nI_1]
      exact e
    · by_cases hj : j = i
      · subst hj
        rw [o (t + j) (by omega), upk_ne _ _ (by decide), upk_eq, upd_k, if_pos rfl]
      · exact g j (by omega) h2
    · rw [o j (by omega), upk_ne _ _ (by decide), upk_eq, upd_k, if_neg (by omega)]
theorem q_feed {x : Int64} {c t : Nat} (hc : c ≤ 8) (ht : t + c ≤ 16) : ∀ (k i : Nat), i + k = c → ∀ n (S : vS), k < n → S 0 0 = nI (t + i) → ∃ S', f_X4_feed_L44 n (nI c) x (nI i) S = some S' ∧ Ag [2] [0] S S' ∧ S' 0 0 = nI (t + c) ∧ (∀ j, i ≤ j → j < c → S' 2 (t + j) = nI (fdv x j)) ∧ ∀ j, j < t + i → S' 2 j = S 2 j := by
  intro k
  induction k with
  | zero =>
    intro i hi n S hk h
    obtain ⟨n, rfl⟩ : ∃ q, n = q + 1 := ⟨n - 1, by omega⟩
    rw [f_X4_feed_L44, if_pos ((nI_leI (by omega) (by omega)).mpr (by omega))]
    exact ⟨S, rfl, Ag.rf _ _ _, by rw [h]; congr 1; omega, fun j h1 h2 => by omega, fun j h => rfl⟩
  | succ k ih =>
    intro i hi n S hk h
    obtain ⟨n, rfl⟩ : ∃ q, n = q + 1 := ⟨n - 1, by omega⟩
    have hA : Ag [2] [0] S (upk (upk S 2 (upd (S 2) (t + i) (nI (fdv x i)))) 0 (upd ((upk S 2 (upd (S 2) (t + i) (nI (fdv x i)))) 0) 0 (nI (t + (i + 1))))) := (Ag.k _ (by decide) (by decide)).tr (Ag.j _ (by decide))
    have e0 : (upk S 2 (upd (S 2) (t + i) (nI (fdv x i)))) 0 = S 0 := upk_ne _ _ (by decide)
    obtain ⟨S', e, a', r, g, o⟩ := ih (i + 1) (by omega) n (upk (upk S 2 (upd (S 2) (t + i) (nI (fdv x i)))) 0 (upd ((upk S 2 (upd (S 2) (t + i) (nI (fdv x i)))) 0) 0 (nI (t + (i + 1))))) (by omega) (by rw [upk_eq, upd_k, if_pos rfl])
    refine ⟨S', ?_, hA.tr a', r, fun j h1 h2 => ?_, fun j h3 => ?_⟩
    · rw [f_X4_feed_L44, if_neg (fun q => absurd ((nI_leI (by omega) (by omega)).mp q) (by omega)), h, if_pos (inb_n (by omega) (by omega)), nI_clamp (by omega), fd_r x (by omega), nI_1]
      simp only [lt]
      rw [e0] at e
      rw [e0, h, nI_1]
      exact e
    · by_cases hj : j = i
      · subst hj
        rw [o (t + j) (by omega), upk_ne _ _ (by decide), upk_eq, upd_k, if_pos rfl]
      · exact g j (by omega) h2
    · rw [o j (by omega), upk_ne _ _ (by decide), upk_eq, upd_k, if_neg (by omega)]
theorem q_fno (a x4 : Int32) (x : Int64) (S : vS) (h : ¬ x4 = 0) : f_X4_feed_J29 a x x4 S = b2 (f_X4_no x4 S) fun r S => some (r, S) := by rw [f_X4_feed_J29, if_neg h]
theorem t_feed {S : vS} (hI : IV S) (a : Int32) (x : Int64) : Alike (f_X3_feed a x) (f_X4_feed a x) S := by
  obtain ⟨⟨b, i1⟩, ⟨tn, i2⟩, ⟨rn, i3⟩, i4, i5, hk9, kb, i6⟩ := id hI
  have f4 : ¬ (1 : Int32) ≤ a → Alike (f_X3_feed a x) (f_X4_feed a x) S := fun h =>
    ref_end hI (w := -4) (k := 4) (by decide) (by decide) (by rw [f_X3_feed, if_neg h]) (fun S1 _ _ => by rw [f_X4_feed, f_X4_out, if_neg h, b1_some, if_neg (by decide), q_fno _ _ _ _ (by decide)])
  rcases pk_ix a (n := 9) (by decide) with h | h | ⟨c, hc, rfl⟩
  · exact f4 (fun q => absurd (Int32.lt_of_le_of_lt q h) (by decide))
  · have h1 : (1 : Int32) ≤ a := Int32.le_trans (by decide) h
    have h8 : (8 : Int32) < a := ge_gt (n := 9) (m := 8) (by decide) (by decide) h
    exact ref_end hI (w := -6) (k := 6) (by decide) (by decide) (by rw [f_X3_feed, if_pos h1, if_pos h8]) (fun S1 _ _ => by rw [f_X4_feed, f_X4_out, if_pos h1, if_neg (fun q => absurd (Int32.lt_of_lt_of_le h8 q) (Int32.lt_irrefl)), b1_some, if_neg (by decide), q_fno _ _ _ _ (by decide)])
  · by_cases hc0 : c = 0
    · subst hc0
      exact f4 (by decide)
    · have ht16 := i2.1
      have e1 : (1 : Int32) ≤ nI c := by rw [L1]; exact (nI_leI (by omega) (by omega)).mpr (by omega)
      have e8 : ¬ (8 : Int32) < nI c := by rw [L8]; exact fun q => absurd ((nI_ltI (by omega) (by omega)).mp q) (by omega)
      have e8' : nI c ≤ 8 := by rw [L8]; exact (nI_leI (by omega) (by omega)).mpr (by omega)
      have e16 : (16 : Int32) - nI tn = nI (16 - tn) := by
        have : (16 : Int32) = nI (16 - tn) + nI tn := by rw [nI_add, Nat.sub_add_cancel ht16]; rfl
        rw [this]; grind
      have hout : ∀ S1, f_X4_out (nI c) 1 8 S1 = some 0 := fun S1 => by rw [f_X4_out, if_pos e1, if_pos e8']
      by_cases hm : tn + c ≤ 16
      · obtain ⟨S1, e, a1, r1, g1, o1⟩ := p_feed (x := x) (show c ≤ 8 by omega) hm c 0 (by omega) FU S (by unfold FU; omega) (by rw [i2.2.2.1]; rfl)
        obtain ⟨S2, e2, a2, r2, g2, o2⟩ := q_feed (x := x) (show c ≤ 8 by omega) hm c 0 (by omega) FU S1 (by unfold FU; omega) (by rw [a1.2 0 (by decide), i2.2.1]; rfl)
        have aA : Ag [22, 2] [10, 0] S S2 := (a1.mono (by decide) (by decide)).tr (a2.mono (by decide) (by decide))
        refine ⟨nI (tn + c), S1, S2, ?_, ?_, ⟨b, ?_⟩, ⟨tn + c, hm, r2, by rw [a2.2 10 (by decide), r1], fun j hj => ?_⟩, ⟨rn, IVr_ag aA (by decide) (by decide) i3⟩, IVn_ag aA (by decide) i4, IVm_ag aA (by decide) i5, hk9, kb, IVk_ag aA (by decide) (by decide) i6⟩
        · rw [f_X3_feed, if_pos e1, if_neg e8, i2.2.2.1, e16, if_pos ((nI_leI (by omega) (by omega)).mpr (by omega)), L0, e, b1_some, r1]
        · rw [f_X4_feed, hout, b1_some, if_pos rfl, a1.2 0 (by decide), i2.2.1, nI_add, L16, if_pos ((nI_leI (by omega) (by omega)).mpr hm), f_X4_feed_J29, if_pos rfl, L0, e2, b1_some, r2]
        · exact ⟨i1.1, i1.2.1, RX_ag aA (by decide) (by decide) (by decide) i1.2.2.1, RM_out (fun k h1 h2 => by rw [aA.1 k (by omega) (by simp; omega)]) i1.2.2.2.1, by rw [aA.2 2 (by decide)]; exact i1.2.2.2.2.1, by rw [aA.2 3 (by decide)]; exact i1.2.2.2.2.2⟩
        · rw [a2.1 22 (by decide) (by decide)]
          by_cases h : j < tn
          · rw [o1 j (by omega), o2 j (by omega), a1.1 2 (by decide) (by decide)]
            exact i2.2.2.2 j h
          · have q1 := g1 (j - tn) (by omega) (by omega)
            have q2 := g2 (j - tn) (by omega) (by omega)
            rw [show tn + (j - tn) = j by omega] at q1 q2
            exact ⟨_, fd_lt x (j - tn), q2, q1⟩
      · exact ref_end hI (w := -6) (k := 6) (by decide) (by decide) (by rw [f_X3_feed, if_pos e1, if_neg e8, i2.2.2.1, e16, if_neg (fun q => absurd ((nI_leI (by omega) (by omega)).mp q) (by omega))]) (fun S1 _ h => by rw [f_X4_feed, hout, b1_some, if_pos rfl, h 0 (by decide), i2.2.1, nI_add, L16, if_neg (fun q => absurd ((nI_leI (by omega) (by omega)).mp q) (by omega)), q_fno _ _ _ _ (by decide)])
