/-! what holds between the calls -/
def RMk (S : vS) (b : Bk) : Prop := S 21 243 = nI (bN b) ∧ (∀ s c, s < bN b → c < 7 → S 21 (21 * c + s) = nI (bC b c s)) ∧ (∀ l j, l < 6 → j < 9 → S 21 (147 + (9 * l + j)) = nI (bL b l j)) ∧ (∀ l, l < 6 → S 21 (201 + l) = nI (bK b l)) ∧ ∀ x y, x < 6 → y < 6 → S 21 (207 + (6 * x + y)) = nI (bP b x y)
def IVb (S : vS) (b : Bk) : Prop := bOk b ∧ bN b ≤ 20 ∧ RXb S b ∧ RM S b ∧ S 0 2 = nI (bN b) ∧ S 0 3 = -1
def IVt (S : vS) (tn : Nat) : Prop := tn ≤ 16 ∧ S 0 0 = nI tn ∧ S 0 10 = nI tn ∧ ∀ j, j < tn → ∃ v, v < 256 ∧ S 2 j = nI v ∧ S 22 j = nI v
def IVr (S : vS) (rn : Nat) : Prop := rn ≤ 6 ∧ S 0 5 = nI rn ∧ S 0 17 = nI rn ∧ ∀ j, j < rn → S 20 j = S 32 j
def IVn (S : vS) : Prop := ∀ j, S 1 j = S 33 j
def IVm (S : vS) : Prop := ∀ j, j < 9 → S 13 j = lawMost j
def IVk (S : vS) (hk : Bool) (b : Bk) : Prop := S 0 6 = rI hk ∧ S 0 18 = rI hk ∧ (hk = true → bOk b ∧ bN b ≤ 20 ∧ RXk S b ∧ RMk S b)
def IV (S : vS) : Prop := (∃ b, IVb S b) ∧ (∃ tn, IVt S tn) ∧ (∃ rn, IVr S rn) ∧ IVn S ∧ IVm S ∧ ∃ hk b, IVk S hk b
section AG
variable {ks js : List Nat} {S S' : vS}
theorem IVb_ag {b : Bk} (h : Ag ks js S S') (hk : ∀ k, k ∈ ks → 12 < k ∧ k < 34 ∧ k ≠ 23) (hj : 12 ∉ js ∧ 2 ∉ js ∧ 3 ∉ js) (hI : IVb S b) : IVb S' b :=
  ⟨hI.1, hI.2.1, RX_ag h (fun k q => by have := hk k q; omega) hj.1 (by decide) hI.2.2.1, RM_ag h (fun k q => (hk k q).1) hI.2.2.2.1, by rw [h.2 2 hj.2.1]; exact hI.2.2.2.2.1, by rw [h.2 3 hj.2.2]; exact hI.2.2.2.2.2⟩
theorem IVt_ag {tn : Nat} (h : Ag ks js S S') (hk : 2 ∉ ks ∧ 22 ∉ ks) (hj : 0 ∉ js ∧ 10 ∉ js) (hI : IVt S tn) : IVt S' tn :=
  ⟨hI.1, by rw [h.2 0 hj.1]; exact hI.2.1, by rw [h.2 10 hj.2]; exact hI.2.2.1, fun j hj2 => by rw [h.1 2 (by decide) hk.1, h.1 22 (by decide) hk.2]; exact hI.2.2.2 j hj2⟩
theorem IVr_ag {rn : Nat} (h : Ag ks js S S') (hk : 20 ∉ ks ∧ 32 ∉ ks) (hj : 5 ∉ js ∧ 17 ∉ js) (hI : IVr S rn) : IVr S' rn :=
  ⟨hI.1, by rw [h.2 5 hj.1]; exact hI.2.1, by rw [h.2 17 hj.2]; exact hI.2.2.1, fun j hj2 => by rw [h.1 20 (by decide) hk.1, h.1 32 (by decide) hk.2]; exact hI.2.2.2 j hj2⟩
theorem IVn_ag (h : Ag ks js S S') (hk : 1 ∉ ks ∧ 33 ∉ ks) (hI : IVn S) : IVn S' := fun j => by rw [h.1 1 (by decide) hk.1, h.1 33 (by decide) hk.2]; exact hI j
theorem IVm_ag (h : Ag ks js S S') (hk : 13 ∉ ks) (hI : IVm S) : IVm S' := fun j hj => by rw [h.1 13 (by decide) hk]; exact hI j hj
theorem IVk_ag {hk9 : Bool} {b : Bk} (h : Ag ks js S S') (hk : ∀ k, k ∈ ks → k < 66 ∧ k ≠ 21 ∧ k ≠ 24) (hj : 6 ∉ js ∧ 18 ∉ js ∧ 13 ∉ js) (hI : IVk S hk9 b) : IVk S' hk9 b := by
  refine ⟨by rw [h.2 6 hj.1]; exact hI.1, by rw [h.2 18 hj.2.1]; exact hI.2.1, fun q => ?_⟩
  obtain ⟨q1, q2, q3, q4⟩ := hI.2.2 q
  refine ⟨q1, q2, RX_ag h (fun k q => by have := hk k q; omega) hj.2.2 (by decide) q3, ?_⟩
  have e : S' 21 = S 21 := h.1 21 (by decide) (fun q => (hk 21 q).2.1 rfl)
  unfold RMk
  rw [e]
  exact q4
/-- what is only found anew -/
theorem IV_ag (h : Ag ks js S S') (hk : ∀ k, k ∈ ks → (14 ≤ k ∧ k ≤ 19) ∨ (25 ≤ k ∧ k ≤ 31)) (hj : ∀ j, j ∈ js → j = 4 ∨ j = 1 ∨ j = 7 ∨ j = 8 ∨ j = 11 ∨ (14 ≤ j ∧ j ≤ 16)) (hI : IV S) : IV S' := by
  obtain ⟨⟨b, i1⟩, ⟨tn, i2⟩, ⟨rn, i3⟩, i4, i5, hk9, kb, i6⟩ := hI
  have nk : ∀ k, ¬ ((14 ≤ k ∧ k ≤ 19) ∨ (25 ≤ k ∧ k ≤ 31)) → k ∉ ks := fun k q r => q (hk k r)
  have nj : ∀ j, ¬ (j = 4 ∨ j = 1 ∨ j = 7 ∨ j = 8 ∨ j = 11 ∨ (14 ≤ j ∧ j ≤ 16)) → j ∉ js := fun j q r => q (hj j r)
  exact ⟨⟨b, IVb_ag h (fun k q => by have := hk k q; omega) ⟨nj _ (by decide), nj _ (by decide), nj _ (by decide)⟩ i1⟩, ⟨tn, IVt_ag h ⟨nk _ (by decide), nk _ (by decide)⟩ ⟨nj _ (by decide), nj _ (by decide)⟩ i2⟩, ⟨rn, IVr_ag h ⟨nk _ (by decide), nk _ (by decide)⟩ ⟨nj _ (by decide), nj _ (by decide)⟩ i3⟩, IVn_ag h ⟨nk _ (by decide), nk _ (by decide)⟩ i4, IVm_ag h (nk _ (by decide)) i5, hk9, kb, IVk_ag h (fun k q => by have := hk k q; omega) ⟨nj _ (by decide), nj _ (by decide), nj _ (by decide)⟩ i6⟩
end AG
theorem RE_of {S : vS} {b : Bk} (h : IVb S b) : RE S b := by
  refine ⟨fun s c hs hc => h.2.2.2.1.1 s c hs (by omega), fun s hs => ⟨fun q => ?_, fun _ => h.2.2.2.1.1 s 6 hs (by omega)⟩, h.2.2.2.1.2.1, h.2.2.2.1.2.2.1, h.2.2.2.1.2.2.2⟩
  rw [h.2.2.2.2.2] at q
  have h2 : (0 : Int32) ≤ nI s := nI_pos' (by have := h.2.1; omega)
  rw [q] at h2
  exact absurd h2 (by decide)
/-- the class's call f, then the reference's call g: the same answer, and all holds again -/
def Alike (f g : vS → Option (Int32 × vS)) (S : vS) : Prop := ∃ r S1 S2, f S = some (r, S1) ∧ g S1 = some (r, S2) ∧ IV S2
theorem b2_id {o : Option (Int32 × vS)} : (b2 o fun r S => some (r, S)) = o := by
  cases o with
  | none => rfl
  | some q => rfl
theorem p_ref {w : Int32} {k : Nat} (hw : -w = nI k) (hk : k < 7) (S : vS) : f_X3_refuse w S = some (w, upk S 33 (upd (S 33) k (S 33 k + 1))) := by
  rw [f_X3_refuse, hw, if_pos (inb_n hk (by omega))]
  simp only [lt, nI_clamp (show k < 2 ^ 31 by omega)]
theorem q_no {w : Int32} {k : Nat} (hw : -w = nI k) (hk : k < 7) (S : vS) : f_X4_no w S = some (w, upk S 1 (upd (S 1) k (S 1 k + 1))) := by
  rw [f_X4_no, hw, if_pos (inb_n hk (by omega))]
  simp only [lt, nI_clamp (show k < 2 ^ 31 by omega)]
theorem IV_ref {S : vS} (hI : IV S) (k : Nat) : IV (upk (upk S 33 (upd (S 33) k (S 33 k + 1))) 1 (upd (S 1) k (S 1 k + 1))) := by
  obtain ⟨⟨b, i1⟩, ⟨tn, i2⟩, ⟨rn, i3⟩, i4, i5, hk9, kb, i6⟩ := hI
  have h : Ag [33, 1] [] S (upk (upk S 33 (upd (S 33) k (S 33 k + 1))) 1 (upd (S 1) k (S 1 k + 1))) := (Ag.k _ (by decide) (by decide)).tr (Ag.k _ (by decide) (by decide))
  refine ⟨⟨b, ?_⟩, ⟨tn, IVt_ag h (by decide) (by decide) i2⟩, ⟨rn, IVr_ag h (by decide) (by decide) i3⟩, ?_, IVm_ag h (by decide) i5, hk9, kb, IVk_ag h (by decide) (by decide) i6⟩
  · refine ⟨i1.1, i1.2.1, RX_ag h (by decide) (by decide) (by decide) i1.2.2.1, ?_, by rw [h.2 2 (by decide)]; exact i1.2.2.2.2.1, by rw [h.2 3 (by decide)]; exact i1.2.2.2.2.2⟩
    have hne : ∀ k', k' ≠ 0 → k' ≠ 33 → k' ≠ 1 → (upk (upk S 33 (upd (S 33) k (S 33 k + 1))) 1 (upd (S 1) k (S 1 k + 1))) k' = S k' := fun k' a c d => by rw [upk_ne _ _ d, upk_ne _ _ c]
    obtain ⟨m1, m2, m3, m4⟩ := i1.2.2.2.1
    refine ⟨fun s c hs hc => ?_, fun l j hl hj => ?_, fun l hl => ?_, fun x y hx hy => ?_⟩
    · rw [hne _ (by omega) (by omega) (by omega)]; exact m1 s c hs hc
    · rw [hne _ (by omega) (by omega) (by omega)]; exact m2 l j hl hj
    · rw [hne _ (by omega) (by omega) (by omega)]; exact m3 l hl
    · rw [hne _ (by omega) (by omega) (by omega)]; exact m4 x y hx hy
  · intro j
    rw [upk_eq, upk_ne _ _ (by decide), upk_eq, upd_k, upd_k, i4 j, i4 k]
/-- a refusal -/
theorem ref_end {S : vS} (hI : IV S) {f g : vS → Option (Int32 × vS)} {w : Int32} {k : Nat} (hw : -w = nI k) (hk : k < 7) (hf : f S = b2 (f_X3_refuse w S) fun r S => some (r, S)) (hg : ∀ S1, Ag [33] [] S S1 → (∀ k, k ≠ 33 → S1 k = S k) → g S1 = b2 (f_X4_no w S1) fun r S => some (r, S)) : Alike f g S := by
  have h33 : ∀ k', k' ≠ 33 → upk S 33 (upd (S 33) k (S 33 k + 1)) k' = S k' := fun k' h => upk_ne S _ h
  refine ⟨w, _, _, by rw [hf, b2_id]; exact p_ref hw hk S, by rw [hg _ (Ag.k _ (by decide) (by decide)) h33, b2_id]; exact q_no hw hk _, ?_⟩
  rw [h33 1 (by decide)]
  exact IV_ref hI k
/-- numbers told -/
theorem ge_nneg {a : Int32} {n : Nat} (hn : n < 2 ^ 31) (h : nI n ≤ a) : ¬ a < 0 := fun q => absurd (Int32.lt_of_le_of_lt h q) (by rw [L0]; exact fun q => absurd ((nI_ltI hn (by omega)).mp q) (by omega))
theorem ge_gt {a : Int32} {n m : Nat} (hn : n < 2 ^ 31) (hm : m < n) (h : nI n ≤ a) : nI m < a := Int32.lt_of_lt_of_le ((nI_ltI (by omega) hn).mpr hm) h
theorem neg_lt {a : Int32} {n : Nat} (hn : n < 2 ^ 31) (h : a < 0) : a < nI n := Int32.lt_of_lt_of_le h (nI_pos' hn)
theorem land_cases (a : Int32) : ((∀ S, f_X3_isLand a S = some 0) ∧ ∀ S, f_X4_isLand a S = some 0) ∨ ∃ l, l < 6 ∧ a = nI l ∧ (∀ S, f_X3_isLand a S = some 1) ∧ ∀ S, f_X4_isLand a S = some 1 := by
  rcases pk_ix a (n := 6) (by decide) with h | h | ⟨l, hl, rfl⟩
  · exact Or.inl ⟨fun S => by rw [f_X3_isLand, if_pos h], fun S => by rw [f_X4_isLand, if_pos h]⟩
  · exact Or.inl ⟨fun S => by rw [f_X3_isLand, if_neg (ge_nneg (by decide) h), L6, if_pos h], fun S => by rw [f_X4_isLand, if_neg (ge_nneg (by decide) h), L6, if_pos h]⟩
  · refine Or.inr ⟨l, hl, rfl, fun S => ?_, fun S => ?_⟩
    · rw [f_X3_isLand, if_neg (nI_pos (by omega)), L6, if_neg (fun q => absurd ((nI_leI (by omega) (by omega)).mp q) (by omega))]
    · rw [f_X4_isLand, if_neg (nI_pos (by omega)), L6, if_neg (fun q => absurd ((nI_leI (by omega) (by omega)).mp q) (by omega))]
theorem kind_cases (a : Int32) : ((∀ S, f_X3_isKind a S = some 0) ∧ ∀ S, f_X4_isIn a 0 5 S = some 0) ∨ ∃ l, l < 6 ∧ a = nI l ∧ (∀ S, f_X3_isKind a S = some 1) ∧ ∀ S, f_X4_isIn a 0 5 S = some 1 := by
  rcases pk_ix a (n := 6) (by decide) with h | h | ⟨l, hl, rfl⟩
  · exact Or.inl ⟨fun S => by rw [f_X3_isKind, if_pos h], fun S => by rw [f_X4_isIn, if_pos h]⟩
  · exact Or.inl ⟨fun S => by rw [f_X3_isKind, if_neg (ge_nneg (by decide) h), L6, if_pos h], fun S => by rw [f_X4_isIn, if_neg (ge_nneg (by decide) h), L5, if_pos (ge_gt (by decide) (by decide) h)]⟩
  · refine Or.inr ⟨l, hl, rfl, fun S => ?_, fun S => ?_⟩
    · rw [f_X3_isKind, if_neg (nI_pos (by omega)), L6, if_neg (fun q => absurd ((nI_leI (by omega) (by omega)).mp q) (by omega))]
    · rw [f_X4_isIn, if_neg (nI_pos (by omega)), L5, if_neg (fun q => absurd ((nI_ltI (by omega) (by omega)).mp q) (by omega))]
theorem q_isIn_no {a : Int32} {n : Nat} (hn : n + 1 < 2 ^ 31) (h : a < 0 ∨ nI (n + 1) ≤ a) (S : vS) : f_X4_isIn a 0 (nI n) S = some 0 := by
  rcases h with h | h
  · rw [f_X4_isIn, if_pos h]
  · rw [f_X4_isIn, if_neg (ge_nneg hn h), if_pos (ge_gt hn (by omega) h)]
theorem q_isIn_yes {j n : Nat} (hn : n + 1 < 2 ^ 31) (h : j ≤ n) (S : vS) : f_X4_isIn (nI j) 0 (nI n) S = some 1 := by
  rw [f_X4_isIn, if_neg (nI_pos (by omega)), if_neg (fun q => absurd ((nI_ltI (by omega) (by omega)).mp q) (by omega))]
theorem q_out_lo {a : Int32} (n : Int32) (h : a < 0) (S : vS) : f_X4_out a 0 n S = some (-4) := by
  rw [f_X4_out, if_neg (fun q => absurd (Int32.lt_of_le_of_lt q h) (Int32.lt_irrefl))]
theorem q_out_hi {a n : Int32} (h0 : ¬ a < 0) (h : n < a) (S : vS) : f_X4_out a 0 n S = some (-6) := by
  rw [f_X4_out, if_pos (Int32.not_lt.mp h0), if_neg (fun q => absurd (Int32.lt_of_lt_of_le h q) (Int32.lt_irrefl))]
theorem q_out_in {a n : Int32} (h0 : ¬ a < 0) (h : a ≤ n) (S : vS) : f_X4_out a 0 n S = some 0 := by
  rw [f_X4_out, if_pos (Int32.not_lt.mp h0), if_pos h]
theorem sp_cases {S : vS} {b : Bk} (h : IVb S b) (a : Int32) : (f_X3_isSpell a S = some 0 ∧ ∀ S1 : vS, S1 0 2 = S 0 2 → f_X4_isSpell a S1 = some 0) ∨ ∃ s, s < bN b ∧ a = nI s ∧ f_X3_isSpell a S = some 1 ∧ ∀ S1 : vS, S1 0 2 = S 0 2 → f_X4_isSpell a S1 = some 1 := by
  have hn := h.2.1
  rcases pk_ix a (n := bN b) (by omega) with q | q | ⟨s, hs, rfl⟩
  · exact Or.inl ⟨by rw [f_X3_isSpell, if_pos q], fun S1 _ => by rw [f_X4_isSpell, if_pos q]⟩
  · exact Or.inl ⟨by rw [f_X3_isSpell, if_neg (ge_nneg (by omega) q), h.2.2.1.1, if_pos q], fun S1 e => by rw [f_X4_isSpell, if_neg (ge_nneg (by omega) q), e, h.2.2.2.2.1, if_pos q]⟩
  · refine Or.inr ⟨s, hs, rfl, ?_, fun S1 e => ?_⟩
    · rw [f_X3_isSpell, if_neg (nI_pos (by omega)), h.2.2.1.1, if_neg (fun q => absurd ((nI_leI (by omega) (by omega)).mp q) (by omega))]
    · rw [f_X4_isSpell, if_neg (nI_pos (by omega)), e, h.2.2.2.2.1, if_neg (fun q => absurd ((nI_leI (by omega) (by omega)).mp q) (by omega))]
