/-! HOW OFTEN IT WAS ASKED: the class's count is the reference's -/
section AskT
variable {σ : ST}
theorem ask_8 (τ : ST) (i l j : Nat) : ask τ i l 8 0 j = τ 8 0 j ∨ ask τ i l 8 0 j = -1 ∨ (j = i ∧ ask τ i l 8 0 j = l) := by
  unfold ask
  split
  · rw [s3_8, as2_8]
    split
    · exact Or.inr (Or.inr ⟨‹_›, rfl⟩)
    · exact Or.inl rfl
  · split
    · rw [s3_8, s3_8, as2_8]
      split
      · exact Or.inr (Or.inr ⟨‹_›, rfl⟩)
      · split
        · exact Or.inr (Or.inl rfl)
        · exact Or.inl rfl
    · rw [as2_8]
      exact Or.inl rfl
theorem ask_5 (τ : ST) (i l : Nat) : ask τ i l 5 0 0 = τ 5 0 0 + 1 := by
  have e : as2 τ i l 5 0 0 = τ 5 0 0 + 1 := by
    unfold as2
    rw [s3_r (by omega), s3_s]
  unfold ask
  split
  · rw [s3_r (by omega), e]
  · split
    · rw [s3_r (by omega), s3_r (by omega), e]
    · exact e
/-- who asks is fetched; the last asked is the least liked; how many -/
def Aq (σ τ : ST) : Prop := (∀ i l, i < 6 → hask τ i l = true → i < nh σ ∧ σ 23 i 3 = 1 ∧ l < nl σ) ∧
  (∀ i, i < nh σ → 0 ≤ τ 8 0 i → ∀ l : Nat, l < nl σ → hask τ i l = true → τ 8 0 i = l ∨ wr σ i l (τ 8 0 i) = true) ∧ τ 5 0 0 = bts τ
theorem aq_bas (I : Iv σ) : Aq σ (bas σ) := by
  have D := dt_bas I
  have h0 : ∀ i l, i < 6 → hask (bas σ) i l = false := fun i l hi => by
    have e10 : bas σ 10 0 i = 0 := by
      unfold bas
      rw [s3_r (by omega)]
      show (if 10 = 10 ∧ 0 = 0 ∧ i < 6 then (0 : Int) else _) = 0
      rw [if_pos ⟨rfl, rfl, hi⟩]
    unfold hask
    rw [e10]
    simp
  refine ⟨fun i l hi h => ?_, fun i hi hm l hl h => ?_, ?_⟩
  · rw [h0 i l hi] at h
    cases h
  · have hz := iv_z I
    have hn := nh_e I
    rw [h0 i l (by omega)] at h
    cases h
  · have e5 : bas σ 5 0 0 = 0 := by
      unfold bas
      rw [s3_s]
    have : bts (bas σ) = sumf (fun _ => 0) 6 := sumf_e fun i hi => cnt_x (n := 0) (Nat.zero_le _) fun l _ _ => h0 i l hi
    rw [e5, this]
    rfl
theorem aq_nx {τ : ST} (H : Dt σ τ) (Q : Aq σ τ) : Aq σ (nx τ) := by
  by_cases hid : idl τ
  · rw [nx_i hid]
    exact Q
  have B1 := bts_nx H hid
  have I := H.2.1
  have enh := fx_nh H.1
  have enl := fx_nl H.1
  have hn := nh_e I
  have hz := iv_z I
  have hlt : fi (cnd τ) (nh τ) < nh τ := by
    refine Decidable.byContradiction fun c => ?_
    have e : nx τ = τ := by
      unfold nx
      rw [if_neg c]
    rw [e] at B1
    omega
  have h1 := (fi_t (cnd τ) (nh τ) hlt).1
  have hc : τ 23 (fi (cnd τ) (nh τ)) 3 = 1 ∧ τ 8 0 (fi (cnd τ) (nh τ)) < 0 ∧ 0 ≤ fav τ (fi (cnd τ) (nh τ)) (nl τ) := by simpa [cnd] using h1
  have en : nx τ = ask τ (fi (cnd τ) (nh τ)) (fav τ (fi (cnd τ) (nh τ)) (nl τ)).toNat := by
    unfold nx
    rw [if_pos hlt]
  obtain ⟨Q1, Q2, Q3⟩ := Q
  have D4 := H.2.2.2.2.2.2.2
  rw [en] at B1 ⊢
  generalize fi (cnd τ) (nh τ) = i at *
  have fb := fav_b τ i (nl τ)
  have fp := (fav_p τ i (nl τ)).2 hc.2.2
  generalize hl : (fav τ i (nl τ)).toNat = l at *
  have fs : σ 23 i 3 = 1 := by rw [← H.1 23 _ _ (by omega) (by omega) (by omega)]; exact hc.1
  refine ⟨fun i' l' hi' h => ?_, fun i' hi' hm l' hl' h => ?_, ?_⟩
  · rw [ask_h I] at h
    rcases hk1_i h with h | ⟨rfl, rfl⟩
    · exact Q1 i' l' hi' h
    · exact ⟨by omega, fs, by omega⟩
  · rw [ask_h I] at h
    rcases ask_8 τ i l i' with e | e | ⟨e0, e⟩
    · rw [e] at hm ⊢
      rcases hk1_i h with h | ⟨rfl, rfl⟩
      · exact Q2 i' hi' hm l' hl' h
      · omega
    · rw [e] at hm
      omega
    · subst e0
      rw [e]
      rcases hk1_i h with h | ⟨-, rfl⟩
      · right
        have hne : (l' : Int) ≠ l := fun q => by
          have : l' = l := by omega
          rw [this, fp.1] at h
          cases h
        rcases wr_t σ i' (a := (l' : Int)) (b := (l : Int)) (by omega) (by omega) hne with w | w
        · exact w
        · have := D4 i' hi' l' l hl' (by omega) h w
          rw [fp.1] at this
          cases this
      · exact Or.inl rfl
  · rw [ask_5, Q3]
    omega
theorem aq_itn (I : Iv σ) : ∀ k, Aq σ (itn k (bas σ))
  | 0 => aq_bas I
  | k + 1 => aq_nx (dt_itn I k) (aq_itn I k)
theorem sumf_x {f : Nat → Int} {n m : Nat} (h : n ≤ m) (hp : ∀ i, n ≤ i → i < m → f i = 0) : sumf f m = sumf f n := by
  induction m with
  | zero =>
    have : n = 0 := by omega
    rw [this]
  | succ m ih =>
    by_cases c : n = m + 1
    · rw [c]
    · simp only [sumf]
      rw [ih (by omega) fun i h1 h2 => hp i h1 (by omega), hp m (by omega) (by omega), Int.add_zero]
/-- it was asked as often as the placing says -/
def Ak (σ : ST) : Prop := σ 5 0 0 = askN σ (fun i => σ 8 0 i) (nh σ)
theorem stl_ak (I : Iv σ) : Ak (stl σ) := by
  have hid := stl_idl I
  have D := dt_itn I 18
  have Q := aq_itn I 18
  change Dt σ (stl σ) at D
  change Aq σ (stl σ) at Q
  obtain ⟨e, I2, D0, DB, D1, D2, D3, D4⟩ := D
  obtain ⟨Q1, Q2, Q3⟩ := Q
  have enh := fx_nh e
  have enl := fx_nl e
  have hn := nh_e I
  have hln := nl_e I
  have hz := iv_z I
  have s23 : ∀ i, stl σ 23 i 3 = σ 23 i 3 := fun i => e 23 _ _ (by omega) (by omega) (by omega)
  unfold Ak
  rw [Q3, enh]
  unfold bts
  rw [sumf_x (f := fun i => cnt (fun l => hask (stl σ) i l) 3) (n := nh σ) (m := 6) (by omega) fun i h1 h2 => cnt_x (n := 0) (Nat.zero_le _) fun l _ _ => by
    cases q : hask (stl σ) i l with
    | false => rfl
    | true => exact absurd (Q1 i l h2 q).1 (by omega)]
  unfold askN
  refine sumf_e fun i hi => ?_
  show cnt (fun l => hask (stl σ) i l) 3 = if stl σ 23 i 3 = 1 then ask1 (stl σ) (fun i => stl σ 8 0 i) i (nl (stl σ)) else 0
  by_cases c : stl σ 23 i 3 = 1
  · rw [if_pos c, enl]
    rw [cnt_x (n := nl σ) (m := 3) (by omega) fun l h1 h2 => by
      cases q : hask (stl σ) i l with
      | false => rfl
      | true => exact absurd (Q1 i l (by omega) q).2.2 (by omega)]
    unfold ask1
    refine cnt_e fun l hl => ?_
    rw [Bool.eq_iff_iff, Bool.or_eq_true, decide_eq_true_eq, fx_wr e]
    show hask (stl σ) i l = true ↔ (stl σ 8 0 i = (l : Int) ∨ wr σ i l (stl σ 8 0 i) = true)
    by_cases c2 : 0 ≤ stl σ 8 0 i
    · constructor
      · intro q
        exact Q2 i hi c2 l hl q
      · have h2 : hask (stl σ) i (stl σ 8 0 i).toNat = true := D2 i hi c2
        have hb : stl σ 8 0 i < nl σ := (DB i).2
        rintro (q | q)
        · rw [q, Int.toNat_natCast] at h2
          exact h2
        · refine D4 i hi (stl σ 8 0 i).toNat l (by omega) hl h2 ?_
          rw [Int.toNat_of_nonneg c2]
          exact q
    · have hc := hid i (by omega)
      have hf : fav (stl σ) i (nl (stl σ)) < 0 := by
        refine Decidable.byContradiction fun q => ?_
        have : cnd (stl σ) i = true := by
          unfold cnd
          exact decide_eq_true ⟨c, by omega, by omega⟩
        rw [this] at hc
        cases hc
      have ha := (fav_p (stl σ) i (nl (stl σ))).1 hf l (by omega)
      constructor
      · intro _
        right
        unfold wr
        rw [if_neg (by omega), if_pos (by omega)]
      · intro _
        exact ha
  · rw [if_neg c]
    refine cnt_x (n := 0) (Nat.zero_le _) fun l _ _ => ?_
    cases q : hask (stl σ) i l with
    | false => rfl
    | true =>
      have := (Q1 i l (by omega) q).2.1
      rw [s23] at c
      exact absurd this c
/-- who is fetched, and where, and the halls are the same -/
theorem ak_c {τ : ST} (H : Ak σ) (I : Iv σ) (h5 : τ 5 0 0 = σ 5 0 0) (h8 : ∀ i, τ 8 0 i = σ 8 0 i) (h12 : τ 12 0 0 = σ 12 0 0) (hl : nh σ ≤ nh τ) (h22 : ∀ l, τ 22 l 0 = σ 22 l 0)
    (h23 : ∀ i, i < nh σ → τ 23 i 0 = σ 23 i 0 ∧ (τ 23 i 3 = 1 ↔ σ 23 i 3 = 1)) (h21 : ∀ s : Nat, (s : Int) < σ 11 0 0 → τ 21 s 1 = σ 21 s 1) (hnew : ∀ i, nh σ ≤ i → i < nh τ → τ 23 i 3 ≠ 1) : Ak τ := by
  have enl : nl τ = nl σ := by
    unfold nl
    rw [h12]
  have hn := nh_e I
  have hln := nl_e I
  unfold Ak
  rw [h5, H]
  unfold askN
  rw [sumf_x (n := nh σ) (m := nh τ) hl fun i h1 h2 => if_neg (hnew i h1 h2)]
  refine sumf_e fun i hi => ?_
  have q := h23 i hi
  have r := iv_hh I (i := i) (by omega)
  have e21 : τ 21 (σ 23 i 0).toNat 1 = σ 21 (σ 23 i 0).toNat 1 := h21 _ (by omega)
  have ew : ∀ a b, wr τ i a b = wr σ i a b := fun a b => by
    unfold wr mi_
    simp only [q.1, h22, e21]
  have e8 : (fun i => τ 8 0 i) = fun i => σ 8 0 i := funext h8
  show (if σ 23 i 3 = 1 then ask1 σ (fun i => σ 8 0 i) i (nl σ) else 0) = if τ 23 i 3 = 1 then ask1 τ (fun i => τ 8 0 i) i (nl τ) else 0
  rw [enl, e8]
  unfold ask1
  simp only [ew]
  by_cases c : σ 23 i 3 = 1
  · rw [if_pos c, if_pos (q.2.mpr c)]
  · rw [if_neg c, if_neg (fun t => c (q.2.mp t))]
theorem ak_g {g : Nat → Int} (H : Ak σ) (I : Iv σ) (hg : ∀ i, i < nh σ → g i = σ 8 0 i) : askN σ g (nh σ) = σ 5 0 0 := by
  unfold Ak at H
  rw [H]
  unfold askN
  refine sumf_e fun i hi => ?_
  unfold ask1
  simp only [hg i hi]
end AskT
