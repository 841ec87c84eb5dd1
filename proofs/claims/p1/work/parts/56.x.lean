/-! THEORY: giving, hours -/
section Kept2
variable {σ : ST}
theorem nts_p (σ : ST) : ∀ m : Nat, 0 ≤ nts σ m → 0 < σ 24 (nts σ m).toNat 2
  | 0, h => by simp [nts] at h
  | m + 1, h => by
    simp only [nts] at h ⊢
    split
    · rename_i c
      rw [Int.toNat_natCast]
      exact c.1
    · rename_i c
      rw [if_neg c] at h
      exact nts_p σ m h
theorem sumf_s3 (τ : ST) {i n : Nat} (hi : i < n) (z : Int) : sumf (fun j => s3 τ 24 i 2 z 24 j 2) n = sumf (fun j => τ 24 j 2) n - τ 24 i 2 + z := by
  rw [sumf_ch (f := fun j => τ 24 j 2) hi fun j _ hne => by
    show τ 24 j 2 = s3 τ 24 i 2 z 24 j 2
    rw [s3_r (by omega)]]
  show _ - τ 24 i 2 + s3 τ 24 i 2 z 24 i 2 = _
  rw [s3_s]
theorem ho_s (I : Iv σ) {w : Int} (hw : 0 ≤ w ∧ w ≤ 99) : ∀ k : Nat, sumf (fun i => (ho σ w k).1 24 i 2) (nt σ) - (ho σ w k).2 = sumf (fun i => σ 24 i 2) (nt σ) - w ∧ ∀ i, σ 24 i 2 = 0 → (ho σ w k).1 24 i 2 = 0
  | 0 => ⟨rfl, fun i h => h⟩
  | k + 1 => by
    have ih := ho_s I hw k
    have g := nts_b (ho σ w k).1 (nt σ)
    simp only [ho]
    split
    · rename_i c
      have p := nts_p (ho σ w k).1 (nt σ) c
      generalize (nts (ho σ w k).1 (nt σ)) = z at *
      dsimp only
      refine ⟨?_, fun i hi => ?_⟩
      · rw [sumf_s3 _ (i := z.toNat) (by omega)]
        omega
      · have h0 := ih.2 i hi
        by_cases q : i = z.toNat
        · rw [q] at h0
          omega
        · rw [s3_r (by omega)]
          exact h0
    · exact ih
theorem hoE_k (σ : ST) (w : Int) {k j f : Nat} (h6 : k ≠ 6) (hf : k = 24 → f ≠ 2) : hoE σ w k j f = σ k j f := by
  unfold hoE
  rw [s3_r (by omega), s3_r (by omega)]
  exact ho_k σ w hf _
theorem hoE_iv (I : Iv σ) {w : Int} (hw : 0 ≤ w ∧ w ≤ 99) : Iv (hoE σ w) := iv_s6 (iv_s6 (ho_iv I hw (nt σ)).1 _ _) _ _
theorem J_give (H : J σ) {w : Int} (hw : 0 ≤ w ∧ w ≤ 99) : J (hoE σ w) ∧ cm (hoE σ w) = cm σ := by
  obtain ⟨I, P, L⟩ := H
  have hs := ho_s I hw (nt σ)
  have o : ∀ k i f, k ≠ 6 → k ≠ 24 → hoE σ w k i f = σ k i f := fun k i f h1 h2 => hoE_k σ w h1 (by omega)
  have o2 : ∀ k i, k ≠ 6 → k ≠ 24 → hoE σ w k i = σ k i := fun k i h1 h2 => funext fun f => o k i f h1 h2
  have ent : nt (hoE σ w) = nt σ := by unfold nt; rw [o 14 0 0 (by omega) (by omega)]
  have e242 : ∀ i, hoE σ w 24 i 2 = (ho σ w (nt σ)).1 24 i 2 := fun i => by
    unfold hoE
    rw [s3_r (by omega), s3_r (by omega)]
  have e240 : ∀ i, hoE σ w 24 i 0 = σ 24 i 0 := fun i => hoE_k σ w (by omega) (by omega)
  have e241 : ∀ i, hoE σ w 24 i 1 = σ 24 i 1 := fun i => hoE_k σ w (by omega) (by omega)
  have e60 : hoE σ w 6 0 0 = σ 6 0 0 + (w - (ho σ w (nt σ)).2) := rfl
  have e61 : hoE σ w 6 0 1 = σ 6 0 1 := by
    show (ho σ w (nt σ)).1 6 0 1 = _
    exact ho_k σ w (by omega) _
  have hc : cm (hoE σ w) = cm σ := by
    unfold cm
    rw [ent]
    exact sumf_e fun i _ => e240 i
  refine ⟨⟨hoE_iv I hw, Pl_c I (hoE_iv I hw) P (by unfold nh; rw [o 13 0 0 (by omega) (by omega)]; exact Nat.le_refl _) (fun l _ => o2 22 l (by omega) (by omega)) (o 12 0 0 (by omega) (by omega)) (fun s _ => o2 21 s (by omega) (by omega)) (fun i => o 8 0 i (by omega) (by omega)) (fun i _ f _ => o 23 i f (by omega) (by omega)) (fun i _ => by rw [o 23 i 3 (by omega) (by omega)]) (fun i h1 h2 => ?_), fun i hi h => ?_, ?_⟩, hc⟩
  · have : nh (hoE σ w) = nh σ := by unfold nh; rw [o 13 0 0 (by omega) (by omega)]
    omega
  · rw [ent] at hi
    rw [e241, o 1 0 2 (by omega) (by omega)] at h
    rw [e242]
    exact hs.2 i (L.1 i hi h)
  · have h1 : sumf (fun i => hoE σ w 24 i 0) (nt (hoE σ w)) = sumf (fun i => σ 24 i 0) (nt σ) := hc
    have h2 : sumf (fun i => hoE σ w 24 i 2) (nt (hoE σ w)) = sumf (fun i => (ho σ w (nt σ)).1 24 i 2) (nt σ) := by
      rw [ent]
      exact sumf_e fun i _ => e242 i
    rw [h1, h2, e60, e61]
    have := L.2
    omega
theorem spb_s (σ : ST) (t : Int) {n : Nat} : ∀ m : Nat, m ≤ n → sumf (fun i => spb σ t m 24 i 2) n + spb σ t m 6 0 1 = sumf (fun i => σ 24 i 2) n + σ 6 0 1 ∧ (∀ i, i < m → σ 24 i 1 < t → spb σ t m 24 i 2 = 0) ∧ spb σ t m 6 0 0 = σ 6 0 0
  | 0, _ => ⟨rfl, fun i hi => by omega, rfl⟩
  | m + 1, hm => by
    have ih := spb_s σ t m (n := n) (by omega)
    have hk : spb σ t m 24 m 1 = σ 24 m 1 := spb_k σ t (by omega) (by omega) m
    simp only [spb]
    split
    · rename_i c
      generalize spb σ t m = τ at *
      refine ⟨?_, fun i hi h => ?_, ?_⟩
      · rw [sumf_s3 _ (show m < n by omega)]
        have h1 : ∀ j f, s3 τ 6 0 1 (τ 6 0 1 + τ 24 m 2) 24 j f = τ 24 j f := fun j f => rfl
        have h2 : s3 (s3 τ 6 0 1 (τ 6 0 1 + τ 24 m 2)) 24 m 2 0 6 0 1 = τ 6 0 1 + τ 24 m 2 := rfl
        rw [h2]
        simp only [h1]
        omega
      · by_cases q : i = m
        · rw [q, s3_s]
        · rw [s3_r (by omega)]
          exact ih.2.1 i (by omega) h
      · exact ih.2.2
    · rename_i c
      refine ⟨ih.1, fun i hi h => ?_, ih.2.2⟩
      by_cases q : i = m
      · rw [q] at h
        exact absurd h c
      · exact ih.2.1 i (by omega) h
theorem cuS_3 (σ : ST) (i : Nat) : ∀ m, cuS σ m 23 i 3 = 1 ↔ σ 23 i 3 = 1
  | 0 => Iff.rfl
  | m + 1 => by
    have ih := cuS_3 σ i m
    simp only [cuS]
    split
    · rename_i c
      by_cases q : i = m
      · subst q
        rw [s3_s]
        have := c.1
        omega
      · rw [s3_r (by omega)]
        exact ih
    · exact ih
theorem J_hour (H : J σ) (hh : σ 1 0 2 < 500) : J (hrS σ) ∧ cm (hrS σ) = cm σ := by
  obtain ⟨I, P, L⟩ := H
  have o : ∀ k i f, k ≠ 1 → k ≠ 2 → k ≠ 6 → k ≠ 23 → k ≠ 24 → hrS σ k i f = σ k i f := fun k i f h1 h2 h3 h4 h5 => by
    unfold hrS
    rw [spb_k _ _ h3 (by omega), cuS_k _ (by omega)]
    unfold ho1 flS
    rw [s3_r (by omega), s3_r (by omega), s3_r (by omega)]
  have o2 : ∀ k i, k ≠ 1 → k ≠ 2 → k ≠ 6 → k ≠ 23 → k ≠ 24 → hrS σ k i = σ k i := fun k i h1 h2 h3 h4 h5 => funext fun f => o k i f h1 h2 h3 h4 h5
  have ent : nt (hrS σ) = nt σ := by unfold nt; rw [o 14 0 0 (by omega) (by omega) (by omega) (by omega) (by omega)]
  have c24 : ∀ i f, cuS (ho1 σ) (nh σ) 24 i f = σ 24 i f := fun i f => by rw [cuS_k _ (by omega)]; rfl
  have c6 : ∀ f, cuS (ho1 σ) (nh σ) 6 0 f = σ 6 0 f := fun f => by rw [cuS_k _ (by omega)]; rfl
  have sp := spb_s (cuS (ho1 σ) (nh σ)) (σ 1 0 2 + 1) (n := nt σ) (nt σ) (Nat.le_refl _)
  have k24 : ∀ i f, f ≠ 2 → hrS σ 24 i f = σ 24 i f := fun i f hf => by
    unfold hrS
    rw [spb_k _ _ (by omega) (by omega), c24]
  have k23 : ∀ i f, hrS σ 23 i f = cuS (ho1 σ) (nh σ) 23 i f := fun i f => by
    unfold hrS
    rw [spb_k _ _ (by omega) (by omega)]
  have hc : cm (hrS σ) = cm σ := by
    unfold cm
    rw [ent]
    exact sumf_e fun i _ => k24 i 0 (by omega)
  refine ⟨⟨hrS_iv I hh, Pl_c I (hrS_iv I hh) P (by unfold nh; rw [o 13 0 0 (by omega) (by omega) (by omega) (by omega) (by omega)]; exact Nat.le_refl _) (fun l _ => o2 22 l (by omega) (by omega) (by omega) (by omega) (by omega)) (o 12 0 0 (by omega) (by omega) (by omega) (by omega) (by omega)) (fun s _ => o2 21 s (by omega) (by omega) (by omega) (by omega) (by omega)) (fun i => o 8 0 i (by omega) (by omega) (by omega) (by omega) (by omega)) (fun i _ f hf => by rw [k23, cuS_k _ (fun _ => hf)]; rfl) (fun i _ => by rw [k23]; exact cuS_3 (ho1 σ) i (nh σ)) (fun i h1 h2 => ?_), fun i hi h => ?_, ?_⟩, hc⟩
  · have : nh (hrS σ) = nh σ := by unfold nh; rw [o 13 0 0 (by omega) (by omega) (by omega) (by omega) (by omega)]
    omega
  · rw [ent] at hi
    rw [k24 i 1 (by omega), hrS_h] at h
    exact sp.2.1 i hi (by rw [c24]; exact h)
  · have h1 : sumf (fun i => hrS σ 24 i 0) (nt (hrS σ)) = sumf (fun i => σ 24 i 0) (nt σ) := hc
    have h2 : sumf (fun i => hrS σ 24 i 2) (nt (hrS σ)) = sumf (fun i => spb (cuS (ho1 σ) (nh σ)) (σ 1 0 2 + 1) (nt σ) 24 i 2) (nt σ) := by
      rw [ent]
      rfl
    have h3 : sumf (fun i => cuS (ho1 σ) (nh σ) 24 i 2) (nt σ) = sumf (fun i => σ 24 i 2) (nt σ) := sumf_e fun i _ => c24 i 2
    have h4 : hrS σ 6 0 0 = σ 6 0 0 := (sp.2.2).trans (c6 0)
    have h5 : hrS σ 6 0 1 = spb (cuS (ho1 σ) (nh σ)) (σ 1 0 2 + 1) (nt σ) 6 0 1 := rfl
    have s1 := sp.1
    rw [h3, c6 1] at s1
    rw [h1, h2, h4, h5]
    have := L.2
    omega
theorem J_pass (H : J σ) : ∀ k : Nat, σ 1 0 2 + k ≤ 500 → J (paS σ k) ∧ cm (paS σ k) = cm σ
  | 0, _ => ⟨H, rfl⟩
  | k + 1, h => by
    have ih := J_pass H k (by omega)
    have := J_hour ih.1 (by rw [paS_h]; omega)
    exact ⟨this.1, this.2.trans ih.2⟩
end Kept2
