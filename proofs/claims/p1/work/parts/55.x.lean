/-! THEORY: what is told keeps it so -/
section Kept
variable {σ : ST}
def cm (σ : ST) : Int := sumf (fun i => σ 24 i 0) (nt σ)
theorem Lt_c {τ : ST} (L : Lt σ) (h24 : ∀ i, i < nt σ → τ 24 i = σ 24 i) (hn : nt τ = nt σ) (h6 : τ 6 0 = σ 6 0) (hh : τ 1 0 2 = σ 1 0 2) : Lt τ ∧ cm τ = cm σ := by
  have hs : ∀ f, sumf (fun i => τ 24 i f) (nt τ) = sumf (fun i => σ 24 i f) (nt σ) := fun f => by
    rw [hn]
    exact sumf_e fun i hi => by rw [h24 i hi]
  refine ⟨⟨fun i hi h => ?_, ?_⟩, hs 0⟩
  · rw [hn] at hi
    rw [h24 i hi, hh] at h
    rw [h24 i hi]
    exact L.1 i hi h
  · rw [hs, hs, h6]
    exact L.2
theorem J_street (H : J σ) {m a b : Int} (h : σ 11 0 0 < 6) (ha : 0 ≤ a ∧ a ≤ 99) (hb : 0 ≤ b ∧ b ≤ 99) : J (s2 σ 11 (σ 11 0 0).toNat m (rec3 a b 0)) ∧ cm (s2 σ 11 (σ 11 0 0).toNat m (rec3 a b 0)) = cm σ := by
  obtain ⟨I, P, L⟩ := H
  have z := iv_z I
  have I2 := iv_a11 (m := m) I h ha hb
  have o : ∀ k i, k ≠ 11 → k ≠ 21 → s2 σ 11 (σ 11 0 0).toNat m (rec3 a b 0) k i = σ k i := fun k i h1 h2 => s2_o (by omega) (by omega)
  have hl := Lt_c (τ := s2 σ 11 (σ 11 0 0).toNat m (rec3 a b 0)) L (fun i _ => o 24 i (by omega) (by omega)) (by unfold nt; rw [o 14 0 (by omega) (by omega)]) (o 6 0 (by omega) (by omega)) (by rw [o 1 0 (by omega) (by omega)])
  refine ⟨⟨I2, Pl_c I I2 P (by unfold nh; rw [o 13 0 (by omega) (by omega)]; exact Nat.le_refl _) (fun l _ => o 22 l (by omega) (by omega)) (by rw [o 12 0 (by omega) (by omega)]) (fun s hs => s2_o (by omega) (by omega)) (fun i => by rw [o 8 0 (by omega) (by omega)]) (fun i _ f _ => by rw [o 23 i (by omega) (by omega)]) (fun i _ => by rw [o 23 i (by omega) (by omega)]) (fun i h1 h2 => ?_), hl.1⟩, hl.2⟩
  have : nh (s2 σ 11 (σ 11 0 0).toNat m (rec3 a b 0)) = nh σ := by unfold nh; rw [o 13 0 (by omega) (by omega)]
  omega
theorem J_hall (H : J σ) {m a b : Int} (h : σ 12 0 0 < 3) (ha : 0 ≤ a ∧ a ≤ 4) (hb : 0 ≤ b ∧ b ≤ 99) : J (stl (s2 σ 12 (σ 12 0 0).toNat m (rec3 b a 0))) := by
  obtain ⟨I, P, L⟩ := H
  have o : ∀ k i, k ≠ 12 → k ≠ 22 → s2 σ 12 (σ 12 0 0).toNat m (rec3 b a 0) k i = σ k i := fun k i h1 h2 => s2_o (by omega) (by omega)
  exact J_stl (iv_a12 (m := m) I h ha hb) (Lt_c L (fun i _ => o 24 i (by omega) (by omega)) (by unfold nt; rw [o 14 0 (by omega) (by omega)]) (o 6 0 (by omega) (by omega)) (by rw [o 1 0 (by omega) (by omega)])).1
theorem cm_stl (σ : ST) : cm (stl σ) = cm σ := by
  have ent : nt (stl σ) = nt σ := by
    unfold nt
    rw [stl_k σ (by omega)]
  unfold cm
  rw [ent]
  exact sumf_e fun i _ => stl_k σ (by omega)
theorem J_rooms (H : J σ) {l : Nat} {z : Int} (hz : 0 ≤ z ∧ z ≤ 4) : J (rmS σ l z) ∧ cm (rmS σ l z) = cm σ := by
  obtain ⟨I, P, L⟩ := H
  have o : ∀ k i, k ≠ 22 → s3 σ 22 l 1 z k i = σ k i := fun k i h1 => s3_r (by omega)
  have hl := Lt_c (τ := s3 σ 22 l 1 z) L (fun i _ => o 24 i (by omega)) (by unfold nt; rw [o 14 0 (by omega)]) (o 6 0 (by omega)) (by rw [o 1 0 (by omega)])
  exact ⟨J_stl (iv_s22 I hz.1 hz.2) hl.1, by unfold rmS; rw [cm_stl, hl.2]⟩
theorem J_household (H : J σ) {m p f : Int} {s : Nat} (h : σ 13 0 0 < 6) (hs : (s : Int) < σ 11 0 0) (hp : 1 ≤ p ∧ p ≤ 9) (hf : f = 0 ∨ f = 1) : J (s2 σ 13 (σ 13 0 0).toNat m (hhR σ s p f)) ∧ cm (s2 σ 13 (σ 13 0 0).toNat m (hhR σ s p f)) = cm σ := by
  obtain ⟨I, P, L⟩ := H
  have z := iv_z I
  have I2 := iv_a13 (m := m) I h hs hp hf
  have o : ∀ k i, k ≠ 13 → k ≠ 23 → s2 σ 13 (σ 13 0 0).toNat m (hhR σ s p f) k i = σ k i := fun k i h1 h2 => s2_o (by omega) (by omega)
  have hl := Lt_c (τ := s2 σ 13 (σ 13 0 0).toNat m (hhR σ s p f)) L (fun i _ => o 24 i (by omega) (by omega)) (by unfold nt; rw [o 14 0 (by omega) (by omega)]) (o 6 0 (by omega) (by omega)) (by rw [o 1 0 (by omega) (by omega)])
  have e13 : s2 σ 13 (σ 13 0 0).toNat m (hhR σ s p f) 13 0 0 = σ 13 0 0 + 1 := by rw [s2_z]; omega
  have ehh : nh (s2 σ 13 (σ 13 0 0).toNat m (hhR σ s p f)) = nh σ + 1 := by unfold nh; rw [e13]; omega
  have o2 : ∀ i, i < nh σ → s2 σ 13 (σ 13 0 0).toNat m (hhR σ s p f) 23 i = σ 23 i := fun i hi => s2_o (by omega) (by unfold nh at hi; omega)
  refine ⟨⟨I2, Pl_c I I2 P (by omega) (fun l _ => o 22 l (by omega) (by omega)) (by rw [o 12 0 (by omega) (by omega)]) (fun s _ => o 21 s (by omega) (by omega)) (fun i => by rw [o 8 0 (by omega) (by omega)]) (fun i hi f _ => by rw [o2 i hi]) (fun i hi => by rw [o2 i hi]) (fun i h1 h2 => ?_), hl.1⟩, hl.2⟩
  have hi : i = (σ 13 0 0).toNat := by unfold nh at h1 ehh h2; omega
  rw [hi, show s2 σ 13 (σ 13 0 0).toNat m (hhR σ s p f) 23 (σ 13 0 0).toNat = hhR σ s p f from s2_e]
  show (if fld σ s = true then (2 : Int) else 0) ≠ 1
  split <;> omega
theorem J_same (H : J σ) {τ : ST} (I2 : Iv τ) (h : ∀ k i, k ≠ 1 → k ≠ 2 → k ≠ 7 → k ≠ 15 → k ≠ 25 → τ k i = σ k i) (hh : τ 1 0 2 = σ 1 0 2) : J τ ∧ cm τ = cm σ := by
  obtain ⟨I, P, L⟩ := H
  have hl := Lt_c (τ := τ) L (fun i _ => h 24 i (by omega) (by omega) (by omega) (by omega) (by omega)) (by unfold nt; rw [h 14 0 (by omega) (by omega) (by omega) (by omega) (by omega)]) (h 6 0 (by omega) (by omega) (by omega) (by omega) (by omega)) hh
  have e : nh τ = nh σ := by unfold nh; rw [h 13 0 (by omega) (by omega) (by omega) (by omega) (by omega)]
  refine ⟨⟨I2, Pl_c I I2 P (by omega) (fun l _ => h 22 l (by omega) (by omega) (by omega) (by omega) (by omega)) (by rw [h 12 0 (by omega) (by omega) (by omega) (by omega) (by omega)]) (fun s _ => h 21 s (by omega) (by omega) (by omega) (by omega) (by omega)) (fun i => by rw [h 8 0 (by omega) (by omega) (by omega) (by omega) (by omega)]) (fun i _ f _ => by rw [h 23 i (by omega) (by omega) (by omega) (by omega) (by omega)]) (fun i _ => by rw [h 23 i (by omega) (by omega) (by omega) (by omega) (by omega)]) (fun i h1 h2 => by omega), hl.1⟩, hl.2⟩
theorem iv_ri (I : Iv σ) {a b : Int} (ha : 0 ≤ a ∧ a ≤ 99) (hb : -9 ≤ b ∧ b ≤ 9) : Iv (riS σ a b) :=
  ⟨⟨ha.1, ha.2, hb.1, hb.2, I.1.2.2.2.2⟩, I.2⟩
theorem iv_bu (I : Iv σ) {a : Int} (ha : 0 ≤ a ∧ a ≤ 3) : Iv (buS σ a) :=
  ⟨⟨I.1.1, I.1.2.1, I.1.2.2.1, I.1.2.2.2.1, I.1.2.2.2.2.1, I.1.2.2.2.2.2.1, ha.1, ha.2, I.1.2.2.2.2.2.2.2.2⟩, I.2⟩
theorem J_river (H : J σ) {a b : Int} (ha : 0 ≤ a ∧ a ≤ 99) (hb : -9 ≤ b ∧ b ≤ 9) : J (riS σ a b) ∧ cm (riS σ a b) = cm σ :=
  J_same H (iv_ri H.1 ha hb) (fun k i h1 h2 _ _ _ => by unfold riS; rw [s3_r (by omega), s3_r (by omega)]) rfl
theorem J_buses (H : J σ) {a : Int} (ha : 0 ≤ a ∧ a ≤ 3) : J (buS σ a) ∧ cm (buS σ a) = cm σ :=
  J_same H (iv_bu H.1 ha) (fun k i h1 h2 _ _ _ => by unfold buS; rw [s3_r (by omega)]) rfl
theorem J_list (H : J σ) {m a : Int} (h : σ 15 0 0 < 12) (ha : 1 ≤ a ∧ a ≤ 99999) : J (s2 σ 15 (σ 15 0 0).toNat m (rec3 a 0 0)) ∧ cm (s2 σ 15 (σ 15 0 0).toNat m (rec3 a 0 0)) = cm σ :=
  J_same H (iv_a15 H.1 h ha) (fun k i _ _ _ h4 h5 => s2_o (by omega) (by omega)) (by rw [s2_o (by omega) (by omega)])
theorem J_strike (H : J σ) {i : Nat} {z : Int} (hz : z = 0 ∨ z = 1) : J (s3 σ 25 i 1 z) ∧ cm (s3 σ 25 i 1 z) = cm σ :=
  J_same H (iv_s25 H.1 hz) (fun k i _ _ _ h4 h5 => s3_r (by omega)) rfl
theorem iv_fe (I : Iv σ) {i : Nat} (h : σ 2 0 1 < σ 2 0 0) : Iv (s3 (s3 σ 23 i 3 1) 2 0 1 (σ 2 0 1 + 1)) := by
  have r4 := iv_r I
  have I2 := iv_s23 (i := i) (z := 1) I (by omega) (by omega)
  exact ⟨⟨I2.1.1, I2.1.2.1, I2.1.2.2.1, I2.1.2.2.2.1, I2.1.2.2.2.2.1, I2.1.2.2.2.2.2.1, I2.1.2.2.2.2.2.2.1, I2.1.2.2.2.2.2.2.2.1, show 0 ≤ σ 2 0 1 + 1 by omega, show σ 2 0 1 + 1 ≤ 6 by omega⟩, I2.2⟩
theorem J_fetch (H : J σ) {i : Nat} (h : σ 2 0 1 < σ 2 0 0) : J (feS σ i) ∧ cm (feS σ i) = cm σ := by
  obtain ⟨I, P, L⟩ := H
  have o : ∀ k j, k ≠ 23 → k ≠ 2 → s3 (s3 σ 23 i 3 1) 2 0 1 (σ 2 0 1 + 1) k j = σ k j := fun k j h1 h2 => by rw [s3_r (by omega), s3_r (by omega)]
  have hl := Lt_c (τ := s3 (s3 σ 23 i 3 1) 2 0 1 (σ 2 0 1 + 1)) L (fun i _ => o 24 i (by omega) (by omega)) (by unfold nt; rw [o 14 0 (by omega) (by omega)]) (o 6 0 (by omega) (by omega)) (by rw [o 1 0 (by omega) (by omega)])
  exact ⟨J_stl (iv_fe I h) hl.1, by unfold feS; rw [cm_stl, hl.2]⟩
theorem J_lot (H : J σ) {m a b : Int} (h : σ 14 0 0 < 10) (ha : 1 ≤ a ∧ a ≤ 99) (hb : 0 ≤ b ∧ b ≤ 99) : J (s2 σ 14 (σ 14 0 0).toNat m (rec3 a (σ 1 0 2 + b) a)) ∧ cm (s2 σ 14 (σ 14 0 0).toNat m (rec3 a (σ 1 0 2 + b) a)) = cm σ + a := by
  obtain ⟨I, P, L⟩ := H
  have z := iv_z I
  have r4 := iv_r I
  have I2 := iv_a14 (m := m) I h ha (show 0 ≤ σ 1 0 2 + b ∧ σ 1 0 2 + b ≤ 599 by omega)
  generalize hτ : s2 σ 14 (σ 14 0 0).toNat m (rec3 a (σ 1 0 2 + b) a) = τ at *
  have o : ∀ k i, k ≠ 14 → k ≠ 24 → τ k i = σ k i := fun k i h1 h2 => by rw [← hτ]; exact s2_o (by omega) (by omega)
  have e14 : τ 14 0 0 = σ 14 0 0 + 1 := by rw [← hτ, s2_z]; omega
  have ent : nt τ = nt σ + 1 := by unfold nt; rw [e14]; omega
  have old : ∀ i, i < nt σ → τ 24 i = σ 24 i := fun i hi => by rw [← hτ]; exact s2_o (by omega) (by unfold nt at hi; omega)
  have new : τ 24 (nt σ) = rec3 a (σ 1 0 2 + b) a := by rw [← hτ]; exact s2_e
  have hs : ∀ f, sumf (fun i => τ 24 i f) (nt τ) = sumf (fun i => σ 24 i f) (nt σ) + rec3 a (σ 1 0 2 + b) a f := fun f => by
    rw [ent]
    simp only [sumf]
    rw [new, sumf_e fun i hi => by rw [old i hi]]
  refine ⟨⟨I2, Pl_c I I2 P (by unfold nh; rw [o 13 0 (by omega) (by omega)]; exact Nat.le_refl _) (fun l _ => o 22 l (by omega) (by omega)) (by rw [o 12 0 (by omega) (by omega)]) (fun s _ => o 21 s (by omega) (by omega)) (fun i => by rw [o 8 0 (by omega) (by omega)]) (fun i _ f _ => by rw [o 23 i (by omega) (by omega)]) (fun i _ => by rw [o 23 i (by omega) (by omega)]) (fun i h1 h2 => ?_), fun i hi hla => ?_, ?_⟩, hs 0⟩
  · have : nh τ = nh σ := by unfold nh; rw [o 13 0 (by omega) (by omega)]
    omega
  · rw [o 1 0 (by omega) (by omega)] at hla
    by_cases c : i < nt σ
    · rw [old i c] at hla ⊢
      exact L.1 i c hla
    · have : i = nt σ := by omega
      rw [this, new] at hla
      have : rec3 a (σ 1 0 2 + b) a 1 = σ 1 0 2 + b := rfl
      omega
  · rw [hs, hs, o 6 0 (by omega) (by omega)]
    have := L.2
    have e0 : rec3 a (σ 1 0 2 + b) a 0 = a := rfl
    have e2 : rec3 a (σ 1 0 2 + b) a 2 = a := rfl
    omega
end Kept
