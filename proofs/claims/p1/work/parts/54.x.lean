/-! THEORY: sound -/
section SoundT
variable {σ : ST}
/-- lots: nothing is left behind its last hour; as they came: left, given, spoilt -/
def Lt (σ : ST) : Prop := (∀ i, i < nt σ → σ 24 i 1 < σ 1 0 2 → σ 24 i 2 = 0) ∧ sumf (fun i => σ 24 i 0) (nt σ) = sumf (fun i => σ 24 i 2) (nt σ) + σ 6 0 0 + σ 6 0 1
theorem sumf_e {f g : Nat → Int} {n : Nat} (h : ∀ i, i < n → f i = g i) : sumf f n = sumf g n := by
  induction n with
  | zero => rfl
  | succ n ih =>
    simp only [sumf]
    rw [ih fun i hi => h i (by omega), h n (by omega)]
theorem lt_lat (H : Lt σ) : lat σ (σ 1 0 2) = sumf (fun i => σ 24 i 2) (nt σ) := by
  unfold lat
  refine sumf_e fun i hi => ?_
  show (if σ 1 0 2 ≤ σ 24 i 1 then σ 24 i 2 else 0) = σ 24 i 2
  split
  · rfl
  · exact (H.1 i hi (by omega)).symm
theorem lt_bal (H : Lt σ) : bal σ = true := by
  unfold bal
  rw [H.2]
  exact decide_eq_true rfl
theorem bq8 (I : Iv σ) : ∀ i, -1 ≤ σ 8 0 i ∧ σ 8 0 i < nl σ := fun i => by
  have := iv_t I i
  have := nl_e I
  omega
theorem bq9 (I : Iv σ) : ∀ i, -1 ≤ σ 9 0 i ∧ σ 9 0 i < nl σ := fun i => by
  have := iv_t I i
  have := nl_e I
  omega
/-- whatever is stable is the placing -/
theorem only (I : Iv σ) (P : Pl σ) {ρ : ST} (e : pub ρ = pub σ) (I2 : Iv ρ) (z : ∀ i, i < nh ρ → ρ 23 i 3 ≠ 1 → ρ 9 0 i < 0) (h1 : wir ρ 9 = true) (h2 : con ρ 9 = false) : ∀ i, i < nh σ → ρ 9 0 i = σ 8 0 i := by
  have s1 := sb_to I P.1 (bq8 I)
  have S9 := sb_of I2 z h1 h2
  have S8 : Sb ρ 8 := sb_of I2 (fun i hi hs => by
    rw [pub_nh e] at hi
    have h3 := pub_i e (k := 23) (i := i) (f := 3) (by omega) (by omega)
    rw [h3] at hs
    have := P.1.1 i hi hs
    rw [pub_i e (by omega) (by omega)]
    exact this) (by rw [pub_wir e]; exact s1.1) (by rw [pub_con e]; exact s1.2)
  intro i hi
  have := sb_u I2 S9 S8 (bq9 I2) (bq8 I2) i (by rw [pub_nh e]; exact hi)
  rw [this]
  exact pub_i e (by omega) (by omega)
theorem no_bett (I : Iv σ) (P : Pl σ) : ¬ bett σ := by
  rintro ⟨ρ, e, I2, z, hb, h1, h2⟩
  have H := only I P e I2 (fun i _ hs => z i hs) h1 h2
  obtain ⟨i, hi, hw⟩ := anyb_i.mp hb
  have h8 : ρ 8 0 i = σ 8 0 i := pub_i e (by omega) (by omega)
  rw [pub_nh e] at hi
  have hw' : wr ρ i (ρ 9 0 i) (ρ 8 0 i) = true := hw
  rw [H i hi, h8, wr_i] at hw'
  cases hw'
theorem sound_t (I : Iv σ) (P : Pl σ) (L : Lt σ) : soundC σ := by
  have s1 := sb_to I P.1 (bq8 I)
  exact ⟨s1.1, s1.2, no_bett I P, crm_f I, lt_bal L⟩
/-- what stays so -/
def J (σ : ST) : Prop := Iv σ ∧ Pl σ ∧ Lt σ
theorem pub_Sb {τ : ST} (I : Iv σ) (I2 : Iv τ) (e : pub τ = pub σ) (H : Sb σ 8) : Sb τ 8 := by
  have s1 := sb_to I H (bq8 I)
  refine sb_of I2 (fun i hi hs => ?_) (by rw [pub_wir e]; exact s1.1) (by rw [pub_con e]; exact s1.2)
  rw [pub_nh e] at hi
  rw [pub_i e (by omega) (by omega)] at hs ⊢
  exact H.1 i hi hs
theorem J_pub {τ : ST} (H : J σ) (e : pub τ = pub σ) (I2 : Iv τ) : J τ := by
  obtain ⟨I, P, L⟩ := H
  refine ⟨I2, ⟨pub_Sb I I2 e P.1, fun i h => ?_⟩, ?_, ?_⟩
  · rw [pub_i e (by omega) (by omega)] at h
    rw [pub_nh e, pub_i e (by omega) (by omega)]
    exact P.2 i h
  · intro i hi h
    rw [pub_nt e] at hi
    rw [pub_i e (by omega) (by omega), pub_i e (by omega) (by omega)] at h
    rw [pub_i e (by omega) (by omega)]
    exact L.1 i hi h
  · have h1 : ∀ f, sumf (fun i => τ 24 i f) (nt τ) = sumf (fun i => σ 24 i f) (nt σ) := fun f => by
      rw [pub_nt e]
      exact sumf_e fun i _ => pub_i e (by omega) (by omega)
    rw [h1, h1, pub_i e (by omega) (by omega), pub_i e (by omega) (by omega)]
    exact L.2
theorem J_0 : J st0 := by
  refine ⟨st0_iv, ⟨⟨fun i hi => ?_, fun l hl => ?_, fun i hi => ?_⟩, fun i h => ?_⟩, fun i hi => ?_, rfl⟩
  · exact absurd hi (by show ¬ i < 0; omega)
  · exact absurd hl (by show ¬ l < 0; omega)
  · exact absurd hi (by show ¬ i < 0; omega)
  · exact absurd (show (0 : Int) ≤ -1 from h) (by omega)
  · exact absurd hi (by show ¬ i < 0; omega)
/-- what settles anew keeps the rest -/
theorem J_stl (I : Iv σ) (L : Lt σ) : J (stl σ) := by
  have e : ∀ {k j f : Nat}, k ≠ 5 ∧ k ≠ 8 ∧ k ≠ 10 → stl σ k j f = σ k j f := fun h => stl_k σ h
  have ent : nt (stl σ) = nt σ := by
    unfold nt
    rw [e (by omega)]
  refine ⟨stl_iv I, stl_pl I, fun i hi h => ?_, ?_⟩
  · rw [e (by omega), e (by omega)] at h
    rw [e (by omega)]
    exact L.1 i (by omega) h
  · have h1 : ∀ f, sumf (fun i => stl σ 24 i f) (nt (stl σ)) = sumf (fun i => σ 24 i f) (nt σ) := fun f => by
      rw [ent]
      exact sumf_e fun i _ => e (by omega)
    rw [h1, h1, e (by omega), e (by omega)]
    exact L.2
/-- the same, seen from the placing, the lots -/
theorem Pl_c {τ : ST} (I : Iv σ) (I2 : Iv τ) (P : Pl σ) (hn : nh σ ≤ nh τ) (h22 : ∀ l : Nat, (l : Int) < σ 12 0 0 → τ 22 l = σ 22 l) (h12 : τ 12 0 0 = σ 12 0 0) (h21 : ∀ s : Nat, (s : Int) < σ 11 0 0 → τ 21 s = σ 21 s) (h8 : ∀ i, τ 8 0 i = σ 8 0 i)
    (h23 : ∀ i, i < nh σ → ∀ f, f ≠ 3 → τ 23 i f = σ 23 i f) (hst : ∀ i, i < nh σ → (τ 23 i 3 = 1 ↔ σ 23 i 3 = 1)) (hnew : ∀ i, nh σ ≤ i → i < nh τ → τ 23 i 3 ≠ 1) : Pl τ := by
  have hnl : nl τ = nl σ := by unfold nl; rw [h12]
  have z1 := nh_e I
  have z2 := nl_e I
  have hw : ∀ i, i < nh σ → wth τ i = wth σ i := fun i hi => by
    unfold wth
    rw [h23 i hi 2 (by omega), h23 i hi 1 (by omega)]
  have hcq : ∀ l, cq τ 8 l = cq σ 8 l := fun l => by
    unfold cq
    rw [cnt_x hn fun i h1 h2 => by
      rw [decide_eq_false_iff_not, h8]
      intro q
      have := (P.2 i (by omega)).1
      omega]
    exact cnt_e fun i _ => by rw [h8]
  have hwr : ∀ i, i < nh σ → ∀ l : Nat, (l : Int) < σ 12 0 0 → wr τ i l (σ 8 0 i) = wr σ i l (σ 8 0 i) := fun i hi l hl => by
    have hh := iv_hh I (i := i) (by omega)
    have hb := bq8 I i
    unfold wr mi_
    rw [h23 i hi 0 (by omega), h21 _ (by omega), h22 ((l : Int)).toNat (by omega)]
    by_cases c : σ 8 0 i < 0
    · rw [if_pos c, if_pos c]
    · rw [h22 (σ 8 0 i).toNat (by omega)]
  refine ⟨⟨fun i hi hs => ?_, fun l hl => ?_, fun i hi hs l hl hwx => ?_⟩, fun i h => ?_⟩
  · rw [h8]
    by_cases c : i < nh σ
    · exact P.1.1 i c (fun q => hs ((hst i c).mpr q))
    · refine Int.not_le.mp fun q => ?_
      have := (P.2 i q).1
      omega
  · rw [hcq, h22 l (by omega)]
    exact P.1.2.1 l (by omega)
  · have c : i < nh σ := Decidable.byContradiction fun q => hnew i (by omega) hi hs
    rw [h8, hwr i c l (by omega)] at hwx
    have := P.1.2.2 i c ((hst i c).mp hs) l (by omega) hwx
    rw [hcq, h22 l (by omega)]
    refine ⟨this.1, fun j hj ej => ?_⟩
    rw [h8] at ej
    have hj2 := (P.2 j (by omega)).1
    rw [hw i c, hw j hj2]
    exact this.2 j hj2 ej
  · rw [h8] at h
    have := P.2 i h
    exact ⟨by omega, (hst i this.1).mpr this.2⟩
end SoundT
