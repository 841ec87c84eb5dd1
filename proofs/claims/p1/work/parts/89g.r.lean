/-! BOTH IN ONE HEAP: the class's cells and the reference's -/
section Both
variable {em mi ic : Nat} {σ : ST} {x : Nat → Int} {A B : AD} {F G h : AH}
/-- the class's cells are the reference's frame, and back again -/
theorem to_ref {τ : ST} (R : Rp τ A em F h) (M : Rm σ x B em G F) : ∃ G', Rm σ x B em G' h ∧ (∀ a e, G a = some e → G' a = some e) ∧
    ∀ σ' x' B' h', Rm σ' x' B' em G' h' → ∃ F', Rp τ A em F' h' ∧ Rm σ' x' B' em G F' := by
  classical
  let G' : AH := fun a => if ∃ k i, lv τ k i ∧ A k i = a then h a else G a
  have g1 : ∀ a, (∃ k i, lv τ k i ∧ A k i = a) → G' a = h a := fun a q => if_pos q
  have g2 : ∀ a, ¬ (∃ k i, lv τ k i ∧ A k i = a) → G' a = G a := fun a q => if_neg q
  have nF : ∀ a, (∃ k i, lv τ k i ∧ A k i = a) → F a = none := by
    rintro a ⟨k, i, hl, rfl⟩
    exact R.2.2.2.2 k i hl
  have sG : ∀ a e, G a = some e → ¬ (∃ k i, lv τ k i ∧ A k i = a) := fun a e ha q => by
    have := rm_G M ha
    rw [nF a q] at this
    cases this
  have ni : ∀ a z, inC (F a) z → ¬ (∃ k i, lv τ k i ∧ A k i = a) := fun a z hi q => by
    rw [nF a q] at hi
    rcases hi with hi | ⟨g, hi, -⟩ <;> cases hi
  have nm : ∀ k i, vm σ k i → ¬ (∃ k' i', lv τ k' i' ∧ A k' i' = B k i) := fun k i hl q => by
    have := M.1 k i hl
    rw [nF _ q] at this
    cases this
  have ci : ∀ k i z, lv τ k i → ¬ inC (some (pk A em τ k i)) z := by
    intro k i z hl hi
    have h35 := lv_35 hl
    have hn : ∀ c fs, pk A em τ k i = .inr (c, fs) → c ≠ 2 := by
      intro c fs e
      unfold pk pkr at e
      split at e <;> first | (cases e; done) | (injection e with e; injection e with e1 e2; rw [← e1]; decide)
    have hn2 : ∀ c g, pk A em τ k i ≠ .inl (11, c, g) := by
      intro c g e
      unfold pk pkr at e
      split at e <;> first | (cases e; done) | (injection e with e; injection e with e1 e2; cases e1; done)
    rcases hi with hi | ⟨g, hi, -⟩
    · exact hn _ _ (Option.some.inj hi) rfl
    · exact hn2 _ _ (Option.some.inj hi)
  refine ⟨G', ⟨fun k i hl => rp_G R (M.1 k i hl), M.2.1, ?_, fun a e ha => ?_, fun k i hl => ?_, fun i hi => ?_⟩, fun a e ha => ?_, fun σ' x' B' h' My => ?_⟩
  · rw [g2 em (sG em _ M.2.2.1)]
    exact M.2.2.1
  · by_cases q : ∃ k i, lv τ k i ∧ A k i = a
    · rw [g1 a q] at ha
      exact ha
    · rw [g2 a q] at ha
      exact rp_G R (rm_G M ha)
  · rw [g2 _ (nm k i hl)]
    exact M.2.2.2.2.1 k i hl
  · rcases rm_25 M hi with q | ⟨g, q, e⟩
    · exact Or.inl (rp_G R q)
    · exact Or.inr ⟨g, rp_G R q, e⟩
  · rw [g2 a (sG a e ha)]
    exact ha
  · let F' : AH := fun a => if ∃ k i, lv τ k i ∧ A k i = a then none else h' a
    have f1 : ∀ a, (∃ k i, lv τ k i ∧ A k i = a) → F' a = none := fun a q => if_pos q
    have f2 : ∀ a, ¬ (∃ k i, lv τ k i ∧ A k i = a) → F' a = h' a := fun a q => if_neg q
    have hc : ∀ a, (∃ k i, lv τ k i ∧ A k i = a) → ∃ e, h' a = some e ∧ G' a = some e ∧ h a = some e := by
      rintro a ⟨k, i, hl, rfl⟩
      have e1 := R.1 k i hl
      have e2 : G' (A k i) = some (pk A em τ k i) := by rw [g1 _ ⟨k, i, hl, rfl⟩]; exact e1
      exact ⟨_, rm_G My e2, e2, e1⟩
    have nm' : ∀ k i, vm σ' k i → ¬ (∃ k' i', lv τ k' i' ∧ A k' i' = B' k i) := fun k i hl q => by
      obtain ⟨e, -, h2, -⟩ := hc _ q
      rw [My.2.2.2.2.1 k i hl] at h2
      cases h2
    refine ⟨F', ⟨fun k i hl => ?_, R.2.1, ?_, fun a e ha => ?_, fun k i hl => f1 _ ⟨k, i, hl, rfl⟩⟩, ⟨fun k i hl => ?_, My.2.1, M.2.2.1, fun a e ha => ?_, fun k i hl => ?_, fun i hi => ?_⟩⟩
    · obtain ⟨e, h1, h2, h3⟩ := hc _ ⟨k, i, hl, rfl⟩
      rw [h1, ← h3]
      exact R.1 k i hl
    · rw [f2 em (sG em _ M.2.2.1)]
      exact rm_em My
    · by_cases q : ∃ k i, lv τ k i ∧ A k i = a
      · rw [f1 a q] at ha
        cases ha
      · rw [f2 a q] at ha
        exact ha
    · rw [f2 _ (nm' k i hl)]
      exact My.1 k i hl
    · rw [f2 a (sG a e ha)]
      exact rm_G My (by rw [g2 a (sG a e ha)]; exact ha)
    · cases c : G (B' k i) with
      | none => rfl
      | some e =>
        have := My.2.2.2.2.1 k i hl
        rw [g2 _ (sG _ e c), c] at this
        cases this
    · have hi' := rm_25 My hi
      rw [f2]
      · exact hi'
      · rintro ⟨k, j, hl, e⟩
        obtain ⟨e', h1, -, h3⟩ := hc _ ⟨k, j, hl, e⟩
        rw [h1] at hi'
        have e1 := R.1 k j hl
        rw [e, h3] at e1
        rw [Option.some.inj e1] at hi'
        exact ci k j _ hl hi'
theorem pub_eqm {τ : ST} (e : pub τ = pub σ) : eqm σ τ :=
  ⟨⟨fun k h1 h2 => pub_i e (by omega) (by omega), fun k i f h1 h2 _ => pub_i e (by omega) (by omega), fun i => pub_25 e (by omega)⟩, fun f => pub_i e (by omega) (by omega), fun f => pub_i e (by omega) (by omega), fun f => pub_i e (by omega) (by omega), pub_i e (by omega) (by omega)⟩
theorem stl_eqm (σ : ST) : eqm σ (stl σ) :=
  ⟨⟨fun k h1 h2 => stl_k σ (by omega), fun k i f h1 h2 _ => stl_k σ (by omega), fun i => stl_k σ (by omega)⟩, fun f => stl_k σ (by omega), fun f => stl_k σ (by omega), fun f => stl_k σ (by omega), stl_k σ (by omega)⟩
theorem s2_eqm (σ : ST) (k n : Nat) (m m' : Int) (r : Nat → Int) (hk : 11 ≤ k ∧ k ≤ 15) : eqm (s2 σ k n m r) (s2 σ k n m' r) := by
  have e : ∀ k' i' f, (k' = k → f ≠ 1) → s2 σ k n m' r k' i' f = s2 σ k n m r k' i' f := fun k' i' f hf => by
    unfold s2
    by_cases c : k' = k ∧ i' = 0
    · rw [if_pos c, if_pos c]
      have := hf c.1
      simp only [this, if_false]
    · rw [if_neg c, if_neg c]
  exact ⟨⟨fun k' _ _ => e _ _ _ (by omega), fun k' i f _ _ _ => e _ _ _ (by omega), fun i => e _ _ _ (by omega)⟩, fun f => e _ _ _ (by omega), fun f => e _ _ _ (by omega), fun f => e _ _ _ (by omega), e _ _ _ (by omega)⟩
/-- nothing lasts longer than its hours -/
def Hb (σ : ST) : Prop := ∀ i, i < nt σ → σ 24 i 1 ≤ σ 1 0 2 + 99
theorem Hb_pub {τ : ST} (e : pub τ = pub σ) (H : Hb σ) : Hb τ := fun i hi => by
  rw [pub_nt e] at hi
  have := H i hi
  rw [pub_i e (by omega) (by omega), pub_i e (by omega) (by omega)]
  exact this
theorem SkB_pub {τ : ST} {s : Nat} (e : pub τ = pub σ) (H : SkB σ s) : SkB τ s := ⟨fun i => by
  rw [pub_nn e, pub_25 e (by omega)]
  exact H.1 i, fun i hi => by
  rw [pub_nn e] at hi
  rw [pub_25 e (by omega)]
  exact H.2 i hi⟩
theorem Hb_c {τ : ST} (H : Hb σ) (h24 : ∀ i, τ 24 i 1 = σ 24 i 1) (h14 : τ 14 0 0 = σ 14 0 0) (h1 : σ 1 0 2 ≤ τ 1 0 2) : Hb τ := fun i hi => by
  unfold nt at hi
  rw [h14] at hi
  have := H i hi
  rw [h24]
  omega
theorem SkB_c {τ : ST} {s : Nat} (H : SkB σ s) (h25 : ∀ i f, τ 25 i f = σ 25 i f) (h15 : τ 15 0 0 = σ 15 0 0) : SkB τ s := by
  have e : nn τ = nn σ := by
    unfold nn
    rw [h15]
  refine ⟨fun i => ?_, fun i hi => ?_⟩
  · rw [e, h25]
    exact H.1 i
  · rw [e] at hi
    rw [h25]
    exact H.2 i hi
theorem A_k {τ : ST} (H : Ak σ) (I : Iv σ) (E : ∀ k i f, k = 5 ∨ k = 8 ∨ k = 12 ∨ k = 13 ∨ k = 21 ∨ k = 22 ∨ (k = 23 ∧ f ≠ 3) → τ k i f = σ k i f) (E3 : ∀ i, τ 23 i 3 = 1 ↔ σ 23 i 3 = 1) : Ak τ := by
  have enh : nh τ = nh σ := by
    unfold nh
    rw [E 13 _ _ (by omega)]
  exact ak_c H I (E 5 0 0 (by omega)) (fun i => E 8 0 i (by omega)) (E 12 0 0 (by omega)) (by omega) (fun l => E 22 l 0 (by omega)) (fun i _ => ⟨E 23 i 0 (by omega), E3 i⟩) (fun s _ => E 21 s 1 (by omega)) (fun i h1 h2 => by omega)
theorem A_s {τ : ST} (H : Ak σ) (I : Iv σ) (E : ∀ k i f, k ≠ 1 → k ≠ 2 → k ≠ 6 → k ≠ 7 → k ≠ 9 → k ≠ 14 → k ≠ 15 → k ≠ 24 → k ≠ 25 → τ k i f = σ k i f) : Ak τ :=
  A_k H I (fun k i f h => E k i f (by omega) (by omega) (by omega) (by omega) (by omega) (by omega) (by omega) (by omega) (by omega)) fun i => by rw [E 23 i 3 (by omega) (by omega) (by omega) (by omega) (by omega) (by omega) (by omega) (by omega) (by omega)]
theorem A_pub {τ : ST} (e : pub τ = pub σ) (H : Ak σ) (I : Iv σ) : Ak τ := A_s H I fun k i f _ _ _ _ h9 _ _ _ h25 => pub_i e h9 h25
theorem A_street (H : Ak σ) (I : Iv σ) {m a b : Int} : Ak (s2 σ 11 (σ 11 0 0).toNat m (rec3 a b 0)) := by
  have z := iv_z I
  have o : ∀ k i f, k ≠ 11 → k ≠ 21 → s2 σ 11 (σ 11 0 0).toNat m (rec3 a b 0) k i f = σ k i f := fun k i f h1 h2 => by rw [s2_o (by omega) (by omega)]
  have enh : nh (s2 σ 11 (σ 11 0 0).toNat m (rec3 a b 0)) = nh σ := by
    unfold nh
    rw [o 13 _ _ (by omega) (by omega)]
  refine ak_c H I (o 5 0 0 (by omega) (by omega)) (fun i => o 8 0 i (by omega) (by omega)) (o 12 0 0 (by omega) (by omega)) (by omega) (fun l => o 22 l 0 (by omega) (by omega)) (fun i _ => ⟨o 23 i 0 (by omega) (by omega), by rw [o 23 i 3 (by omega) (by omega)]⟩) (fun s hs => by rw [s2_o (by omega) (by omega)]) (fun i h1 h2 => by omega)
theorem A_household (H : Ak σ) (I : Iv σ) {m p f : Int} {s : Nat} (h : σ 13 0 0 < 6) : Ak (s2 σ 13 (σ 13 0 0).toNat m (hhR σ s p f)) := by
  have z := iv_z I
  have o : ∀ k i g, k ≠ 13 → k ≠ 23 → s2 σ 13 (σ 13 0 0).toNat m (hhR σ s p f) k i g = σ k i g := fun k i g h1 h2 => by rw [s2_o (by omega) (by omega)]
  have e13 : s2 σ 13 (σ 13 0 0).toNat m (hhR σ s p f) 13 0 0 = σ 13 0 0 + 1 := by rw [s2_z]; omega
  have ehh : nh (s2 σ 13 (σ 13 0 0).toNat m (hhR σ s p f)) = nh σ + 1 := by unfold nh; rw [e13]; omega
  have o2 : ∀ i, i < nh σ → s2 σ 13 (σ 13 0 0).toNat m (hhR σ s p f) 23 i = σ 23 i := fun i hi => s2_o (by omega) (by unfold nh at hi; omega)
  refine ak_c H I (o 5 0 0 (by omega) (by omega)) (fun i => o 8 0 i (by omega) (by omega)) (o 12 0 0 (by omega) (by omega)) (by omega) (fun l => o 22 l 0 (by omega) (by omega)) (fun i hi => by rw [o2 i hi]; exact ⟨rfl, Iff.rfl⟩) (fun s _ => o 21 s 1 (by omega) (by omega)) (fun i h1 h2 => ?_)
  have hi : i = (σ 13 0 0).toNat := by unfold nh at h1 ehh h2; omega
  rw [hi, show s2 σ 13 (σ 13 0 0).toNat m (hhR σ s p f) 23 (σ 13 0 0).toNat = hhR σ s p f from s2_e]
  show (if fld σ s = true then (2 : Int) else 0) ≠ 1
  split <;> omega
theorem A_hall (I : Iv σ) {m a b : Int} (h : σ 12 0 0 < 3) (ha : 0 ≤ a ∧ a ≤ 4) (hb : 0 ≤ b ∧ b ≤ 99) : Ak (stl (s2 σ 12 (σ 12 0 0).toNat m (rec3 b a 0))) := stl_ak (iv_a12 (m := m) I h ha hb)
theorem A_rooms (I : Iv σ) {l : Nat} {z : Int} (hz : 0 ≤ z ∧ z ≤ 4) : Ak (rmS σ l z) := stl_ak (iv_s22 I hz.1 hz.2)
theorem A_fetch (I : Iv σ) {i : Nat} (h : σ 2 0 1 < σ 2 0 0) : Ak (feS σ i) := stl_ak (iv_fe I h)
theorem A_give (H : Ak σ) (I : Iv σ) (w : Int) : Ak (hoE σ w) := A_s H I fun k i f _ _ h6 _ _ _ _ h24 _ => hoE_k σ w h6 (fun q => absurd q h24)
theorem A_hour (H : Ak σ) (I : Iv σ) : Ak (hrS σ) := by
  have o : ∀ k i f, k ≠ 1 → k ≠ 2 → k ≠ 6 → (k = 23 → f ≠ 3) → k ≠ 24 → hrS σ k i f = σ k i f := fun k i f h1 h2 h3 h4 h5 => by
    unfold hrS
    rw [spb_k _ _ h3 (by omega), cuS_k _ h4]
    unfold ho1 flS
    rw [s3_r (by omega), s3_r (by omega), s3_r (by omega)]
  refine A_k H I (fun k i f h => o k i f (by omega) (by omega) (by omega) (by omega) (by omega)) fun i => ?_
  have k23 : hrS σ 23 i 3 = cuS (ho1 σ) (nh σ) 23 i 3 := by
    unfold hrS
    rw [spb_k _ _ (by omega) (by omega)]
  rw [k23]
  exact cuS_3 (ho1 σ) i (nh σ)
theorem A_pass (HA : Ak σ) (H : J σ) : ∀ k : Nat, σ 1 0 2 + k ≤ 500 → Ak (paS σ k)
  | 0, _ => HA
  | k + 1, h => A_hour (A_pass HA H k (by omega)) (J_pass H k (by omega)).1.1
theorem A_0 : Ak st0 := rfl
/-- what the reference says of the county is what the class says -/
theorem cty_x {s : Nat} {w v : Int} (H : CtyV σ s w v) (S : SkB σ s) (K : Ak σ) (I : Iv σ) : v = cty σ w := by
  unfold CtyV at H
  split at H
  · rename_i c
    subst c
    obtain ⟨g, hg, rfl⟩ := H
    exact ak_g K I hg
  · split at H
    · rename_i c
      subst c
      exact H.2 S
    · exact H
theorem dgl_c {f g : Nat → Int} (d : Int64) : ∀ n, (∀ m, m < n → f m = g m) → dgl f n d = dgl g n d
  | 0, _ => rfl
  | n + 1, h => by rw [← dgl_e f, ← dgl_e g, dgl_c d n (fun m hm => h m (by omega)), h n (by omega)]
theorem dge_x {f : Nat → Int} (hf : ∀ w : Nat, w < 19 → f w = cty σ w) : dgeF σ f = dge σ true := by
  have e : dgF1 f = dg1 σ := dgl_c _ 19 hf
  unfold dgeF dgF5 dgF4 dgF3 dgF2 dge dg5 dg4 dg3 dg2
  rw [e]
theorem xu_k0 {x : Nat → Int} (k : Nat) (v : Int) : xu x (k + 1) v 0 = x 0 := rfl
theorem lg_s (x : Int64) : lg_cmp x x = Int32.ofInt 0 := by
  unfold lg_cmp
  simp
theorem give_eqm (H : J σ) (B1 : Hb σ) {w : Int} (hw : 0 ≤ w ∧ w ≤ 99) : eqm (gvE σ w) (hoE σ w) ∧ (gou σ w 100).2 = (ho σ w (nt σ)).2 := by
  obtain ⟨e1, e2⟩ := give_e H.1 H.2.2.1 B1 hw
  have hf : ∀ k j f, k ≠ 6 → (k = 24 → f ≠ 2) → hoE σ w k j f = gvE σ w k j f := fun k j f h6 h24 => by
    rw [hoE_k σ w h6 h24]
    unfold gvE
    rw [s3_r (by omega), s3_r (by omega), gou_k h24]
  have h6 : ∀ f, hoE σ w 6 0 f = gvE σ w 6 0 f := fun f => by
    unfold hoE gvE
    rw [e2]
    have k1 : (ho σ w (nt σ)).1 6 0 f = σ 6 0 f := ho_k σ w (by omega) _
    have k2 : (gou σ w 100).1 6 0 f = σ 6 0 f := gou_k (by omega) _
    simp only [s3, k1, k2]
  have n14 : gvE σ w 14 0 0 = σ 14 0 0 := by rw [← hf 14 0 0 (by omega) (by omega), hoE_k σ w (by omega) (by omega)]
  refine ⟨⟨⟨fun k _ _ => hf _ _ _ (by omega) (by omega), fun k i f h1 h2 h3 => ?_, fun i => hf _ _ _ (by omega) (by omega)⟩, fun f => hf _ _ _ (by omega) (by omega), fun f => hf _ _ _ (by omega) (by omega), h6, hf _ _ _ (by omega) (by omega)⟩, e2⟩
  by_cases c : k = 24 ∧ f = 2
  · rw [c.1, c.2]
    rw [c.1] at h3
    have hi : i < nt σ := by
      have := nt_e H.1
      have h3' : (i : Int) < gvE σ w 14 0 0 := h3
      rw [n14] at h3'
      omega
    have := e1 i hi
    unfold hoE gvE
    rw [s3_r (by omega), s3_r (by omega), s3_r (by omega), s3_r (by omega)]
    exact this.symm
  · exact hf k i f (by omega) (fun h => fun q => c ⟨h, q⟩)
end Both
