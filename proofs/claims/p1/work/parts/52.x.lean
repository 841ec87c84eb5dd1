/-! THEORY: settle gives the stable placing -/
section Settled
variable {σ : ST}
def fx (σ τ : ST) : Prop := ∀ k j f, k ≠ 5 → k ≠ 8 → k ≠ 10 → τ k j f = σ k j f
theorem fx_wr {τ : ST} (e : fx σ τ) (i : Nat) (a b : Int) : wr τ i a b = wr σ i a b := by
  unfold wr mi_
  simp only [e 22 _ _ (by omega) (by omega) (by omega), e 23 _ _ (by omega) (by omega) (by omega), e 21 _ _ (by omega) (by omega) (by omega)]
theorem fx_gb {τ : ST} (e : fx σ τ) (i j : Nat) : gb τ i j = gb σ i j := by
  unfold gb
  simp only [e 23 _ _ (by omega) (by omega) (by omega)]
theorem fx_w {τ : ST} (e : fx σ τ) (i : Nat) : wth τ i = wth σ i := by
  unfold wth
  simp only [e 23 _ _ (by omega) (by omega) (by omega)]
theorem fx_nh {τ : ST} (e : fx σ τ) : nh τ = nh σ := by
  unfold nh
  rw [e 13 _ _ (by omega) (by omega) (by omega)]
theorem fx_nl {τ : ST} (e : fx σ τ) : nl τ = nl σ := by
  unfold nl
  rw [e 12 _ _ (by omega) (by omega) (by omega)]
theorem as2_h (I : Iv σ) (i l : Nat) (i' l' : Nat) : hask (as2 σ i l) i' l' = hk1 (hask σ) i l i' l' := by
  have e : as2 σ i l 10 0 i' = if i' = i then (((σ 10 0 i).toNat ||| 2 ^ l : Nat) : Int) else σ 10 0 i' := by
    unfold as2
    rw [s3_8]
    split
    · rfl
    · rw [s3_r (by omega)]
  unfold hask hk1
  rw [e]
  split
  · rename_i q
    rw [q, Int.toNat_natCast, Nat.testBit_or, Nat.testBit_two_pow]
    simp [eq_comm]
  · rename_i q
    simp [q]
theorem ask_h (I : Iv σ) (i l : Nat) (i' l' : Nat) : hask (ask σ i l) i' l' = hk1 (hask σ) i l i' l' := by
  rw [← as2_h I]
  unfold ask hask
  split
  · rw [s3_r (by omega)]
  · split
    · rw [s3_r (by omega), s3_r (by omega)]
    · rfl
theorem as2_fx (σ : ST) (i l : Nat) : fx σ (as2 σ i l) := fun k j f h5 _ h10 => by
  unfold as2
  rw [s3_r (by omega), s3_r (by omega)]
theorem as2_8 (σ : ST) (i l j : Nat) : as2 σ i l 8 0 j = σ 8 0 j := by
  unfold as2
  rw [s3_r (by omega), s3_r (by omega)]
theorem cq_cn (σ : ST) (q l : Nat) : cq σ q l = cn (fun j => σ q 0 j) (nh σ) l := rfl
def Dt (σ τ : ST) : Prop := fx σ τ ∧ Iv τ ∧ DA σ (fun j => τ 8 0 j) (hask τ)
theorem dt_ask {τ : ST} (H : Dt σ τ) {i : Nat} (hi : i < nh σ) (hs : σ 23 i 3 = 1) (hm : τ 8 0 i < 0) (hf : 0 ≤ fav τ i (nl σ)) : Dt σ (ask τ i (fav τ i (nl σ)).toNat) := by
  obtain ⟨e, I, D⟩ := H
  have hn := nh_e I
  have hln := nl_e I
  have hz := iv_z I
  have enh := fx_nh e
  have enl := fx_nl e
  have fb := fav_b τ i (nl σ)
  have fp := (fav_p τ i (nl σ)).2 hf
  generalize hl : (fav τ i (nl σ)).toNat = l at *
  have hll : fav τ i (nl σ) = l := by omega
  rw [hll] at fp
  have fl : l < nl σ := by omega
  have ff : ∀ l' : Nat, l' < nl σ → wr σ i l' l = true → hask τ i l' = true := fun l' h1 h2 => fp.2 l' h1 (by rw [fx_wr e]; exact h2)
  have I2 := as2_iv (i := i) I (l := l) (by omega)
  have Ia := ask_iv I (i := i) (l := l) (by omega) (by omega)
  have hh : (hask (ask τ i l)) = hk1 (hask τ) i l := by
    funext i' l'
    exact ask_h I i l i' l'
  have cap : as2 τ i l 22 l 1 = σ 22 l 1 := by
    rw [as2_fx τ i l 22 _ _ (by omega) (by omega) (by omega)]
    exact e 22 _ _ (by omega) (by omega) (by omega)
  have cqe : cq (as2 τ i l) 8 l = cn (fun j => τ 8 0 j) (nh σ) l := by
    rw [cq_cn]
    have : (fun j => as2 τ i l 8 0 j) = fun j => τ 8 0 j := funext fun j => as2_8 τ i l j
    rw [this, show nh (as2 τ i l) = nh τ from rfl, enh]
  have hhro : hro (as2 τ i l) 8 l = decide (cn (fun j => τ 8 0 j) (nh σ) l < σ 22 l 1) := by
    unfold hro
    rw [pc_gs I2, cqe, cap]
  refine ⟨fun k j f h5 h8 h10 => ?_, Ia, ?_⟩
  · rw [ask_k τ i l ⟨h5, h8, h10⟩]
    exact e k j f h5 h8 h10
  · rw [hh]
    have a8 : ∀ x, ask τ i l = x → (fun j => ask τ i l 8 0 j) = fun j => x 8 0 j := fun x h => by rw [h]
    by_cases c : cn (fun j => τ 8 0 j) (nh σ) l < σ 22 l 1
    · have ea : ask τ i l = s3 (as2 τ i l) 8 0 i l := by
        unfold ask
        rw [if_pos (by rw [hhro]; exact decide_eq_true c)]
      rw [a8 _ ea]
      have : (fun j => s3 (as2 τ i l) 8 0 i l 8 0 j) = mu1 (fun j => τ 8 0 j) i l := by
        funext j
        rw [s3_8, as2_8]
        rfl
      rw [this]
      exact da_A D hi hs fl hm ff c
    · have nhr : ¬ hro (as2 τ i l) 8 l = true := by rw [hhro, decide_eq_true_eq]; exact c
      have lp := lst_p I2 8 l (nh σ) (by rw [show nh (as2 τ i l) = nh τ from rfl, enh]; exact Nat.le_refl _)
      have lb := lst_b (as2 τ i l) 8 l (nh σ)
      have gbe : ∀ a b, gb (as2 τ i l) a b = gb σ a b := fun a b => by rw [fx_gb (as2_fx τ i l), fx_gb e]
      have wte : ∀ a, wth (as2 τ i l) a = wth σ a := fun a => by rw [fx_w (as2_fx τ i l), fx_w e]
      have gw : ∀ a b, a < nh σ → b < nh σ → gb σ a b = decide (wth σ b < wth σ a) := fun a b ha hb => by
        rw [← fx_gb e, gb_w I (by rw [enh]; exact ha) (by rw [enh]; exact hb), fx_w e, fx_w e]
      by_cases c2 : 0 ≤ lst (as2 τ i l) 8 l (nh σ) ∧ gb (as2 τ i l) i (lst (as2 τ i l) 8 l (nh σ)).toNat = true
      · have ea : ask τ i l = s3 (s3 (as2 τ i l) 8 0 (lst (as2 τ i l) 8 l (nh σ)).toNat (-1)) 8 0 i l := by
          unfold ask
          rw [if_neg nhr, enh, if_pos c2]
        rw [a8 _ ea]
        generalize hle : (lst (as2 τ i l) 8 l (nh σ)).toNat = le at *
        have : (fun j => s3 (s3 (as2 τ i l) 8 0 le (-1)) 8 0 i l 8 0 j) = mu1 (mu1 (fun j => τ 8 0 j) le (-1)) i l := by
          funext j
          rw [s3_8, s3_8, as2_8]
          rfl
        rw [this]
        have l1 := lp.2 c2.1
        rw [as2_8] at l1
        have hle2 : le < nh σ := by omega
        refine da_C D hi hs fl hm ff (by omega) hle2 l1.1 ?_ fun j hj ej hne => ?_
        · have := c2.2
          rw [gbe, gw i le hi hle2, decide_eq_true_eq] at this
          exact this
        · have := l1.2 j hj (by rw [as2_8]; exact ej) hne
          rw [wte, wte] at this
          exact this
      · have ea : ask τ i l = as2 τ i l := by
          unfold ask
          rw [if_neg nhr, enh, if_neg c2]
        rw [a8 _ ea]
        have : (fun j => as2 τ i l 8 0 j) = fun j => τ 8 0 j := funext fun j => as2_8 τ i l j
        rw [this]
        refine da_B D ff (by omega) fun j hj ej => ?_
        by_cases c3 : lst (as2 τ i l) 8 l (nh σ) < 0
        · exact absurd (by rw [as2_8]; exact ej) (lp.1 c3 j hj)
        · have l1 := lp.2 (by omega)
          rw [as2_8] at l1
          have hg : gb (as2 τ i l) i (lst (as2 τ i l) 8 l (nh σ)).toNat = false := by
            cases q : gb (as2 τ i l) i (lst (as2 τ i l) 8 l (nh σ)).toNat with
            | false => rfl
            | true => exact absurd ⟨by omega, q⟩ c2
          generalize hle : (lst (as2 τ i l) 8 l (nh σ)).toNat = le at *
          have hle2 : le < nh σ := by omega
          rw [gbe, gw i le hi hle2, decide_eq_false_iff_not] at hg
          have ne : wth σ i ≠ wth σ le := fun w => by
            have : i = le := wth_i I (by rw [enh]; exact hi) (by rw [enh]; exact hle2) (by rw [fx_w e, fx_w e]; exact w)
            rw [← this] at l1
            omega
          by_cases q : j = le
          · rw [q]
            omega
          · have := l1.2 j hj (by rw [as2_8]; exact ej) q
            rw [wte, wte] at this
            omega
theorem dt_nx {τ : ST} (H : Dt σ τ) : Dt σ (nx τ) := by
  have enh := fx_nh H.1
  have enl := fx_nl H.1
  unfold nx
  split
  · have h1 := (fi_t (cnd τ) (nh τ) ‹_›).1
    have hc : τ 23 (fi (cnd τ) (nh τ)) 3 = 1 ∧ τ 8 0 (fi (cnd τ) (nh τ)) < 0 ∧ 0 ≤ fav τ (fi (cnd τ) (nh τ)) (nl τ) := by simpa [cnd] using h1
    rw [enl] at hc ⊢
    rename_i hlt
    exact dt_ask H (by omega) (by rw [← H.1 23 _ _ (by omega) (by omega) (by omega)]; exact hc.1) hc.2.1 hc.2.2
  · exact H
theorem dt_bas (I : Iv σ) : Dt σ (bas σ) := by
  have r := iv_z I
  have e8 : ∀ j, bas σ 8 0 j = -1 := fun j => by
    unfold bas
    rw [s3_r (by omega)]
    show (if 8 = 8 ∧ 0 = 0 ∧ j < 6 then (-1 : Int) else σ 8 0 j) = -1
    split
    · rfl
    · exact (iv_6 I (by omega)).1
  have e10 : ∀ j, j < 6 → bas σ 10 0 j = 0 := fun j hj => by
    unfold bas
    rw [s3_r (by omega)]
    show (if 10 = 10 ∧ 0 = 0 ∧ j < 6 then (0 : Int) else _) = 0
    rw [if_pos ⟨rfl, rfl, hj⟩]
  refine ⟨fun k j f h5 h8 h10 => ?_, bas_iv I, ?_⟩
  · unfold bas
    rw [s3_r (by omega)]
    unfold zr clr
    rw [if_neg (by omega), if_neg (by omega)]
  · have : (fun j => bas σ 8 0 j) = fun _ => -1 := funext e8
    rw [this]
    have D := da_0 I
    have hn := nh_e I
    have hz := iv_z I
    have hh : ∀ i l, i < nh σ → hask (bas σ) i l = false := fun i l hi => by
      unfold hask
      rw [e10 i (by omega)]
      simp
    refine ⟨D.1, D.2.1, D.2.2.1, fun i _ h => absurd (show (0 : Int) ≤ -1 from h) (by omega), fun i hi l _ h => ?_, fun i hi l l' _ _ h => ?_⟩
    · rw [hh i l hi] at h
      cases h
    · rw [hh i l hi] at h
      cases h
theorem dt_itn (I : Iv σ) : ∀ k, Dt σ (itn k (bas σ))
  | 0 => dt_bas I
  | k + 1 => dt_nx (dt_itn I k)
/-- nobody asks any more -/
def idl (τ : ST) : Prop := ∀ i, i < nh τ → cnd τ i = false
theorem nx_i {τ : ST} (h : idl τ) : nx τ = τ := by
  unfold nx
  rw [fi_n h, if_neg (by omega)]
def bts (τ : ST) : Int := sumf (fun i => cnt (fun l => hask τ i l) 3) 6
theorem sumf_ch {f g : Nat → Int} {n i : Nat} (hi : i < n) (h : ∀ j, j < n → j ≠ i → f j = g j) : sumf g n = sumf f n - f i + g i := by
  induction n with
  | zero => omega
  | succ n ih =>
    simp only [sumf]
    by_cases c : i = n
    · subst c
      have : sumf f i = sumf g i := by
        have H : ∀ m, m ≤ i → sumf f m = sumf g m := by
          intro m
          induction m with
          | zero => intro _; rfl
          | succ m ihm =>
            intro hm
            simp only [sumf]
            rw [ihm (by omega), h m (by omega) (by omega)]
        exact H i (Nat.le_refl _)
      omega
    · rw [ih (by omega) fun j hj hn => h j (by omega) hn, h n (by omega) (by omega)]
      omega
theorem bts_nx {τ : ST} (H : Dt σ τ) (h : ¬ idl τ) : bts (nx τ) = bts τ + 1 := by
  have I := H.2.1
  have hn := nh_e I
  have hln := nl_e I
  have hz := iv_z I
  have hlt : fi (cnd τ) (nh τ) < nh τ := by
    have := fi_le (cnd τ) (nh τ)
    refine Decidable.byContradiction fun c => h fun i hi => ?_
    cases q : cnd τ i with
    | false => rfl
    | true =>
      exfalso
      have hm : ∃ i, i < nh τ ∧ cnd τ i = true ∧ ∀ k, k < i → cnd τ k = false := by
        induction i using Nat.strongRecOn with
        | _ i ih =>
          by_cases q2 : ∃ k, k < i ∧ cnd τ k = true
          · obtain ⟨k, h1, h2⟩ := q2
            exact ih k h1 (by omega) h2
          · refine ⟨i, hi, q, fun k hk => ?_⟩
            cases hp : cnd τ k with
            | false => rfl
            | true => exact absurd ⟨k, hk, hp⟩ q2
      obtain ⟨i', h1, h2, h3⟩ := hm
      have := fi_e h3 h1 h2
      omega
  have h1 := (fi_t (cnd τ) (nh τ) hlt).1
  have hc : τ 23 (fi (cnd τ) (nh τ)) 3 = 1 ∧ τ 8 0 (fi (cnd τ) (nh τ)) < 0 ∧ 0 ≤ fav τ (fi (cnd τ) (nh τ)) (nl τ) := by simpa [cnd] using h1
  unfold nx
  rw [if_pos hlt]
  generalize fi (cnd τ) (nh τ) = i at *
  have fb := fav_b τ i (nl τ)
  have fp := (fav_p τ i (nl τ)).2 hc.2.2
  have hl3 : (fav τ i (nl τ)).toNat < 3 := by omega
  generalize (fav τ i (nl τ)).toNat = l at *
  unfold bts
  rw [sumf_ch (f := fun i => cnt (fun l => hask τ i l) 3) (i := i) (by omega) fun j hj hne => cnt_e fun l' _ => by rw [ask_h I]; simp [hk1, hne]]
  have e2 := cnt_ch (p := fun l => hask τ i l) (q := fun l' => hask (ask τ i l) i l') (n := 3) (i := l) hl3 fun j _ hne => by
    rw [ask_h I]
    simp [hk1, hne]
  show _ - cnt (fun l => hask τ i l) 3 + cnt (fun l' => hask (ask τ i l) i l') 3 = _
  rw [e2, fp.1, ask_h I, hk1_s, b2_f, b2_t]
  show sumf _ 6 - _ + _ = sumf _ 6 + 1
  omega
theorem stl_idl (I : Iv σ) : idl (stl σ) := by
  have step : ∀ k : Nat, idl (itn k (bas σ)) ∨ (k : Int) ≤ bts (itn k (bas σ)) := by
    intro k
    induction k with
    | zero =>
      right
      have := sumf_b (f := fun i => cnt (fun l => hask (bas σ) i l) 3) (n := 6) (B := 3) fun i _ => cnt_b _ 3
      exact this.1
    | succ k ih =>
      by_cases c : idl (itn k (bas σ))
      · left
        show idl (nx (itn k (bas σ)))
        rw [nx_i c]
        exact c
      · right
        rcases ih with h | h
        · exact absurd h c
        · show _ ≤ bts (nx (itn k (bas σ)))
          rw [bts_nx (dt_itn I k) c]
          omega
  rcases step 18 with h | h
  · exact h
  · intro i hi
    have Dn := dt_itn I 18
    have I2 := Dn.2.1
    have hn := nh_e I2
    have hln := nl_e I2
    have hz := iv_z I2
    change i < nh (itn 18 (bas σ)) at hi
    show cnd (itn 18 (bas σ)) i = false
    generalize itn 18 (bas σ) = τ at *
    have cb := fun i => cnt_b (fun l => hask τ i l) 3
    have all3 : ∀ i, i < 6 → cnt (fun l => hask τ i l) 3 = 3 := fun i hi => by
      have b0 := cb 0
      have b1 := cb 1
      have b2' := cb 2
      have b3 := cb 3
      have b4 := cb 4
      have b5 := cb 5
      have hS : bts τ = 0 + cnt (fun l => hask τ 0 l) 3 + cnt (fun l => hask τ 1 l) 3 + cnt (fun l => hask τ 2 l) 3 + cnt (fun l => hask τ 3 l) 3 + cnt (fun l => hask τ 4 l) 3 + cnt (fun l => hask τ 5 l) 3 := rfl
      have : i = 0 ∨ i = 1 ∨ i = 2 ∨ i = 3 ∨ i = 4 ∨ i = 5 := by omega
      rcases this with rfl | rfl | rfl | rfl | rfl | rfl <;> omega
    cases c : cnd τ i with
    | false => rfl
    | true =>
      exfalso
      have hc : τ 23 i 3 = 1 ∧ τ 8 0 i < 0 ∧ 0 ≤ fav τ i (nl τ) := by simpa [cnd] using c
      have fb := fav_b τ i (nl τ)
      have fp := ((fav_p τ i (nl τ)).2 hc.2.2).1
      have a3 := all3 i (by omega)
      have e3 : cnt (fun l => hask τ i l) 3 = 0 + b2 (hask τ i 0) + b2 (hask τ i 1) + b2 (hask τ i 2) := rfl
      have c0 := b2_01 (hask τ i 0)
      have c1 := b2_01 (hask τ i 1)
      have c2 := b2_01 (hask τ i 2)
      have : (fav τ i (nl τ)).toNat = 0 ∨ (fav τ i (nl τ)).toNat = 1 ∨ (fav τ i (nl τ)).toNat = 2 := by omega
      rcases this with h | h | h <;> rw [h] at fp <;> rw [fp, b2_f] at e3 <;> omega
/-- the placing that settle gives -/
def Pl (σ : ST) : Prop := Sb σ 8 ∧ ∀ i, 0 ≤ σ 8 0 i → i < nh σ ∧ σ 23 i 3 = 1
theorem stl_pl (I : Iv σ) : Pl (stl σ) := by
  have hid := stl_idl I
  have D := dt_itn I 18
  change Dt σ (stl σ) at D
  obtain ⟨e, I2, D0, DB, D1, D2, D3, D4⟩ := D
  have enh := fx_nh e
  have enl := fx_nl e
  have s23 : ∀ i, stl σ 23 i 3 = σ 23 i 3 := fun i => e 23 _ _ (by omega) (by omega) (by omega)
  have s22 : ∀ l, stl σ 22 l 1 = σ 22 l 1 := fun i => e 22 _ _ (by omega) (by omega) (by omega)
  have hcq : ∀ l, cq (stl σ) 8 l = cn (fun j => stl σ 8 0 j) (nh σ) l := fun l => by rw [cq_cn, enh]
  refine ⟨⟨fun i hi hs => ?_, fun l hl => ?_, fun i hi hs l hl hw => ?_⟩, fun i h => ?_⟩
  · refine Decidable.byContradiction fun c => hs ?_
    rw [s23]
    exact (D0 i (show (0 : Int) ≤ stl σ 8 0 i by omega)).2
  · rw [hcq, s22]
    exact D1 l (by omega)
  · have asked : hask (stl σ) i l = true := by
      by_cases c : 0 ≤ stl σ 8 0 i
      · have h2 := D2 i (by omega) c
        have hb : stl σ 8 0 i < nl σ := (DB i).2
        refine D4 i (by omega) (stl σ 8 0 i).toNat l (by omega) (by omega) h2 ?_
        rw [Int.toNat_of_nonneg c, ← fx_wr e]
        exact hw
      · have hc := hid i hi
        have hf : fav (stl σ) i (nl (stl σ)) < 0 := by
          refine Decidable.byContradiction fun q => ?_
          have : cnd (stl σ) i = true := by
            unfold cnd
            exact decide_eq_true ⟨hs, by omega, by omega⟩
          rw [this] at hc
          cases hc
        exact (fav_p (stl σ) i (nl (stl σ))).1 hf l hl
    have hne : stl σ 8 0 i ≠ l := fun q => by
      rw [q, wr_i] at hw
      cases hw
    have h3 := D3 i (by omega) l (by omega) asked hne
    rw [hcq, s22]
    refine ⟨h3.1, fun j hj ej => ?_⟩
    rw [fx_w e, fx_w e]
    exact h3.2 j (by omega) ej
  · rw [enh, s23]
    exact D0 i h
end Settled
