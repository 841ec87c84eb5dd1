/-! counting: rooms -/
section Rooms
variable {σ : ST}
theorem cnt_m {p q : Nat → Bool} {n : Nat} (h : ∀ i, i < n → p i = true → q i = true) : cnt p n ≤ cnt q n := by
  induction n with
  | zero => exact Int.le_refl _
  | succ n ih =>
    have h1 := ih fun i hi => h i (by omega)
    have h2 := h n (by omega)
    simp only [cnt]
    have : b2 (p n) ≤ b2 (q n) := by
      cases hp : p n with
      | false => have := b2_01 (q n); rw [b2_f]; omega
      | true => rw [h2 hp]; exact Int.le_refl _
    omega
theorem cnt_lt {p q : Nat → Bool} {n i : Nat} (h : ∀ i, i < n → p i = true → q i = true) (hi : i < n) (h1 : p i = false) (h2 : q i = true) : cnt p n + 1 ≤ cnt q n := by
  induction n with
  | zero => omega
  | succ n ih =>
    simp only [cnt]
    by_cases c : i = n
    · subst c
      have := cnt_m (n := i) fun j hj => h j (by omega)
      rw [h1, h2, b2_f, b2_t]
      omega
    · have h3 := ih (fun j hj => h j (by omega)) (by omega)
      have h4 := h n (by omega)
      have : b2 (p n) ≤ b2 (q n) := by
        cases hp : p n with
        | false => have := b2_01 (q n); rw [b2_f]; omega
        | true => rw [h4 hp]; exact Int.le_refl _
      omega
theorem cnt_e {p q : Nat → Bool} {n : Nat} (h : ∀ i, i < n → p i = q i) : cnt p n = cnt q n := by
  induction n with
  | zero => rfl
  | succ n ih =>
    simp only [cnt]
    rw [ih fun i hi => h i (by omega), h n (by omega)]
theorem cnt_x {p : Nat → Bool} {n m : Nat} (h : n ≤ m) (hp : ∀ i, n ≤ i → i < m → p i = false) : cnt p m = cnt p n := by
  induction m with
  | zero =>
    have : n = 0 := by omega
    rw [this]
  | succ m ih =>
    by_cases c : n = m + 1
    · rw [c]
    · simp only [cnt]
      rw [ih (by omega) fun i h1 h2 => hp i h1 (by omega), hp m (by omega) (by omega), b2_f, Int.add_zero]
theorem gst_b (σ : ST) (q l : Nat) : ∀ n i, (gst σ q l n).testBit i = decide (i < n ∧ σ q 0 i = l)
  | 0, i => by simp [gst]
  | n + 1, i => by
    simp only [gst]
    split
    · rw [Nat.testBit_or, gst_b σ q l n i, Nat.testBit_two_pow]
      by_cases c : n = i
      · subst c
        simp [*]
      · have e1 : (i < n + 1) = (i < n) := propext (by omega)
        simp [c, e1]
    · rw [gst_b σ q l n i]
      by_cases c : n = i
      · subst c
        simp [*]
      · have e1 : (i < n + 1) = (i < n) := propext (by omega)
        simp [e1]
/-- how many have the hall -/
def cq (σ : ST) (q l : Nat) : Int := cnt (fun i => decide (σ q 0 i = l)) (nh σ)
theorem pc_gs (I : Iv σ) (q l : Nat) : pc (gs σ q l) = cq σ q l := by
  have hn := nh_e I
  have hz := iv_z I
  unfold pc gs cq
  rw [cnt_x (n := nh σ) (m := 6) (by omega) fun i h1 h2 => by rw [gst_b]; simp; omega]
  refine cnt_e fun i hi => ?_
  rw [gst_b]
  simp [hi]
theorem cnt_1 {p q : Nat → Bool} {n i : Nat} (h : ∀ j, j < n → j ≠ i → p j = true → q j = true) : cnt p n ≤ cnt q n + 1 := by
  induction n with
  | zero => exact Int.le_of_lt (Int.lt_succ 0)
  | succ n ih =>
    simp only [cnt]
    by_cases c : n = i
    · have h1 := cnt_m (p := p) (q := q) (n := n) fun j hj => h j (by omega) (by omega)
      have h2 := b2_01 (p n)
      have h3 := b2_01 (q n)
      omega
    · have h1 := ih fun j hj => h j (by omega)
      have h2 := h n (by omega) c
      have : b2 (p n) ≤ b2 (q n) := by
        cases hp : p n with
        | false => have := b2_01 (q n); rw [b2_f]; omega
        | true => rw [h2 hp]; exact Int.le_refl _
      omega
theorem wir_cq (I : Iv σ) (q : Nat) : wir σ q = true ↔ ∀ l : Nat, l < nl σ → cq σ q l ≤ σ 22 l 1 := by
  unfold wir
  rw [allb_i]
  refine ⟨fun H l hl => ?_, fun H l hl => ?_⟩
  · have := H l hl
    rw [decide_eq_true_eq, pc_gs I] at this
    exact this
  · rw [decide_eq_true_eq, pc_gs I]
    exact H l hl
theorem cq_s3 (σ : ST) (i l : Nat) (z : Int) : cq (s3 σ 9 0 i z) 9 l = cnt (fun j => decide ((if j = i then z else σ 9 0 j) = l)) (nh σ) := by
  unfold cq
  show cnt (fun j => decide (s3 σ 9 0 i z 9 0 j = l)) (nh σ) = _
  exact cnt_e fun j _ => by rw [s3_8]
/-- a household loses its hall -/
theorem wir_m (I : Iv σ) {i : Nat} (hi : (i : Int) < σ 13 0 0) (W : wir σ 9 = true) : wir (s3 σ 9 0 i (-1)) 9 = true := by
  have r := iv_z I
  refine (wir_cq (iv_s9 I hi (by omega) (by omega)) 9).mpr fun l hl => ?_
  have h1 := (wir_cq I 9).mp W l hl
  have h2 : cq (s3 σ 9 0 i (-1)) 9 l ≤ cq σ 9 l := by
    rw [cq_s3]
    refine cnt_m fun j _ hp => ?_
    rw [decide_eq_true_eq] at hp ⊢
    split at hp
    · omega
    · exact hp
  exact Int.le_trans h2 h1
/-- one comes in where there is room -/
theorem wir_p (I : Iv σ) {i : Nat} {z : Int} (hi : (i : Int) < σ 13 0 0) (h0 : 0 ≤ z) (h1 : z < σ 12 0 0) (W : wir σ 9 = true) (c : hro σ 9 z.toNat = true) : wir (s3 σ 9 0 i z) 9 = true := by
  have r := iv_z I
  refine (wir_cq (iv_s9 I hi (by omega) h1) 9).mpr fun l hl => ?_
  have h3 := (wir_cq I 9).mp W l hl
  show cq (s3 σ 9 0 i z) 9 l ≤ σ 22 l 1
  rw [cq_s3]
  by_cases cl : z = l
  · unfold hro at c
    rw [decide_eq_true_eq, pc_gs I, show z.toNat = l by omega] at c
    have h2 : cnt (fun j => decide ((if j = i then z else σ 9 0 j) = l)) (nh σ) ≤ cq σ 9 l + 1 := cnt_1 (i := i) fun j _ n hp => by
      rw [decide_eq_true_eq, if_neg n] at hp
      rw [decide_eq_true_eq]
      exact hp
    omega
  · have h2 : cnt (fun j => decide ((if j = i then z else σ 9 0 j) = l)) (nh σ) ≤ cq σ 9 l := cnt_m fun j _ hp => by
      rw [decide_eq_true_eq] at hp ⊢
      split at hp
      · exact absurd hp cl
      · exact hp
    exact Int.le_trans h2 h3
/-- nobody has a hall -/
theorem wir_0 (I : Iv σ) (H : ∀ j, σ 9 0 j = -1) : wir σ 9 = true := by
  refine (wir_cq I 9).mpr fun l hl => ?_
  have hn := nl_e I
  have r := iv_ha I (i := l) (by omega)
  have h2 : cq σ 9 l = cnt (fun j => decide (σ 9 0 j = l)) 0 := cnt_x (Nat.zero_le _) fun j _ _ => by
    rw [decide_eq_false_iff_not, H]
    omega
  rw [h2]
  exact r.2.2.1
/-- nobody has one from i on -/
def emp (σ : ST) (i : Nat) : Prop := ∀ j : Nat, i ≤ j → σ 9 0 j = -1
theorem emp_p {i : Nat} {z : Int} (H : emp σ i) : emp (s3 σ 9 0 i z) (i + 1) := fun j hj => by
  rw [s3_8, if_neg (by omega)]
  exact H j (by omega)
theorem emp_m {i : Nat} (H : emp σ (i + 1)) : emp (s3 σ 9 0 i (-1)) i := fun j hj => by
  rw [s3_8]
  split
  · rfl
  · exact H j (by omega)
end Rooms
/-! THE CLASS: no placing is better; lots -/
section BeatenL
variable {em mi ic : Nat} {σ : ST} {A : AD} {F : AH}
/-- some trial is better -/
def nf (τ : ST) : Prop := ∀ j : Nat, τ 23 j 3 ≠ 1 → τ 9 0 j < 0
theorem nf_put {ρ : ST} {i : Nat} {z : Int} (H : nf ρ) (h1 : ρ 23 i 3 = 1) : nf (s3 ρ 9 0 i z) := fun j hj => by
  rw [s3_8]
  have h2 : ρ 23 j 3 ≠ 1 := hj
  split
  · rename_i q
    rw [q] at h2
    exact absurd h1 h2
  · exact H j h2
def bett (σ : ST) : Prop := ∃ ρ, pub ρ = pub σ ∧ Iv ρ ∧ nf ρ ∧ bet ρ = true ∧ wir ρ 9 = true ∧ con ρ 9 = false
theorem isBeaten_ok : ∀ (k d i : Nat) (τ : ST) (h : AH) (Q : RS → AH → Prop), 8 + k ≤ d → i + k = nh σ → pub τ = pub σ → Rp τ A em F h → Iv τ → nf τ → emp τ i → wir τ 9 = true →
    (∀ τ h' b, pub τ = pub σ → Iv τ → nf τ → Rp τ A em F h' → (b = true → bett σ) → (b = false → emp τ i ∧ wir τ 9 = true) → Q (.inl (some (.int (Int32.ofInt (b2 b))))) h') → cal (DD em mi ic) d 127 [.ref (A 3 0), .ref (A 4 0), .int (Int32.ofInt i)] h Q
  | 0, d, i, τ, h, Q, hd, hi, e, R, I, Z, E, W, hQ => by
    have r3 := iv_z I
    have hn := nh_e I
    have hn2 := pub_nh e
    obtain ⟨d, rfl, hd⟩ := dep hd; refine cal_go (Nat.le_of_ble_eq_true rfl) fun X hX => ?_
    repeat' (first | (exfalso; omega) | ((with_reducible show cal _ _ _ _ _ _); first | (refine size_okZ (by omega) (rp_13 R) ?_) | (refine isBetter_ok (by omega) R I ?_) | (refine isContested_ok (P := 4) (by omega) R I (by omega) ?_) ) | (simp (disch := omega) only [↓f_iload_n_2, ↓f_if, ↓f_aload_n_1_r, ↓f_aload_n_1_n, ↓f_aload_n_1_v, ↓f_getf, kG_0, kG_o, ↓f_invv_0, ↓f_icmp, ↓f_nop, ↓f_aload_n_0_r, ↓f_aload_n_0_n, ↓f_aload_n_0_v, ↓f_invv_1, ↓e_iconst, ↓f_goto, ↓f_iret, ↓f_cast_r, ↓f_cast_n, ↓f_cast_v, ↓f_astore_n_3_r, ↓f_astore_n_3_n, ↓f_astore_n_3_v, ↓f_aload_n_3_r, ↓f_aload_n_3_n, ↓f_aload_n_3_v, kG_4, ↓f_iadd, ↓f_invs_3, ↓f_istore_4, ↓f_iload_4, kG_1, ↓e_null, ↓f_astore_5_r, ↓f_astore_5_n, ↓f_astore_5_v, ↓f_aload_5_r, ↓f_aload_5_n, ↓f_aload_5_v, ↓f_ifnull_r, ↓f_ifnull_n, ↓f_ifnull_v, ↓f_invv_2, ↓f_iinc_4, wide_n, wide_i, wide_r, wide_u, wide_l, wide_v, mk_0, mk_1, mk_n, ax_0, ax_1, ax_2, ax_3, rf_s, rf_n, isK_, isK_o, castS_r, storS_r, go_, qc_l, qc_r, toL_s, toL_n, hlist_0, hlist_1, catsum_0, catsum_i, catsum_r, catsum_n, catsum_l, catsum_v, argL_n, fillL_0, fillL_s, argL_0, argL_i, argL_r, argL_u, argL_v, hup_s, ret_i, ret_1, ret_0, rt_o, rt_a, nr_i, nr_o, nr_a, nr_z1, nr_z0, ft_i, ft_o, ft_on, ft_ov, ft_a, ft_an, ft_z1, ft_z0, cI_eq, cI_ne, cI_lt, cI_ge, cI_gt, cI_le, forall_const, and_true, true_and, not_true_eq_false, not_false_eq_true, List.nil_append, Nat.reduceAdd, Nat.reduceSub, Nat.reduceLeDiff, Nat.reduceLT, Nat.reduceEqDiff, List.length_cons, List.length_nil, List.set_cons_zero, List.set_cons_succ, reduceIte, true_implies, false_implies, imp_self, true_or, or_true, Nat.le_refl, eq_self, sg127_0, g127_0, lv127_0, sg127_1, g127_1, lv127_1, sg127_2, g127_2, lv127_2, sg127_3, g127_3, lv127_3, sg127_4, g127_4, lv127_4, sg127_5, g127_5, lv127_5, sg127_6, g127_6, lv127_6, sg127_7, g127_7, lv127_7, sg127_8, g127_8, lv127_8, sg127_9, g127_9, lv127_9, sg127_10, g127_10, lv127_10, sg127_11, g127_11, lv127_11, sg127_12, g127_12, lv127_12, rt_127, ml_127, bc_127, bs_127, bc_68, bs_68, bc_191, bs_191, bc_118, bs_118, bc_73, bs_73, bc_192, bs_192, bc_181, bs_181, bc_183, bs_183, i_add, i_sub, i_mul, i_neg, i_nat, i_zero, i_b8, i_s16, i_tnc, i_lt, i_le, i_eq, i_in, Int.reduceNeg, Int.toNat_natCast, Int.reduceLT, Int.reduceLE, Int.reduceAdd, Int.reduceSub, Int.reduceMul, Int.reduceToNat, Int.reduceEq, Int.cast_ofNat_Int, Classical.not_not, reduceCtorEq, ca_, Option.some.injEq, forall_eq', i_shr, i_shl, i_div, ft_zb, nr_zb, ret_b, rp_0 R, rp_1 R, rp_2 R, rp_3 R, rp_4 R, rp_5 R, rp_6 R, rp_7 R, rp_8 R, rp_9 R, rp_10 R, rp_11 R, rp_12 R, rp_13 R, rp_14 R, rp_15 R, rp_21 R, rp_22 R, rp_23 R, rp_24 R, rp_25 R, i_b0]) | (exact hQ τ h false e I Z R (fun q => nomatch q) (fun _ => ⟨E, W⟩)) | (refine hQ τ h true e I Z R (fun _ => ⟨τ, e, I, Z, ?_, W, ?_⟩) (fun q => nomatch q)) | (refine ⟨by omega, ?_⟩) | (refine ⟨fun _ => ?_, fun _ => ?_⟩) | (intro _) | (refine hX _ _ _ _ _ _ ?_))
    all_goals simp_all
  | k + 1, d, i, τ, h, Q, hd, hi, e, R, I, Z, E, W, hQ => by
    have r3 := iv_z I
    have hn := nh_e I
    have hn2 := pub_nh e
    have hl := nl_e I
    have r1 := iv_hh I (i := i) (by omega)
    obtain ⟨d, rfl, hd⟩ := dep hd; refine cal_go (Nat.le_of_ble_eq_true rfl) fun X hX => ?_
    simp (disch := omega) only [↓f_iload_n_2, ↓f_if, ↓f_aload_n_1_r, ↓f_aload_n_1_n, ↓f_aload_n_1_v, ↓f_getf, kG_0, kG_o, ↓f_invv_0, ↓f_icmp, ↓f_nop, ↓f_aload_n_0_r, ↓f_aload_n_0_n, ↓f_aload_n_0_v, ↓f_invv_1, ↓e_iconst, ↓f_goto, ↓f_iret, ↓f_cast_r, ↓f_cast_n, ↓f_cast_v, ↓f_astore_n_3_r, ↓f_astore_n_3_n, ↓f_astore_n_3_v, ↓f_aload_n_3_r, ↓f_aload_n_3_n, ↓f_aload_n_3_v, kG_4, ↓f_iadd, ↓f_invs_3, ↓f_istore_4, ↓f_iload_4, kG_1, ↓e_null, ↓f_astore_5_r, ↓f_astore_5_n, ↓f_astore_5_v, ↓f_aload_5_r, ↓f_aload_5_n, ↓f_aload_5_v, ↓f_ifnull_r, ↓f_ifnull_n, ↓f_ifnull_v, ↓f_invv_2, ↓f_iinc_4, wide_n, wide_i, wide_r, wide_u, wide_l, wide_v, mk_0, mk_1, mk_n, ax_0, ax_1, ax_2, ax_3, rf_s, rf_n, isK_, isK_o, castS_r, storS_r, go_, qc_l, qc_r, toL_s, toL_n, hlist_0, hlist_1, catsum_0, catsum_i, catsum_r, catsum_n, catsum_l, catsum_v, argL_n, fillL_0, fillL_s, argL_0, argL_i, argL_r, argL_u, argL_v, hup_s, ret_i, ret_1, ret_0, rt_o, rt_a, nr_i, nr_o, nr_a, nr_z1, nr_z0, ft_i, ft_o, ft_on, ft_ov, ft_a, ft_an, ft_z1, ft_z0, cI_eq, cI_ne, cI_lt, cI_ge, cI_gt, cI_le, forall_const, and_true, true_and, not_true_eq_false, not_false_eq_true, List.nil_append, Nat.reduceAdd, Nat.reduceSub, Nat.reduceLeDiff, Nat.reduceLT, Nat.reduceEqDiff, List.length_cons, List.length_nil, List.set_cons_zero, List.set_cons_succ, reduceIte, true_implies, false_implies, imp_self, true_or, or_true, Nat.le_refl, eq_self, sg127_0, g127_0, lv127_0, sg127_1, g127_1, lv127_1, sg127_2, g127_2, lv127_2, sg127_3, g127_3, lv127_3, sg127_4, g127_4, lv127_4, sg127_5, g127_5, lv127_5, sg127_6, g127_6, lv127_6, sg127_7, g127_7, lv127_7, sg127_8, g127_8, lv127_8, sg127_9, g127_9, lv127_9, sg127_10, g127_10, lv127_10, sg127_11, g127_11, lv127_11, sg127_12, g127_12, lv127_12, rt_127, ml_127, bc_127, bs_127, bc_68, bs_68, bc_191, bs_191, bc_118, bs_118, bc_73, bs_73, bc_192, bs_192, bc_181, bs_181, bc_183, bs_183, i_add, i_sub, i_mul, i_neg, i_nat, i_zero, i_b8, i_s16, i_tnc, i_lt, i_le, i_eq, i_in, Int.reduceNeg, Int.toNat_natCast, Int.reduceLT, Int.reduceLE, Int.reduceAdd, Int.reduceSub, Int.reduceMul, Int.reduceToNat, Int.reduceEq, Int.cast_ofNat_Int, Classical.not_not, reduceCtorEq, ca_, Option.some.injEq, forall_eq', i_shr, i_shl, i_div, ft_zb, nr_zb, ret_b, rp_0 R, rp_1 R, rp_2 R, rp_3 R, rp_4 R, rp_5 R, rp_6 R, rp_7 R, rp_8 R, rp_9 R, rp_10 R, rp_11 R, rp_12 R, rp_13 R, rp_14 R, rp_15 R, rp_21 R, rp_22 R, rp_23 R, rp_24 R, rp_25 R]
    refine ⟨by omega, fun _ => ?_⟩
    refine size_okZ (by omega) (rp_13 R) ?_
    simp (disch := omega) only [↓f_iload_n_2, ↓f_if, ↓f_aload_n_1_r, ↓f_aload_n_1_n, ↓f_aload_n_1_v, ↓f_getf, kG_0, kG_o, ↓f_invv_0, ↓f_icmp, ↓f_nop, ↓f_aload_n_0_r, ↓f_aload_n_0_n, ↓f_aload_n_0_v, ↓f_invv_1, ↓e_iconst, ↓f_goto, ↓f_iret, ↓f_cast_r, ↓f_cast_n, ↓f_cast_v, ↓f_astore_n_3_r, ↓f_astore_n_3_n, ↓f_astore_n_3_v, ↓f_aload_n_3_r, ↓f_aload_n_3_n, ↓f_aload_n_3_v, kG_4, ↓f_iadd, ↓f_invs_3, ↓f_istore_4, ↓f_iload_4, kG_1, ↓e_null, ↓f_astore_5_r, ↓f_astore_5_n, ↓f_astore_5_v, ↓f_aload_5_r, ↓f_aload_5_n, ↓f_aload_5_v, ↓f_ifnull_r, ↓f_ifnull_n, ↓f_ifnull_v, ↓f_invv_2, ↓f_iinc_4, wide_n, wide_i, wide_r, wide_u, wide_l, wide_v, mk_0, mk_1, mk_n, ax_0, ax_1, ax_2, ax_3, rf_s, rf_n, isK_, isK_o, castS_r, storS_r, go_, qc_l, qc_r, toL_s, toL_n, hlist_0, hlist_1, catsum_0, catsum_i, catsum_r, catsum_n, catsum_l, catsum_v, argL_n, fillL_0, fillL_s, argL_0, argL_i, argL_r, argL_u, argL_v, hup_s, ret_i, ret_1, ret_0, rt_o, rt_a, nr_i, nr_o, nr_a, nr_z1, nr_z0, ft_i, ft_o, ft_on, ft_ov, ft_a, ft_an, ft_z1, ft_z0, cI_eq, cI_ne, cI_lt, cI_ge, cI_gt, cI_le, forall_const, and_true, true_and, not_true_eq_false, not_false_eq_true, List.nil_append, Nat.reduceAdd, Nat.reduceSub, Nat.reduceLeDiff, Nat.reduceLT, Nat.reduceEqDiff, List.length_cons, List.length_nil, List.set_cons_zero, List.set_cons_succ, reduceIte, true_implies, false_implies, imp_self, true_or, or_true, Nat.le_refl, eq_self, sg127_0, g127_0, lv127_0, sg127_1, g127_1, lv127_1, sg127_2, g127_2, lv127_2, sg127_3, g127_3, lv127_3, sg127_4, g127_4, lv127_4, sg127_5, g127_5, lv127_5, sg127_6, g127_6, lv127_6, sg127_7, g127_7, lv127_7, sg127_8, g127_8, lv127_8, sg127_9, g127_9, lv127_9, sg127_10, g127_10, lv127_10, sg127_11, g127_11, lv127_11, sg127_12, g127_12, lv127_12, rt_127, ml_127, bc_127, bs_127, bc_68, bs_68, bc_191, bs_191, bc_118, bs_118, bc_73, bs_73, bc_192, bs_192, bc_181, bs_181, bc_183, bs_183, i_add, i_sub, i_mul, i_neg, i_nat, i_zero, i_b8, i_s16, i_tnc, i_lt, i_le, i_eq, i_in, Int.reduceNeg, Int.toNat_natCast, Int.reduceLT, Int.reduceLE, Int.reduceAdd, Int.reduceSub, Int.reduceMul, Int.reduceToNat, Int.reduceEq, Int.cast_ofNat_Int, Classical.not_not, reduceCtorEq, ca_, Option.some.injEq, forall_eq', i_shr, i_shl, i_div, ft_zb, nr_zb, ret_b, rp_0 R, rp_1 R, rp_2 R, rp_3 R, rp_4 R, rp_5 R, rp_6 R, rp_7 R, rp_8 R, rp_9 R, rp_10 R, rp_11 R, rp_12 R, rp_13 R, rp_14 R, rp_15 R, rp_21 R, rp_22 R, rp_23 R, rp_24 R, rp_25 R]
    refine ⟨fun _ => ?_, by omega⟩
    refine hX _ _ _ _ _ _ ?_
    simp (disch := omega) only [↓f_iload_n_2, ↓f_if, ↓f_aload_n_1_r, ↓f_aload_n_1_n, ↓f_aload_n_1_v, ↓f_getf, kG_0, kG_o, ↓f_invv_0, ↓f_icmp, ↓f_nop, ↓f_aload_n_0_r, ↓f_aload_n_0_n, ↓f_aload_n_0_v, ↓f_invv_1, ↓e_iconst, ↓f_goto, ↓f_iret, ↓f_cast_r, ↓f_cast_n, ↓f_cast_v, ↓f_astore_n_3_r, ↓f_astore_n_3_n, ↓f_astore_n_3_v, ↓f_aload_n_3_r, ↓f_aload_n_3_n, ↓f_aload_n_3_v, kG_4, ↓f_iadd, ↓f_invs_3, ↓f_istore_4, ↓f_iload_4, kG_1, ↓e_null, ↓f_astore_5_r, ↓f_astore_5_n, ↓f_astore_5_v, ↓f_aload_5_r, ↓f_aload_5_n, ↓f_aload_5_v, ↓f_ifnull_r, ↓f_ifnull_n, ↓f_ifnull_v, ↓f_invv_2, ↓f_iinc_4, wide_n, wide_i, wide_r, wide_u, wide_l, wide_v, mk_0, mk_1, mk_n, ax_0, ax_1, ax_2, ax_3, rf_s, rf_n, isK_, isK_o, castS_r, storS_r, go_, qc_l, qc_r, toL_s, toL_n, hlist_0, hlist_1, catsum_0, catsum_i, catsum_r, catsum_n, catsum_l, catsum_v, argL_n, fillL_0, fillL_s, argL_0, argL_i, argL_r, argL_u, argL_v, hup_s, ret_i, ret_1, ret_0, rt_o, rt_a, nr_i, nr_o, nr_a, nr_z1, nr_z0, ft_i, ft_o, ft_on, ft_ov, ft_a, ft_an, ft_z1, ft_z0, cI_eq, cI_ne, cI_lt, cI_ge, cI_gt, cI_le, forall_const, and_true, true_and, not_true_eq_false, not_false_eq_true, List.nil_append, Nat.reduceAdd, Nat.reduceSub, Nat.reduceLeDiff, Nat.reduceLT, Nat.reduceEqDiff, List.length_cons, List.length_nil, List.set_cons_zero, List.set_cons_succ, reduceIte, true_implies, false_implies, imp_self, true_or, or_true, Nat.le_refl, eq_self, sg127_0, g127_0, lv127_0, sg127_1, g127_1, lv127_1, sg127_2, g127_2, lv127_2, sg127_3, g127_3, lv127_3, sg127_4, g127_4, lv127_4, sg127_5, g127_5, lv127_5, sg127_6, g127_6, lv127_6, sg127_7, g127_7, lv127_7, sg127_8, g127_8, lv127_8, sg127_9, g127_9, lv127_9, sg127_10, g127_10, lv127_10, sg127_11, g127_11, lv127_11, sg127_12, g127_12, lv127_12, rt_127, ml_127, bc_127, bs_127, bc_68, bs_68, bc_191, bs_191, bc_118, bs_118, bc_73, bs_73, bc_192, bs_192, bc_181, bs_181, bc_183, bs_183, i_add, i_sub, i_mul, i_neg, i_nat, i_zero, i_b8, i_s16, i_tnc, i_lt, i_le, i_eq, i_in, Int.reduceNeg, Int.toNat_natCast, Int.reduceLT, Int.reduceLE, Int.reduceAdd, Int.reduceSub, Int.reduceMul, Int.reduceToNat, Int.reduceEq, Int.cast_ofNat_Int, Classical.not_not, reduceCtorEq, ca_, Option.some.injEq, forall_eq', i_shr, i_shl, i_div, ft_zb, nr_zb, ret_b, rp_0 R, rp_1 R, rp_2 R, rp_3 R, rp_4 R, rp_5 R, rp_6 R, rp_7 R, rp_8 R, rp_9 R, rp_10 R, rp_11 R, rp_12 R, rp_13 R, rp_14 R, rp_15 R, rp_21 R, rp_22 R, rp_23 R, rp_24 R, rp_25 R]
    refine getR13 (i := i) (by omega) R (by omega) (by omega) ?_
    simp (disch := omega) only [↓f_iload_n_2, ↓f_if, ↓f_aload_n_1_r, ↓f_aload_n_1_n, ↓f_aload_n_1_v, ↓f_getf, kG_0, kG_o, ↓f_invv_0, ↓f_icmp, ↓f_nop, ↓f_aload_n_0_r, ↓f_aload_n_0_n, ↓f_aload_n_0_v, ↓f_invv_1, ↓e_iconst, ↓f_goto, ↓f_iret, ↓f_cast_r, ↓f_cast_n, ↓f_cast_v, ↓f_astore_n_3_r, ↓f_astore_n_3_n, ↓f_astore_n_3_v, ↓f_aload_n_3_r, ↓f_aload_n_3_n, ↓f_aload_n_3_v, kG_4, ↓f_iadd, ↓f_invs_3, ↓f_istore_4, ↓f_iload_4, kG_1, ↓e_null, ↓f_astore_5_r, ↓f_astore_5_n, ↓f_astore_5_v, ↓f_aload_5_r, ↓f_aload_5_n, ↓f_aload_5_v, ↓f_ifnull_r, ↓f_ifnull_n, ↓f_ifnull_v, ↓f_invv_2, ↓f_iinc_4, wide_n, wide_i, wide_r, wide_u, wide_l, wide_v, mk_0, mk_1, mk_n, ax_0, ax_1, ax_2, ax_3, rf_s, rf_n, isK_, isK_o, castS_r, storS_r, go_, qc_l, qc_r, toL_s, toL_n, hlist_0, hlist_1, catsum_0, catsum_i, catsum_r, catsum_n, catsum_l, catsum_v, argL_n, fillL_0, fillL_s, argL_0, argL_i, argL_r, argL_u, argL_v, hup_s, ret_i, ret_1, ret_0, rt_o, rt_a, nr_i, nr_o, nr_a, nr_z1, nr_z0, ft_i, ft_o, ft_on, ft_ov, ft_a, ft_an, ft_z1, ft_z0, cI_eq, cI_ne, cI_lt, cI_ge, cI_gt, cI_le, forall_const, and_true, true_and, not_true_eq_false, not_false_eq_true, List.nil_append, Nat.reduceAdd, Nat.reduceSub, Nat.reduceLeDiff, Nat.reduceLT, Nat.reduceEqDiff, List.length_cons, List.length_nil, List.set_cons_zero, List.set_cons_succ, reduceIte, true_implies, false_implies, imp_self, true_or, or_true, Nat.le_refl, eq_self, sg127_0, g127_0, lv127_0, sg127_1, g127_1, lv127_1, sg127_2, g127_2, lv127_2, sg127_3, g127_3, lv127_3, sg127_4, g127_4, lv127_4, sg127_5, g127_5, lv127_5, sg127_6, g127_6, lv127_6, sg127_7, g127_7, lv127_7, sg127_8, g127_8, lv127_8, sg127_9, g127_9, lv127_9, sg127_10, g127_10, lv127_10, sg127_11, g127_11, lv127_11, sg127_12, g127_12, lv127_12, rt_127, ml_127, bc_127, bs_127, bc_68, bs_68, bc_191, bs_191, bc_118, bs_118, bc_73, bs_73, bc_192, bs_192, bc_181, bs_181, bc_183, bs_183, i_add, i_sub, i_mul, i_neg, i_nat, i_zero, i_b8, i_s16, i_tnc, i_lt, i_le, i_eq, i_in, Int.reduceNeg, Int.toNat_natCast, Int.reduceLT, Int.reduceLE, Int.reduceAdd, Int.reduceSub, Int.reduceMul, Int.reduceToNat, Int.reduceEq, Int.cast_ofNat_Int, Classical.not_not, reduceCtorEq, ca_, Option.some.injEq, forall_eq', i_shr, i_shl, i_div, ft_zb, nr_zb, ret_b, rp_0 R, rp_1 R, rp_2 R, rp_3 R, rp_4 R, rp_5 R, rp_6 R, rp_7 R, rp_8 R, rp_9 R, rp_10 R, rp_11 R, rp_12 R, rp_13 R, rp_14 R, rp_15 R, rp_21 R, rp_22 R, rp_23 R, rp_24 R, rp_25 R]
    refine ⟨fun c => ?_, fun c => ?_⟩
    · refine hX _ _ _ _ _ _ ?_
      simp (disch := omega) only [↓f_iload_n_2, ↓f_if, ↓f_aload_n_1_r, ↓f_aload_n_1_n, ↓f_aload_n_1_v, ↓f_getf, kG_0, kG_o, ↓f_invv_0, ↓f_icmp, ↓f_nop, ↓f_aload_n_0_r, ↓f_aload_n_0_n, ↓f_aload_n_0_v, ↓f_invv_1, ↓e_iconst, ↓f_goto, ↓f_iret, ↓f_cast_r, ↓f_cast_n, ↓f_cast_v, ↓f_astore_n_3_r, ↓f_astore_n_3_n, ↓f_astore_n_3_v, ↓f_aload_n_3_r, ↓f_aload_n_3_n, ↓f_aload_n_3_v, kG_4, ↓f_iadd, ↓f_invs_3, ↓f_istore_4, ↓f_iload_4, kG_1, ↓e_null, ↓f_astore_5_r, ↓f_astore_5_n, ↓f_astore_5_v, ↓f_aload_5_r, ↓f_aload_5_n, ↓f_aload_5_v, ↓f_ifnull_r, ↓f_ifnull_n, ↓f_ifnull_v, ↓f_invv_2, ↓f_iinc_4, wide_n, wide_i, wide_r, wide_u, wide_l, wide_v, mk_0, mk_1, mk_n, ax_0, ax_1, ax_2, ax_3, rf_s, rf_n, isK_, isK_o, castS_r, storS_r, go_, qc_l, qc_r, toL_s, toL_n, hlist_0, hlist_1, catsum_0, catsum_i, catsum_r, catsum_n, catsum_l, catsum_v, argL_n, fillL_0, fillL_s, argL_0, argL_i, argL_r, argL_u, argL_v, hup_s, ret_i, ret_1, ret_0, rt_o, rt_a, nr_i, nr_o, nr_a, nr_z1, nr_z0, ft_i, ft_o, ft_on, ft_ov, ft_a, ft_an, ft_z1, ft_z0, cI_eq, cI_ne, cI_lt, cI_ge, cI_gt, cI_le, forall_const, and_true, true_and, not_true_eq_false, not_false_eq_true, List.nil_append, Nat.reduceAdd, Nat.reduceSub, Nat.reduceLeDiff, Nat.reduceLT, Nat.reduceEqDiff, List.length_cons, List.length_nil, List.set_cons_zero, List.set_cons_succ, reduceIte, true_implies, false_implies, imp_self, true_or, or_true, Nat.le_refl, eq_self, sg127_0, g127_0, lv127_0, sg127_1, g127_1, lv127_1, sg127_2, g127_2, lv127_2, sg127_3, g127_3, lv127_3, sg127_4, g127_4, lv127_4, sg127_5, g127_5, lv127_5, sg127_6, g127_6, lv127_6, sg127_7, g127_7, lv127_7, sg127_8, g127_8, lv127_8, sg127_9, g127_9, lv127_9, sg127_10, g127_10, lv127_10, sg127_11, g127_11, lv127_11, sg127_12, g127_12, lv127_12, rt_127, ml_127, bc_127, bs_127, bc_68, bs_68, bc_191, bs_191, bc_118, bs_118, bc_73, bs_73, bc_192, bs_192, bc_181, bs_181, bc_183, bs_183, i_add, i_sub, i_mul, i_neg, i_nat, i_zero, i_b8, i_s16, i_tnc, i_lt, i_le, i_eq, i_in, Int.reduceNeg, Int.toNat_natCast, Int.reduceLT, Int.reduceLE, Int.reduceAdd, Int.reduceSub, Int.reduceMul, Int.reduceToNat, Int.reduceEq, Int.cast_ofNat_Int, Classical.not_not, reduceCtorEq, ca_, Option.some.injEq, forall_eq', i_shr, i_shl, i_div, ft_zb, nr_zb, ret_b, rp_0 R, rp_1 R, rp_2 R, rp_3 R, rp_4 R, rp_5 R, rp_6 R, rp_7 R, rp_8 R, rp_9 R, rp_10 R, rp_11 R, rp_12 R, rp_13 R, rp_14 R, rp_15 R, rp_21 R, rp_22 R, rp_23 R, rp_24 R, rp_25 R]
      have s12 : ∀ ρ, pub ρ = pub σ → ρ 12 0 0 = τ 12 0 0 ∧ ρ 13 0 0 = τ 13 0 0 := fun ρ q => ⟨(pub_i q (by omega) (by omega)).trans (pub_i e (by omega) (by omega)).symm, (pub_i q (by omega) (by omega)).trans (pub_i e (by omega) (by omega)).symm⟩
      refine loopN (P := fun j => ∀ (w : Int) (ρ : ST) (h' : AH), w = (j : Int) - 1 → pub ρ = pub σ → Iv ρ → nf ρ → emp ρ i → wir ρ 9 = true → Rp ρ A em F h' → X 6 [some (.ref (A 3 0)), some (.ref (A 4 0)), some (.int (Int32.ofInt i)), some (.ref (A 23 i)), some (.int (Int32.ofInt w)), none] [] h' 0 0) (nl τ + 1) ?_ ?_ _ _ _ rfl e I Z E W R
      · rintro w ρ h2 rfl e2 I2 Z2 E2 W2 R2
        have s := s12 ρ e2
        refine hX _ _ _ _ _ _ ?_
        repeat' (first | (exfalso; omega) | ((with_reducible show cal _ _ _ _ _ _); first | (refine size_okZ (by omega) (rp_12 R2) ?_) ) | (simp (disch := omega) only [↓f_iload_n_2, ↓f_if, ↓f_aload_n_1_r, ↓f_aload_n_1_n, ↓f_aload_n_1_v, ↓f_getf, kG_0, kG_o, ↓f_invv_0, ↓f_icmp, ↓f_nop, ↓f_aload_n_0_r, ↓f_aload_n_0_n, ↓f_aload_n_0_v, ↓f_invv_1, ↓e_iconst, ↓f_goto, ↓f_iret, ↓f_cast_r, ↓f_cast_n, ↓f_cast_v, ↓f_astore_n_3_r, ↓f_astore_n_3_n, ↓f_astore_n_3_v, ↓f_aload_n_3_r, ↓f_aload_n_3_n, ↓f_aload_n_3_v, kG_4, ↓f_iadd, ↓f_invs_3, ↓f_istore_4, ↓f_iload_4, kG_1, ↓e_null, ↓f_astore_5_r, ↓f_astore_5_n, ↓f_astore_5_v, ↓f_aload_5_r, ↓f_aload_5_n, ↓f_aload_5_v, ↓f_ifnull_r, ↓f_ifnull_n, ↓f_ifnull_v, ↓f_invv_2, ↓f_iinc_4, wide_n, wide_i, wide_r, wide_u, wide_l, wide_v, mk_0, mk_1, mk_n, ax_0, ax_1, ax_2, ax_3, rf_s, rf_n, isK_, isK_o, castS_r, storS_r, go_, qc_l, qc_r, toL_s, toL_n, hlist_0, hlist_1, catsum_0, catsum_i, catsum_r, catsum_n, catsum_l, catsum_v, argL_n, fillL_0, fillL_s, argL_0, argL_i, argL_r, argL_u, argL_v, hup_s, ret_i, ret_1, ret_0, rt_o, rt_a, nr_i, nr_o, nr_a, nr_z1, nr_z0, ft_i, ft_o, ft_on, ft_ov, ft_a, ft_an, ft_z1, ft_z0, cI_eq, cI_ne, cI_lt, cI_ge, cI_gt, cI_le, forall_const, and_true, true_and, not_true_eq_false, not_false_eq_true, List.nil_append, Nat.reduceAdd, Nat.reduceSub, Nat.reduceLeDiff, Nat.reduceLT, Nat.reduceEqDiff, List.length_cons, List.length_nil, List.set_cons_zero, List.set_cons_succ, reduceIte, true_implies, false_implies, imp_self, true_or, or_true, Nat.le_refl, eq_self, sg127_0, g127_0, lv127_0, sg127_1, g127_1, lv127_1, sg127_2, g127_2, lv127_2, sg127_3, g127_3, lv127_3, sg127_4, g127_4, lv127_4, sg127_5, g127_5, lv127_5, sg127_6, g127_6, lv127_6, sg127_7, g127_7, lv127_7, sg127_8, g127_8, lv127_8, sg127_9, g127_9, lv127_9, sg127_10, g127_10, lv127_10, sg127_11, g127_11, lv127_11, sg127_12, g127_12, lv127_12, rt_127, ml_127, bc_127, bs_127, bc_68, bs_68, bc_191, bs_191, bc_118, bs_118, bc_73, bs_73, bc_192, bs_192, bc_181, bs_181, bc_183, bs_183, i_add, i_sub, i_mul, i_neg, i_nat, i_zero, i_b8, i_s16, i_tnc, i_lt, i_le, i_eq, i_in, Int.reduceNeg, Int.toNat_natCast, Int.reduceLT, Int.reduceLE, Int.reduceAdd, Int.reduceSub, Int.reduceMul, Int.reduceToNat, Int.reduceEq, Int.cast_ofNat_Int, Classical.not_not, reduceCtorEq, ca_, Option.some.injEq, forall_eq', i_shr, i_shl, i_div, ft_zb, nr_zb, ret_b, rp_0 R2, rp_1 R2, rp_2 R2, rp_3 R2, rp_4 R2, rp_5 R2, rp_6 R2, rp_7 R2, rp_8 R2, rp_9 R2, rp_10 R2, rp_11 R2, rp_12 R2, rp_13 R2, rp_14 R2, rp_15 R2, rp_21 R2, rp_22 R2, rp_23 R2, rp_24 R2, rp_25 R2]) | (exact hQ _ _ false e2 I2 Z2 R2 (fun q => nomatch q) (fun _ => ⟨E2, W2⟩)) | (refine ⟨by omega, ?_⟩) | (refine ⟨fun _ => ?_, fun _ => ?_⟩) | (intro _) | (refine hX _ _ _ _ _ _ ?_))
      · rintro j hj ih w ρ h2 rfl e2 I2 Z2 E2 W2 R2
        have t1 : ∀ ρ, pub ρ = pub σ → ρ 23 i 3 = 1 := fun ρ e2 => (pub_i e2 (by omega) (by omega)).trans ((pub_i e (by omega) (by omega)).symm.trans c)
        have Z3 := nf_put (z := (j : Int) - 1) Z2 (t1 ρ e2)
        have s := s12 ρ e2
        have I3 := iv_s9 (f := i) (z := (j : Int) - 1) I2 (by omega) (by omega) (by omega)
        have e3 : pub (s3 ρ 9 0 i ((j : Int) - 1)) = pub σ := by rw [pub_9]; exact e2
        have T10 : ∀ ρ h2, pub ρ = pub σ → Iv ρ → nf ρ → emp ρ (i + 1) → wir ρ 9 = true → Rp ρ A em F h2 → X 10 [some (.ref (A 3 0)), some (.ref (A 4 0)), some (.int (Int32.ofInt i)), some (.ref (A 23 i)), some (.int (Int32.ofInt ((j : Int) - 1))), none] [] h2 0 0 := by
          intro ρ h2 e2 I2 Z2 E2 W2 R2
          have s := s12 ρ e2
          have t := t1 ρ e2
          refine hX _ _ _ _ _ _ ?_
          repeat' (first | (exfalso; omega) | ((with_reducible show cal _ _ _ _ _ _); first | (refine put_ok (P := 4) (z := -1) (by omega) R2 I2 (by omega) (by omega) (by omega) rfl fun h4 R4 => ?_) ) | (simp (disch := omega) only [↓f_iload_n_2, ↓f_if, ↓f_aload_n_1_r, ↓f_aload_n_1_n, ↓f_aload_n_1_v, ↓f_getf, kG_0, kG_o, ↓f_invv_0, ↓f_icmp, ↓f_nop, ↓f_aload_n_0_r, ↓f_aload_n_0_n, ↓f_aload_n_0_v, ↓f_invv_1, ↓e_iconst, ↓f_goto, ↓f_iret, ↓f_cast_r, ↓f_cast_n, ↓f_cast_v, ↓f_astore_n_3_r, ↓f_astore_n_3_n, ↓f_astore_n_3_v, ↓f_aload_n_3_r, ↓f_aload_n_3_n, ↓f_aload_n_3_v, kG_4, ↓f_iadd, ↓f_invs_3, ↓f_istore_4, ↓f_iload_4, kG_1, ↓e_null, ↓f_astore_5_r, ↓f_astore_5_n, ↓f_astore_5_v, ↓f_aload_5_r, ↓f_aload_5_n, ↓f_aload_5_v, ↓f_ifnull_r, ↓f_ifnull_n, ↓f_ifnull_v, ↓f_invv_2, ↓f_iinc_4, wide_n, wide_i, wide_r, wide_u, wide_l, wide_v, mk_0, mk_1, mk_n, ax_0, ax_1, ax_2, ax_3, rf_s, rf_n, isK_, isK_o, castS_r, storS_r, go_, qc_l, qc_r, toL_s, toL_n, hlist_0, hlist_1, catsum_0, catsum_i, catsum_r, catsum_n, catsum_l, catsum_v, argL_n, fillL_0, fillL_s, argL_0, argL_i, argL_r, argL_u, argL_v, hup_s, ret_i, ret_1, ret_0, rt_o, rt_a, nr_i, nr_o, nr_a, nr_z1, nr_z0, ft_i, ft_o, ft_on, ft_ov, ft_a, ft_an, ft_z1, ft_z0, cI_eq, cI_ne, cI_lt, cI_ge, cI_gt, cI_le, forall_const, and_true, true_and, not_true_eq_false, not_false_eq_true, List.nil_append, Nat.reduceAdd, Nat.reduceSub, Nat.reduceLeDiff, Nat.reduceLT, Nat.reduceEqDiff, List.length_cons, List.length_nil, List.set_cons_zero, List.set_cons_succ, reduceIte, true_implies, false_implies, imp_self, true_or, or_true, Nat.le_refl, eq_self, sg127_0, g127_0, lv127_0, sg127_1, g127_1, lv127_1, sg127_2, g127_2, lv127_2, sg127_3, g127_3, lv127_3, sg127_4, g127_4, lv127_4, sg127_5, g127_5, lv127_5, sg127_6, g127_6, lv127_6, sg127_7, g127_7, lv127_7, sg127_8, g127_8, lv127_8, sg127_9, g127_9, lv127_9, sg127_10, g127_10, lv127_10, sg127_11, g127_11, lv127_11, sg127_12, g127_12, lv127_12, rt_127, ml_127, bc_127, bs_127, bc_68, bs_68, bc_191, bs_191, bc_118, bs_118, bc_73, bs_73, bc_192, bs_192, bc_181, bs_181, bc_183, bs_183, i_add, i_sub, i_mul, i_neg, i_nat, i_zero, i_b8, i_s16, i_tnc, i_lt, i_le, i_eq, i_in, Int.reduceNeg, Int.toNat_natCast, Int.reduceLT, Int.reduceLE, Int.reduceAdd, Int.reduceSub, Int.reduceMul, Int.reduceToNat, Int.reduceEq, Int.cast_ofNat_Int, Classical.not_not, reduceCtorEq, ca_, Option.some.injEq, forall_eq', i_shr, i_shl, i_div, ft_zb, nr_zb, ret_b, rp_0 R2, rp_1 R2, rp_2 R2, rp_3 R2, rp_4 R2, rp_5 R2, rp_6 R2, rp_7 R2, rp_8 R2, rp_9 R2, rp_10 R2, rp_11 R2, rp_12 R2, rp_13 R2, rp_14 R2, rp_15 R2, rp_21 R2, rp_22 R2, rp_23 R2, rp_24 R2, rp_25 R2]) | (refine ih _ _ _ (by omega) (by rw [pub_9]; exact e2) (iv_s9 I2 (by omega) (by omega) (by omega)) (nf_put Z2 t) (emp_m E2) (wir_m I2 (by omega) W2) ‹_›) | (refine ⟨by omega, ?_⟩) | (refine ⟨fun _ => ?_, fun _ => ?_⟩) | (intro _) | (refine hX _ _ _ _ _ _ ?_))
        have N : ∀ v, v = va_rf (rfo A 22 ((j : Int) - 1)) → wir (s3 ρ 9 0 i ((j : Int) - 1)) 9 = true → X 9 [some (.ref (A 3 0)), some (.ref (A 4 0)), some (.int (Int32.ofInt i)), some (.ref (A 23 i)), some (.int (Int32.ofInt ((j : Int) - 1))), some v] [] h2 0 0 := by
          intro v hv W3
          subst hv
          refine hX _ _ _ _ _ _ ?_
          repeat' (first | (exfalso; omega) | ((with_reducible show cal _ _ _ _ _ _); first | (refine put_ok (P := 4) (z := (j : Int) - 1) (by omega) R2 I2 (by omega) (by omega) (by omega) rfl fun h4 R4 => ?_) ) | (simp (disch := omega) only [↓f_iload_n_2, ↓f_if, ↓f_aload_n_1_r, ↓f_aload_n_1_n, ↓f_aload_n_1_v, ↓f_getf, kG_0, kG_o, ↓f_invv_0, ↓f_icmp, ↓f_nop, ↓f_aload_n_0_r, ↓f_aload_n_0_n, ↓f_aload_n_0_v, ↓f_invv_1, ↓e_iconst, ↓f_goto, ↓f_iret, ↓f_cast_r, ↓f_cast_n, ↓f_cast_v, ↓f_astore_n_3_r, ↓f_astore_n_3_n, ↓f_astore_n_3_v, ↓f_aload_n_3_r, ↓f_aload_n_3_n, ↓f_aload_n_3_v, kG_4, ↓f_iadd, ↓f_invs_3, ↓f_istore_4, ↓f_iload_4, kG_1, ↓e_null, ↓f_astore_5_r, ↓f_astore_5_n, ↓f_astore_5_v, ↓f_aload_5_r, ↓f_aload_5_n, ↓f_aload_5_v, ↓f_ifnull_r, ↓f_ifnull_n, ↓f_ifnull_v, ↓f_invv_2, ↓f_iinc_4, wide_n, wide_i, wide_r, wide_u, wide_l, wide_v, mk_0, mk_1, mk_n, ax_0, ax_1, ax_2, ax_3, rf_s, rf_n, isK_, isK_o, castS_r, storS_r, go_, qc_l, qc_r, toL_s, toL_n, hlist_0, hlist_1, catsum_0, catsum_i, catsum_r, catsum_n, catsum_l, catsum_v, argL_n, fillL_0, fillL_s, argL_0, argL_i, argL_r, argL_u, argL_v, hup_s, ret_i, ret_1, ret_0, rt_o, rt_a, nr_i, nr_o, nr_a, nr_z1, nr_z0, ft_i, ft_o, ft_on, ft_ov, ft_a, ft_an, ft_z1, ft_z0, cI_eq, cI_ne, cI_lt, cI_ge, cI_gt, cI_le, forall_const, and_true, true_and, not_true_eq_false, not_false_eq_true, List.nil_append, Nat.reduceAdd, Nat.reduceSub, Nat.reduceLeDiff, Nat.reduceLT, Nat.reduceEqDiff, List.length_cons, List.length_nil, List.set_cons_zero, List.set_cons_succ, reduceIte, true_implies, false_implies, imp_self, true_or, or_true, Nat.le_refl, eq_self, sg127_0, g127_0, lv127_0, sg127_1, g127_1, lv127_1, sg127_2, g127_2, lv127_2, sg127_3, g127_3, lv127_3, sg127_4, g127_4, lv127_4, sg127_5, g127_5, lv127_5, sg127_6, g127_6, lv127_6, sg127_7, g127_7, lv127_7, sg127_8, g127_8, lv127_8, sg127_9, g127_9, lv127_9, sg127_10, g127_10, lv127_10, sg127_11, g127_11, lv127_11, sg127_12, g127_12, lv127_12, rt_127, ml_127, bc_127, bs_127, bc_68, bs_68, bc_191, bs_191, bc_118, bs_118, bc_73, bs_73, bc_192, bs_192, bc_181, bs_181, bc_183, bs_183, i_add, i_sub, i_mul, i_neg, i_nat, i_zero, i_b8, i_s16, i_tnc, i_lt, i_le, i_eq, i_in, Int.reduceNeg, Int.toNat_natCast, Int.reduceLT, Int.reduceLE, Int.reduceAdd, Int.reduceSub, Int.reduceMul, Int.reduceToNat, Int.reduceEq, Int.cast_ofNat_Int, Classical.not_not, reduceCtorEq, ca_, Option.some.injEq, forall_eq', i_shr, i_shl, i_div, ft_zb, nr_zb, ret_b, rp_0 R2, rp_1 R2, rp_2 R2, rp_3 R2, rp_4 R2, rp_5 R2, rp_6 R2, rp_7 R2, rp_8 R2, rp_9 R2, rp_10 R2, rp_11 R2, rp_12 R2, rp_13 R2, rp_14 R2, rp_15 R2, rp_21 R2, rp_22 R2, rp_23 R2, rp_24 R2, rp_25 R2]) | (refine ⟨by omega, ?_⟩) | (refine ⟨fun _ => ?_, fun _ => ?_⟩) | (intro _) | (refine hX _ _ _ _ _ _ ?_))
          repeat' (first | (exfalso; omega) | ((with_reducible show cal _ _ _ _ _ _); first | (refine hasEnvy_ok (P := 4) (by omega) R4 I3 (by omega) (show _ < ρ 13 0 0 by omega) ?_) | ((rw [show (i : Int) + 1 = ((i + 1 : Nat) : Int) by omega]; refine isBeaten_ok k _ (i + 1) _ _ _ (by omega) (by omega) e3 R4 I3 Z3 (emp_p E2) W3 fun ρ2 h5 b e5 I5 Z5 R5 hb hc => ?_; cases b)) ) | (simp (disch := omega) only [↓f_iload_n_2, ↓f_if, ↓f_aload_n_1_r, ↓f_aload_n_1_n, ↓f_aload_n_1_v, ↓f_getf, kG_0, kG_o, ↓f_invv_0, ↓f_icmp, ↓f_nop, ↓f_aload_n_0_r, ↓f_aload_n_0_n, ↓f_aload_n_0_v, ↓f_invv_1, ↓e_iconst, ↓f_goto, ↓f_iret, ↓f_cast_r, ↓f_cast_n, ↓f_cast_v, ↓f_astore_n_3_r, ↓f_astore_n_3_n, ↓f_astore_n_3_v, ↓f_aload_n_3_r, ↓f_aload_n_3_n, ↓f_aload_n_3_v, kG_4, ↓f_iadd, ↓f_invs_3, ↓f_istore_4, ↓f_iload_4, kG_1, ↓e_null, ↓f_astore_5_r, ↓f_astore_5_n, ↓f_astore_5_v, ↓f_aload_5_r, ↓f_aload_5_n, ↓f_aload_5_v, ↓f_ifnull_r, ↓f_ifnull_n, ↓f_ifnull_v, ↓f_invv_2, ↓f_iinc_4, wide_n, wide_i, wide_r, wide_u, wide_l, wide_v, mk_0, mk_1, mk_n, ax_0, ax_1, ax_2, ax_3, rf_s, rf_n, isK_, isK_o, castS_r, storS_r, go_, qc_l, qc_r, toL_s, toL_n, hlist_0, hlist_1, catsum_0, catsum_i, catsum_r, catsum_n, catsum_l, catsum_v, argL_n, fillL_0, fillL_s, argL_0, argL_i, argL_r, argL_u, argL_v, hup_s, ret_i, ret_1, ret_0, rt_o, rt_a, nr_i, nr_o, nr_a, nr_z1, nr_z0, ft_i, ft_o, ft_on, ft_ov, ft_a, ft_an, ft_z1, ft_z0, cI_eq, cI_ne, cI_lt, cI_ge, cI_gt, cI_le, forall_const, and_true, true_and, not_true_eq_false, not_false_eq_true, List.nil_append, Nat.reduceAdd, Nat.reduceSub, Nat.reduceLeDiff, Nat.reduceLT, Nat.reduceEqDiff, List.length_cons, List.length_nil, List.set_cons_zero, List.set_cons_succ, reduceIte, true_implies, false_implies, imp_self, true_or, or_true, Nat.le_refl, eq_self, sg127_0, g127_0, lv127_0, sg127_1, g127_1, lv127_1, sg127_2, g127_2, lv127_2, sg127_3, g127_3, lv127_3, sg127_4, g127_4, lv127_4, sg127_5, g127_5, lv127_5, sg127_6, g127_6, lv127_6, sg127_7, g127_7, lv127_7, sg127_8, g127_8, lv127_8, sg127_9, g127_9, lv127_9, sg127_10, g127_10, lv127_10, sg127_11, g127_11, lv127_11, sg127_12, g127_12, lv127_12, rt_127, ml_127, bc_127, bs_127, bc_68, bs_68, bc_191, bs_191, bc_118, bs_118, bc_73, bs_73, bc_192, bs_192, bc_181, bs_181, bc_183, bs_183, i_add, i_sub, i_mul, i_neg, i_nat, i_zero, i_b8, i_s16, i_tnc, i_lt, i_le, i_eq, i_in, Int.reduceNeg, Int.toNat_natCast, Int.reduceLT, Int.reduceLE, Int.reduceAdd, Int.reduceSub, Int.reduceMul, Int.reduceToNat, Int.reduceEq, Int.cast_ofNat_Int, Classical.not_not, reduceCtorEq, ca_, Option.some.injEq, forall_eq', i_shr, i_shl, i_div, ft_zb, nr_zb, ret_b, rp_0 R4, rp_1 R4, rp_2 R4, rp_3 R4, rp_4 R4, rp_5 R4, rp_6 R4, rp_7 R4, rp_8 R4, rp_9 R4, rp_10 R4, rp_11 R4, rp_12 R4, rp_13 R4, rp_14 R4, rp_15 R4, rp_21 R4, rp_22 R4, rp_23 R4, rp_24 R4, rp_25 R4, i_b0]) | (refine T10 _ _ e3 I3 Z3 (emp_p E2) W3 R4) | (refine T10 _ _ e5 I5 Z5 (hc rfl).1 (hc rfl).2 R5) | (exact hQ _ _ true e5 I5 Z5 R5 hb (fun q => nomatch q)) | (simp (disch := omega) only [b2_f, b2_t]) | (refine ⟨by omega, ?_⟩) | (refine ⟨fun _ => ?_, fun _ => ?_⟩) | (intro _) | (refine hX _ _ _ _ _ _ ?_))
        refine hX _ _ _ _ _ _ ?_
        by_cases cj : j = 0
        · subst cj
          repeat' (first | (exfalso; omega) | ((with_reducible show cal _ _ _ _ _ _); first | (refine size_okZ (by omega) (rp_12 R2) ?_) ) | (simp (disch := omega) only [↓f_iload_n_2, ↓f_if, ↓f_aload_n_1_r, ↓f_aload_n_1_n, ↓f_aload_n_1_v, ↓f_getf, kG_0, kG_o, ↓f_invv_0, ↓f_icmp, ↓f_nop, ↓f_aload_n_0_r, ↓f_aload_n_0_n, ↓f_aload_n_0_v, ↓f_invv_1, ↓e_iconst, ↓f_goto, ↓f_iret, ↓f_cast_r, ↓f_cast_n, ↓f_cast_v, ↓f_astore_n_3_r, ↓f_astore_n_3_n, ↓f_astore_n_3_v, ↓f_aload_n_3_r, ↓f_aload_n_3_n, ↓f_aload_n_3_v, kG_4, ↓f_iadd, ↓f_invs_3, ↓f_istore_4, ↓f_iload_4, kG_1, ↓e_null, ↓f_astore_5_r, ↓f_astore_5_n, ↓f_astore_5_v, ↓f_aload_5_r, ↓f_aload_5_n, ↓f_aload_5_v, ↓f_ifnull_r, ↓f_ifnull_n, ↓f_ifnull_v, ↓f_invv_2, ↓f_iinc_4, wide_n, wide_i, wide_r, wide_u, wide_l, wide_v, mk_0, mk_1, mk_n, ax_0, ax_1, ax_2, ax_3, rf_s, rf_n, isK_, isK_o, castS_r, storS_r, go_, qc_l, qc_r, toL_s, toL_n, hlist_0, hlist_1, catsum_0, catsum_i, catsum_r, catsum_n, catsum_l, catsum_v, argL_n, fillL_0, fillL_s, argL_0, argL_i, argL_r, argL_u, argL_v, hup_s, ret_i, ret_1, ret_0, rt_o, rt_a, nr_i, nr_o, nr_a, nr_z1, nr_z0, ft_i, ft_o, ft_on, ft_ov, ft_a, ft_an, ft_z1, ft_z0, cI_eq, cI_ne, cI_lt, cI_ge, cI_gt, cI_le, forall_const, and_true, true_and, not_true_eq_false, not_false_eq_true, List.nil_append, Nat.reduceAdd, Nat.reduceSub, Nat.reduceLeDiff, Nat.reduceLT, Nat.reduceEqDiff, List.length_cons, List.length_nil, List.set_cons_zero, List.set_cons_succ, reduceIte, true_implies, false_implies, imp_self, true_or, or_true, Nat.le_refl, eq_self, sg127_0, g127_0, lv127_0, sg127_1, g127_1, lv127_1, sg127_2, g127_2, lv127_2, sg127_3, g127_3, lv127_3, sg127_4, g127_4, lv127_4, sg127_5, g127_5, lv127_5, sg127_6, g127_6, lv127_6, sg127_7, g127_7, lv127_7, sg127_8, g127_8, lv127_8, sg127_9, g127_9, lv127_9, sg127_10, g127_10, lv127_10, sg127_11, g127_11, lv127_11, sg127_12, g127_12, lv127_12, rt_127, ml_127, bc_127, bs_127, bc_68, bs_68, bc_191, bs_191, bc_118, bs_118, bc_73, bs_73, bc_192, bs_192, bc_181, bs_181, bc_183, bs_183, i_add, i_sub, i_mul, i_neg, i_nat, i_zero, i_b8, i_s16, i_tnc, i_lt, i_le, i_eq, i_in, Int.reduceNeg, Int.toNat_natCast, Int.reduceLT, Int.reduceLE, Int.reduceAdd, Int.reduceSub, Int.reduceMul, Int.reduceToNat, Int.reduceEq, Int.cast_ofNat_Int, Classical.not_not, reduceCtorEq, ca_, Option.some.injEq, forall_eq', i_shr, i_shl, i_div, ft_zb, nr_zb, ret_b, rp_0 R2, rp_1 R2, rp_2 R2, rp_3 R2, rp_4 R2, rp_5 R2, rp_6 R2, rp_7 R2, rp_8 R2, rp_9 R2, rp_10 R2, rp_11 R2, rp_12 R2, rp_13 R2, rp_14 R2, rp_15 R2, rp_21 R2, rp_22 R2, rp_23 R2, rp_24 R2, rp_25 R2, i_b0]) | (exact N _ rfl (wir_m I2 (by omega) W2)) | (refine ⟨by omega, ?_⟩) | (refine ⟨fun _ => ?_, fun _ => ?_⟩) | (intro _) | (refine hX _ _ _ _ _ _ ?_))
        · by_cases c2 : hro ρ 9 ((j : Int) - 1).toNat = true
          · repeat' (first | (exfalso; omega) | ((with_reducible show cal _ _ _ _ _ _); first | (refine size_okZ (by omega) (rp_12 R2) ?_) | (refine getZ12 (by omega) R2 (by omega) (by omega) (by omega) ?_) | (refine hasRoom_ok (P := 4) (by omega) R2 I2 (by omega) (by omega) ?_; rw [show hro ρ (4 + 5) ((j : Int) - 1).toNat = true from c2]) ) | (simp (disch := omega) only [↓f_iload_n_2, ↓f_if, ↓f_aload_n_1_r, ↓f_aload_n_1_n, ↓f_aload_n_1_v, ↓f_getf, kG_0, kG_o, ↓f_invv_0, ↓f_icmp, ↓f_nop, ↓f_aload_n_0_r, ↓f_aload_n_0_n, ↓f_aload_n_0_v, ↓f_invv_1, ↓e_iconst, ↓f_goto, ↓f_iret, ↓f_cast_r, ↓f_cast_n, ↓f_cast_v, ↓f_astore_n_3_r, ↓f_astore_n_3_n, ↓f_astore_n_3_v, ↓f_aload_n_3_r, ↓f_aload_n_3_n, ↓f_aload_n_3_v, kG_4, ↓f_iadd, ↓f_invs_3, ↓f_istore_4, ↓f_iload_4, kG_1, ↓e_null, ↓f_astore_5_r, ↓f_astore_5_n, ↓f_astore_5_v, ↓f_aload_5_r, ↓f_aload_5_n, ↓f_aload_5_v, ↓f_ifnull_r, ↓f_ifnull_n, ↓f_ifnull_v, ↓f_invv_2, ↓f_iinc_4, wide_n, wide_i, wide_r, wide_u, wide_l, wide_v, mk_0, mk_1, mk_n, ax_0, ax_1, ax_2, ax_3, rf_s, rf_n, isK_, isK_o, castS_r, storS_r, go_, qc_l, qc_r, toL_s, toL_n, hlist_0, hlist_1, catsum_0, catsum_i, catsum_r, catsum_n, catsum_l, catsum_v, argL_n, fillL_0, fillL_s, argL_0, argL_i, argL_r, argL_u, argL_v, hup_s, ret_i, ret_1, ret_0, rt_o, rt_a, nr_i, nr_o, nr_a, nr_z1, nr_z0, ft_i, ft_o, ft_on, ft_ov, ft_a, ft_an, ft_z1, ft_z0, cI_eq, cI_ne, cI_lt, cI_ge, cI_gt, cI_le, forall_const, and_true, true_and, not_true_eq_false, not_false_eq_true, List.nil_append, Nat.reduceAdd, Nat.reduceSub, Nat.reduceLeDiff, Nat.reduceLT, Nat.reduceEqDiff, List.length_cons, List.length_nil, List.set_cons_zero, List.set_cons_succ, reduceIte, true_implies, false_implies, imp_self, true_or, or_true, Nat.le_refl, eq_self, sg127_0, g127_0, lv127_0, sg127_1, g127_1, lv127_1, sg127_2, g127_2, lv127_2, sg127_3, g127_3, lv127_3, sg127_4, g127_4, lv127_4, sg127_5, g127_5, lv127_5, sg127_6, g127_6, lv127_6, sg127_7, g127_7, lv127_7, sg127_8, g127_8, lv127_8, sg127_9, g127_9, lv127_9, sg127_10, g127_10, lv127_10, sg127_11, g127_11, lv127_11, sg127_12, g127_12, lv127_12, rt_127, ml_127, bc_127, bs_127, bc_68, bs_68, bc_191, bs_191, bc_118, bs_118, bc_73, bs_73, bc_192, bs_192, bc_181, bs_181, bc_183, bs_183, i_add, i_sub, i_mul, i_neg, i_nat, i_zero, i_b8, i_s16, i_tnc, i_lt, i_le, i_eq, i_in, Int.reduceNeg, Int.toNat_natCast, Int.reduceLT, Int.reduceLE, Int.reduceAdd, Int.reduceSub, Int.reduceMul, Int.reduceToNat, Int.reduceEq, Int.cast_ofNat_Int, Classical.not_not, reduceCtorEq, ca_, Option.some.injEq, forall_eq', i_shr, i_shl, i_div, ft_zb, nr_zb, ret_b, rp_0 R2, rp_1 R2, rp_2 R2, rp_3 R2, rp_4 R2, rp_5 R2, rp_6 R2, rp_7 R2, rp_8 R2, rp_9 R2, rp_10 R2, rp_11 R2, rp_12 R2, rp_13 R2, rp_14 R2, rp_15 R2, rp_21 R2, rp_22 R2, rp_23 R2, rp_24 R2, rp_25 R2, i_b0, c2]) | (exact N _ (by rw [rfo_s (by omega), rf_s]) (wir_p I2 (by omega) (by omega) (by omega) W2 c2)) | (refine ⟨by omega, ?_⟩) | (refine ⟨fun _ => ?_, fun _ => ?_⟩) | (intro _) | (refine hX _ _ _ _ _ _ ?_))
          · rw [Bool.not_eq_true] at c2
            repeat' (first | (exfalso; omega) | ((with_reducible show cal _ _ _ _ _ _); first | (refine size_okZ (by omega) (rp_12 R2) ?_) | (refine getZ12 (by omega) R2 (by omega) (by omega) (by omega) ?_) | (refine hasRoom_ok (P := 4) (by omega) R2 I2 (by omega) (by omega) ?_; rw [show hro ρ (4 + 5) ((j : Int) - 1).toNat = false from c2]) ) | (simp (disch := omega) only [↓f_iload_n_2, ↓f_if, ↓f_aload_n_1_r, ↓f_aload_n_1_n, ↓f_aload_n_1_v, ↓f_getf, kG_0, kG_o, ↓f_invv_0, ↓f_icmp, ↓f_nop, ↓f_aload_n_0_r, ↓f_aload_n_0_n, ↓f_aload_n_0_v, ↓f_invv_1, ↓e_iconst, ↓f_goto, ↓f_iret, ↓f_cast_r, ↓f_cast_n, ↓f_cast_v, ↓f_astore_n_3_r, ↓f_astore_n_3_n, ↓f_astore_n_3_v, ↓f_aload_n_3_r, ↓f_aload_n_3_n, ↓f_aload_n_3_v, kG_4, ↓f_iadd, ↓f_invs_3, ↓f_istore_4, ↓f_iload_4, kG_1, ↓e_null, ↓f_astore_5_r, ↓f_astore_5_n, ↓f_astore_5_v, ↓f_aload_5_r, ↓f_aload_5_n, ↓f_aload_5_v, ↓f_ifnull_r, ↓f_ifnull_n, ↓f_ifnull_v, ↓f_invv_2, ↓f_iinc_4, wide_n, wide_i, wide_r, wide_u, wide_l, wide_v, mk_0, mk_1, mk_n, ax_0, ax_1, ax_2, ax_3, rf_s, rf_n, isK_, isK_o, castS_r, storS_r, go_, qc_l, qc_r, toL_s, toL_n, hlist_0, hlist_1, catsum_0, catsum_i, catsum_r, catsum_n, catsum_l, catsum_v, argL_n, fillL_0, fillL_s, argL_0, argL_i, argL_r, argL_u, argL_v, hup_s, ret_i, ret_1, ret_0, rt_o, rt_a, nr_i, nr_o, nr_a, nr_z1, nr_z0, ft_i, ft_o, ft_on, ft_ov, ft_a, ft_an, ft_z1, ft_z0, cI_eq, cI_ne, cI_lt, cI_ge, cI_gt, cI_le, forall_const, and_true, true_and, not_true_eq_false, not_false_eq_true, List.nil_append, Nat.reduceAdd, Nat.reduceSub, Nat.reduceLeDiff, Nat.reduceLT, Nat.reduceEqDiff, List.length_cons, List.length_nil, List.set_cons_zero, List.set_cons_succ, reduceIte, true_implies, false_implies, imp_self, true_or, or_true, Nat.le_refl, eq_self, sg127_0, g127_0, lv127_0, sg127_1, g127_1, lv127_1, sg127_2, g127_2, lv127_2, sg127_3, g127_3, lv127_3, sg127_4, g127_4, lv127_4, sg127_5, g127_5, lv127_5, sg127_6, g127_6, lv127_6, sg127_7, g127_7, lv127_7, sg127_8, g127_8, lv127_8, sg127_9, g127_9, lv127_9, sg127_10, g127_10, lv127_10, sg127_11, g127_11, lv127_11, sg127_12, g127_12, lv127_12, rt_127, ml_127, bc_127, bs_127, bc_68, bs_68, bc_191, bs_191, bc_118, bs_118, bc_73, bs_73, bc_192, bs_192, bc_181, bs_181, bc_183, bs_183, i_add, i_sub, i_mul, i_neg, i_nat, i_zero, i_b8, i_s16, i_tnc, i_lt, i_le, i_eq, i_in, Int.reduceNeg, Int.toNat_natCast, Int.reduceLT, Int.reduceLE, Int.reduceAdd, Int.reduceSub, Int.reduceMul, Int.reduceToNat, Int.reduceEq, Int.cast_ofNat_Int, Classical.not_not, reduceCtorEq, ca_, Option.some.injEq, forall_eq', i_shr, i_shl, i_div, ft_zb, nr_zb, ret_b, rp_0 R2, rp_1 R2, rp_2 R2, rp_3 R2, rp_4 R2, rp_5 R2, rp_6 R2, rp_7 R2, rp_8 R2, rp_9 R2, rp_10 R2, rp_11 R2, rp_12 R2, rp_13 R2, rp_14 R2, rp_15 R2, rp_21 R2, rp_22 R2, rp_23 R2, rp_24 R2, rp_25 R2, i_b0, c2]) | (refine ih _ _ _ (by omega) e2 I2 Z2 E2 W2 R2) | (refine ⟨by omega, ?_⟩) | (refine ⟨fun _ => ?_, fun _ => ?_⟩) | (intro _) | (refine hX _ _ _ _ _ _ ?_))
    · rw [show (i : Int) + 1 = ((i + 1 : Nat) : Int) by omega]
      refine isBeaten_ok k _ (i + 1) _ _ _ (by omega) (by omega) e R I Z (fun j hj => E j (by omega)) W fun ρ2 h5 b e5 I5 Z5 R5 hb hc => ?_
      simp (disch := omega) only [↓f_iload_n_2, ↓f_if, ↓f_aload_n_1_r, ↓f_aload_n_1_n, ↓f_aload_n_1_v, ↓f_getf, kG_0, kG_o, ↓f_invv_0, ↓f_icmp, ↓f_nop, ↓f_aload_n_0_r, ↓f_aload_n_0_n, ↓f_aload_n_0_v, ↓f_invv_1, ↓e_iconst, ↓f_goto, ↓f_iret, ↓f_cast_r, ↓f_cast_n, ↓f_cast_v, ↓f_astore_n_3_r, ↓f_astore_n_3_n, ↓f_astore_n_3_v, ↓f_aload_n_3_r, ↓f_aload_n_3_n, ↓f_aload_n_3_v, kG_4, ↓f_iadd, ↓f_invs_3, ↓f_istore_4, ↓f_iload_4, kG_1, ↓e_null, ↓f_astore_5_r, ↓f_astore_5_n, ↓f_astore_5_v, ↓f_aload_5_r, ↓f_aload_5_n, ↓f_aload_5_v, ↓f_ifnull_r, ↓f_ifnull_n, ↓f_ifnull_v, ↓f_invv_2, ↓f_iinc_4, wide_n, wide_i, wide_r, wide_u, wide_l, wide_v, mk_0, mk_1, mk_n, ax_0, ax_1, ax_2, ax_3, rf_s, rf_n, isK_, isK_o, castS_r, storS_r, go_, qc_l, qc_r, toL_s, toL_n, hlist_0, hlist_1, catsum_0, catsum_i, catsum_r, catsum_n, catsum_l, catsum_v, argL_n, fillL_0, fillL_s, argL_0, argL_i, argL_r, argL_u, argL_v, hup_s, ret_i, ret_1, ret_0, rt_o, rt_a, nr_i, nr_o, nr_a, nr_z1, nr_z0, ft_i, ft_o, ft_on, ft_ov, ft_a, ft_an, ft_z1, ft_z0, cI_eq, cI_ne, cI_lt, cI_ge, cI_gt, cI_le, forall_const, and_true, true_and, not_true_eq_false, not_false_eq_true, List.nil_append, Nat.reduceAdd, Nat.reduceSub, Nat.reduceLeDiff, Nat.reduceLT, Nat.reduceEqDiff, List.length_cons, List.length_nil, List.set_cons_zero, List.set_cons_succ, reduceIte, true_implies, false_implies, imp_self, true_or, or_true, Nat.le_refl, eq_self, sg127_0, g127_0, lv127_0, sg127_1, g127_1, lv127_1, sg127_2, g127_2, lv127_2, sg127_3, g127_3, lv127_3, sg127_4, g127_4, lv127_4, sg127_5, g127_5, lv127_5, sg127_6, g127_6, lv127_6, sg127_7, g127_7, lv127_7, sg127_8, g127_8, lv127_8, sg127_9, g127_9, lv127_9, sg127_10, g127_10, lv127_10, sg127_11, g127_11, lv127_11, sg127_12, g127_12, lv127_12, rt_127, ml_127, bc_127, bs_127, bc_68, bs_68, bc_191, bs_191, bc_118, bs_118, bc_73, bs_73, bc_192, bs_192, bc_181, bs_181, bc_183, bs_183, i_add, i_sub, i_mul, i_neg, i_nat, i_zero, i_b8, i_s16, i_tnc, i_lt, i_le, i_eq, i_in, Int.reduceNeg, Int.toNat_natCast, Int.reduceLT, Int.reduceLE, Int.reduceAdd, Int.reduceSub, Int.reduceMul, Int.reduceToNat, Int.reduceEq, Int.cast_ofNat_Int, Classical.not_not, reduceCtorEq, ca_, Option.some.injEq, forall_eq', i_shr, i_shl, i_div, ft_zb, nr_zb, ret_b, ret_b2]
      refine hQ _ _ b e5 I5 Z5 R5 hb fun q => ⟨fun j hj => ?_, (hc q).2⟩
      by_cases ji : j = i
      · have h8 : ρ2 23 j 3 ≠ 1 := by
          rw [ji, pub_i e5 (by omega) (by omega), ← pub_i e (by omega) (by omega)]
          exact c
        have h9 := Z5 j h8
        have h7 := iv_t I5 j
        omega
      · exact (hc q).1 j (by omega)
end BeatenL
