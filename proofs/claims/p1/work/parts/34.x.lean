/-! THE CLASS: the trial: read, looked through -/
section TrialL
variable {em mi ic : Nat} {σ : ST} {A : AD} {F h : AH}
/-- what can be asked of the state: without the trial and the groups -/
def pub (σ : ST) : ST := fun k i f => if k = 9 then -1 else if k = 25 then if f = 2 then 0 else σ k i f else σ k i f
theorem pub_i {τ : ST} (e : pub τ = pub σ) {k i f : Nat} (h9 : k ≠ 9) (h25 : k ≠ 25) : τ k i f = σ k i f := by
  have := congrFun (congrFun (congrFun e k) i) f
  unfold pub at this
  rw [if_neg h9, if_neg h25, if_neg h9, if_neg h25] at this
  exact this
theorem pub_nh {τ : ST} (e : pub τ = pub σ) : nh τ = nh σ := by
  unfold nh
  rw [pub_i e (by omega) (by omega)]
theorem pub_nl {τ : ST} (e : pub τ = pub σ) : nl τ = nl σ := by
  unfold nl
  rw [pub_i e (by omega) (by omega)]
theorem pub_9 (σ : ST) (i : Nat) (z : Int) : pub (s3 σ 9 0 i z) = pub σ := by
  funext a b c
  unfold pub s3
  split
  · rfl
  · simp only [*, if_false]
theorem pub_c9 (σ : ST) (i : Nat) : pub (clr σ 9 i) = pub σ := by
  funext a b c
  unfold pub clr
  split
  · rfl
  · simp only [*, false_and, if_false]
theorem getZ12 {d : Nat} {z : Int} {Q : RS → AH → Prop} (hd : 3 ≤ d) (R : Rp σ A em F h) (h0 : 0 ≤ z) (hi : z < σ 12 0 0) (hs : σ 12 0 0 ≤ 15) (hQ : Q (.inl (some (.ref (A 22 z.toNat)))) h) : cal (DD em mi ic) d 73 [.ref (A 12 0), .int (Int32.ofInt z)] h Q := by
  have H := getR12 (mi := mi) (ic := ic) (Q := Q) (i := z.toNat) hd R (by omega) hs hQ
  rw [Int.toNat_of_nonneg h0] at H
  exact H
theorem t10 (v : Int) : -10 < v - v.tdiv 10 * 10 ∧ v - v.tdiv 10 * 10 < 10 := by
  rcases Int.le_total 0 v with h | h
  · rw [Int.tdiv_eq_ediv_of_nonneg h]
    omega
  · have e0 : v.tdiv 10 = -((-v) / 10) := by
      rw [← Int.tdiv_eq_ediv_of_nonneg (by omega), Int.neg_tdiv]
      omega
    rw [e0]
    omega
theorem t10b {v : Int} (h1 : -2147483648 ≤ v) (h2 : v < 2147483648) : -2147483648 ≤ v.tdiv 10 ∧ v.tdiv 10 < 2147483648 := by
  rcases Int.le_total 0 v with h | h
  · rw [Int.tdiv_eq_ediv_of_nonneg h]
    omega
  · have e0 : v.tdiv 10 = -((-v) / 10) := by
      rw [← Int.tdiv_eq_ediv_of_nonneg (by omega), Int.neg_tdiv]
      omega
    rw [e0]
    omega
def rdR (σ : ST) (n : Nat) (z : Int) : Nat → Int
  | 0 => z
  | k + 1 => if σ 23 (n - 1 - k) 3 = 1 then (rdR σ n z k).tdiv 10 else rdR σ n z k
def rdD (σ : ST) (n : Nat) (z : Int) (k : Nat) : Int := rdR σ n z k - (rdR σ n z k).tdiv 10 * 10
def rdS (σ : ST) (n : Nat) (z : Int) : Nat → ST
  | 0 => clr σ 9 6
  | k + 1 => if σ 23 (n - 1 - k) 3 = 1 then s3 (rdS σ n z k) 9 0 (n - 1 - k) (rdD σ n z k - 1) else rdS σ n z k
def rdk (σ : ST) (n : Nat) (z : Int) (k : Nat) : Bool := decide (σ 23 (n - 1 - k) 3 = 1 → 0 ≤ rdD σ n z k ∧ rdD σ n z k ≤ σ 12 0 0)
def rdO (σ : ST) (z : Int) : Bool := allb (rdk σ (nh σ) z) (nh σ) && decide (rdR σ (nh σ) z (nh σ) = 0)
theorem rdR_b (σ : ST) (n : Nat) {z : Int} (hz : -2147483648 ≤ z ∧ z < 2147483648) : ∀ k, -2147483648 ≤ rdR σ n z k ∧ rdR σ n z k < 2147483648
  | 0 => hz
  | k + 1 => by
    have h := rdR_b σ n hz k
    simp only [rdR]
    split
    · exact t10b h.1 h.2
    · exact h
theorem rdS_pub (σ : ST) (n : Nat) (z : Int) : ∀ k, pub (rdS σ n z k) = pub σ
  | 0 => pub_c9 σ 6
  | k + 1 => by
    have h := rdS_pub σ n z k
    simp only [rdS]
    split
    · rw [pub_9, h]
    · exact h
theorem rdS_iv (I : Iv σ) {n : Nat} {z : Int} (hn : (n : Int) ≤ σ 13 0 0) : ∀ k, k ≤ n → allb (rdk σ n z) k = true → Iv (rdS σ n z k)
  | 0, _, _ => iv_c9 I 6
  | k + 1, hk, e => by
    simp only [allb, Bool.and_eq_true] at e
    have h := rdS_iv I hn k (by omega) e.1
    have e2 := e.2
    simp only [rdk, decide_eq_true_eq] at e2
    simp only [rdS]
    split
    · have := e2 ‹_›
      exact iv_s9 h (by rw [pub_i (rdS_pub σ n z k) (by omega) (by omega)]; omega) (by omega) (by rw [pub_i (rdS_pub σ n z k) (by omega) (by omega)]; omega)
    · exact h
theorem read_ok {d : Nat} {z : Int} {Q : RS → AH → Prop} (hd : 4 ≤ d) (R : Rp σ A em F h) (I : Iv σ) (hz : -2147483648 ≤ z ∧ z < 2147483648) (hQ : ∀ σ' h', pub σ' = pub σ → Iv σ' → Rp σ' A em F h' → (rdO σ z = true → σ' = rdS σ (nh σ) z (nh σ)) → Q (.inl (some (.int (Int32.ofInt (b2 (rdO σ z)))))) h') : cal (DD em mi ic) d 116 [.ref (A 4 0), .int (Int32.ofInt z)] h Q := by
  have r3 := iv_z I
  have hn := nh_e I
  have hn2 := nl_e I
  obtain ⟨d, rfl, hd⟩ := dep hd; refine cal_go (Nat.le_of_ble_eq_true rfl) fun X hX => ?_
  simp (disch := omega) only [↓f_aload_n_0_r, ↓f_aload_n_0_n, ↓f_aload_n_0_v, ↓f_invv_0, ↓f_iload_n_1, ↓f_istore_n_2, ↓f_getf, kG_0, kG_o, ↓e_iconst, ↓f_isub, ↓f_istore_n_3, ↓f_nop, ↓f_iload_n_3, ↓f_if, ↓f_invv_1, ↓f_cast_r, ↓f_cast_n, ↓f_cast_v, ↓f_astore_4_r, ↓f_astore_4_n, ↓f_astore_4_v, ↓f_aload_4_r, ↓f_aload_4_n, ↓f_aload_4_v, kG_4, ↓f_icmp, ↓f_iload_n_2, ↓e_bipush, ↓f_irem, ↓f_istore_5, ↓f_iload_5, kG_1, ↓f_iret, ↓e_null, ↓f_goto, ↓f_invv_2, ↓f_idiv, ↓f_iinc_3, wide_n, wide_i, wide_r, wide_u, wide_l, wide_v, mk_0, mk_1, mk_n, ax_0, ax_1, ax_2, ax_3, rf_s, rf_n, isK_, isK_o, castS_r, storS_r, go_, qc_l, qc_r, toL_s, toL_n, hlist_0, hlist_1, catsum_0, catsum_i, catsum_r, catsum_n, catsum_l, catsum_v, argL_n, fillL_0, fillL_s, argL_0, argL_i, argL_r, argL_u, argL_v, hup_s, ret_i, ret_1, ret_0, rt_o, rt_a, nr_i, nr_o, nr_a, nr_z1, nr_z0, ft_i, ft_o, ft_on, ft_ov, ft_a, ft_an, ft_z1, ft_z0, cI_eq, cI_ne, cI_lt, cI_ge, cI_gt, cI_le, forall_const, and_true, true_and, not_true_eq_false, not_false_eq_true, List.nil_append, Nat.reduceAdd, Nat.reduceSub, Nat.reduceLeDiff, Nat.reduceLT, Nat.reduceEqDiff, List.length_cons, List.length_nil, List.set_cons_zero, List.set_cons_succ, reduceIte, true_implies, false_implies, imp_self, true_or, or_true, Nat.le_refl, eq_self, sg116_0, g116_0, lv116_0, sg116_1, g116_1, lv116_1, sg116_2, g116_2, lv116_2, sg116_3, g116_3, lv116_3, sg116_4, g116_4, lv116_4, sg116_5, g116_5, lv116_5, sg116_6, g116_6, lv116_6, sg116_7, g116_7, lv116_7, sg116_8, g116_8, lv116_8, sg116_9, g116_9, lv116_9, rt_116, ml_116, bc_116, bs_116, bc_126, bs_126, bc_68, bs_68, bc_73, bs_73, bc_181, bs_181, i_add, i_sub, i_mul, i_neg, i_nat, i_zero, i_b8, i_s16, i_tnc, i_lt, i_le, i_eq, i_in, Int.reduceNeg, Int.toNat_natCast, Int.reduceLT, Int.reduceLE, Int.reduceAdd, Int.reduceSub, Int.reduceMul, Int.reduceToNat, Int.reduceEq, Int.cast_ofNat_Int, Classical.not_not, reduceCtorEq, ca_, Option.some.injEq, forall_eq', i_shr, i_shl, i_div, ft_zb, nr_zb, ret_b, rp_0 R, rp_1 R, rp_2 R, rp_3 R, rp_4 R, rp_5 R, rp_6 R, rp_7 R, rp_8 R, rp_9 R, rp_10 R, rp_11 R, rp_12 R, rp_13 R, rp_14 R, rp_15 R, rp_21 R, rp_22 R, rp_23 R, rp_24 R, rp_25 R]
  refine clear_ok (P := 4) (by omega) R (by omega) fun h1 R1 => ?_
  have hs1 : clr σ (4 + 5) 6 13 0 0 = σ 13 0 0 := pub_i (pub_c9 σ 6) (by omega) (by omega)
  simp (disch := omega) only [↓f_aload_n_0_r, ↓f_aload_n_0_n, ↓f_aload_n_0_v, ↓f_invv_0, ↓f_iload_n_1, ↓f_istore_n_2, ↓f_getf, kG_0, kG_o, ↓e_iconst, ↓f_isub, ↓f_istore_n_3, ↓f_nop, ↓f_iload_n_3, ↓f_if, ↓f_invv_1, ↓f_cast_r, ↓f_cast_n, ↓f_cast_v, ↓f_astore_4_r, ↓f_astore_4_n, ↓f_astore_4_v, ↓f_aload_4_r, ↓f_aload_4_n, ↓f_aload_4_v, kG_4, ↓f_icmp, ↓f_iload_n_2, ↓e_bipush, ↓f_irem, ↓f_istore_5, ↓f_iload_5, kG_1, ↓f_iret, ↓e_null, ↓f_goto, ↓f_invv_2, ↓f_idiv, ↓f_iinc_3, wide_n, wide_i, wide_r, wide_u, wide_l, wide_v, mk_0, mk_1, mk_n, ax_0, ax_1, ax_2, ax_3, rf_s, rf_n, isK_, isK_o, castS_r, storS_r, go_, qc_l, qc_r, toL_s, toL_n, hlist_0, hlist_1, catsum_0, catsum_i, catsum_r, catsum_n, catsum_l, catsum_v, argL_n, fillL_0, fillL_s, argL_0, argL_i, argL_r, argL_u, argL_v, hup_s, ret_i, ret_1, ret_0, rt_o, rt_a, nr_i, nr_o, nr_a, nr_z1, nr_z0, ft_i, ft_o, ft_on, ft_ov, ft_a, ft_an, ft_z1, ft_z0, cI_eq, cI_ne, cI_lt, cI_ge, cI_gt, cI_le, forall_const, and_true, true_and, not_true_eq_false, not_false_eq_true, List.nil_append, Nat.reduceAdd, Nat.reduceSub, Nat.reduceLeDiff, Nat.reduceLT, Nat.reduceEqDiff, List.length_cons, List.length_nil, List.set_cons_zero, List.set_cons_succ, reduceIte, true_implies, false_implies, imp_self, true_or, or_true, Nat.le_refl, eq_self, sg116_0, g116_0, lv116_0, sg116_1, g116_1, lv116_1, sg116_2, g116_2, lv116_2, sg116_3, g116_3, lv116_3, sg116_4, g116_4, lv116_4, sg116_5, g116_5, lv116_5, sg116_6, g116_6, lv116_6, sg116_7, g116_7, lv116_7, sg116_8, g116_8, lv116_8, sg116_9, g116_9, lv116_9, rt_116, ml_116, bc_116, bs_116, bc_126, bs_126, bc_68, bs_68, bc_73, bs_73, bc_181, bs_181, i_add, i_sub, i_mul, i_neg, i_nat, i_zero, i_b8, i_s16, i_tnc, i_lt, i_le, i_eq, i_in, Int.reduceNeg, Int.toNat_natCast, Int.reduceLT, Int.reduceLE, Int.reduceAdd, Int.reduceSub, Int.reduceMul, Int.reduceToNat, Int.reduceEq, Int.cast_ofNat_Int, Classical.not_not, reduceCtorEq, ca_, Option.some.injEq, forall_eq', i_shr, i_shl, i_div, ft_zb, nr_zb, ret_b, rp_0 R1, rp_1 R1, rp_2 R1, rp_3 R1, rp_4 R1, rp_5 R1, rp_6 R1, rp_7 R1, rp_8 R1, rp_9 R1, rp_10 R1, rp_11 R1, rp_12 R1, rp_13 R1, rp_14 R1, rp_15 R1, rp_21 R1, rp_22 R1, rp_23 R1, rp_24 R1, rp_25 R1]
  refine size_okZ (by omega) (rp_13 R1) ?_
  rw [hs1]
  simp (disch := omega) only [↓f_aload_n_0_r, ↓f_aload_n_0_n, ↓f_aload_n_0_v, ↓f_invv_0, ↓f_iload_n_1, ↓f_istore_n_2, ↓f_getf, kG_0, kG_o, ↓e_iconst, ↓f_isub, ↓f_istore_n_3, ↓f_nop, ↓f_iload_n_3, ↓f_if, ↓f_invv_1, ↓f_cast_r, ↓f_cast_n, ↓f_cast_v, ↓f_astore_4_r, ↓f_astore_4_n, ↓f_astore_4_v, ↓f_aload_4_r, ↓f_aload_4_n, ↓f_aload_4_v, kG_4, ↓f_icmp, ↓f_iload_n_2, ↓e_bipush, ↓f_irem, ↓f_istore_5, ↓f_iload_5, kG_1, ↓f_iret, ↓e_null, ↓f_goto, ↓f_invv_2, ↓f_idiv, ↓f_iinc_3, wide_n, wide_i, wide_r, wide_u, wide_l, wide_v, mk_0, mk_1, mk_n, ax_0, ax_1, ax_2, ax_3, rf_s, rf_n, isK_, isK_o, castS_r, storS_r, go_, qc_l, qc_r, toL_s, toL_n, hlist_0, hlist_1, catsum_0, catsum_i, catsum_r, catsum_n, catsum_l, catsum_v, argL_n, fillL_0, fillL_s, argL_0, argL_i, argL_r, argL_u, argL_v, hup_s, ret_i, ret_1, ret_0, rt_o, rt_a, nr_i, nr_o, nr_a, nr_z1, nr_z0, ft_i, ft_o, ft_on, ft_ov, ft_a, ft_an, ft_z1, ft_z0, cI_eq, cI_ne, cI_lt, cI_ge, cI_gt, cI_le, forall_const, and_true, true_and, not_true_eq_false, not_false_eq_true, List.nil_append, Nat.reduceAdd, Nat.reduceSub, Nat.reduceLeDiff, Nat.reduceLT, Nat.reduceEqDiff, List.length_cons, List.length_nil, List.set_cons_zero, List.set_cons_succ, reduceIte, true_implies, false_implies, imp_self, true_or, or_true, Nat.le_refl, eq_self, sg116_0, g116_0, lv116_0, sg116_1, g116_1, lv116_1, sg116_2, g116_2, lv116_2, sg116_3, g116_3, lv116_3, sg116_4, g116_4, lv116_4, sg116_5, g116_5, lv116_5, sg116_6, g116_6, lv116_6, sg116_7, g116_7, lv116_7, sg116_8, g116_8, lv116_8, sg116_9, g116_9, lv116_9, rt_116, ml_116, bc_116, bs_116, bc_126, bs_126, bc_68, bs_68, bc_73, bs_73, bc_181, bs_181, i_add, i_sub, i_mul, i_neg, i_nat, i_zero, i_b8, i_s16, i_tnc, i_lt, i_le, i_eq, i_in, Int.reduceNeg, Int.toNat_natCast, Int.reduceLT, Int.reduceLE, Int.reduceAdd, Int.reduceSub, Int.reduceMul, Int.reduceToNat, Int.reduceEq, Int.cast_ofNat_Int, Classical.not_not, reduceCtorEq, ca_, Option.some.injEq, forall_eq', i_shr, i_shl, i_div, ft_zb, nr_zb, ret_b, rp_0 R1, rp_1 R1, rp_2 R1, rp_3 R1, rp_4 R1, rp_5 R1, rp_6 R1, rp_7 R1, rp_8 R1, rp_9 R1, rp_10 R1, rp_11 R1, rp_12 R1, rp_13 R1, rp_14 R1, rp_15 R1, rp_21 R1, rp_22 R1, rp_23 R1, rp_24 R1, rp_25 R1]
  refine loopN (P := fun k => allb (rdk σ (nh σ) z) k = true → ∀ (v w : Int) (h' : AH), v = rdR σ (nh σ) z k → w = (nh σ : Int) - 1 - k → Rp (rdS σ (nh σ) z k) A em F h' → X 1 [some (.ref (A 4 0)), none, some (.int (Int32.ofInt v)), some (.int (Int32.ofInt w)), none, none] [] h' 0 0) (nh σ) ?_ ?_ rfl _ _ _ rfl (by omega) R1
  · rintro e v w h2 rfl rfl R2
    have b1 := rdR_b σ (nh σ) hz (nh σ)
    have I2 := rdS_iv I (by omega) _ (Nat.le_refl _) e
    have H := hQ _ h2 (rdS_pub σ (nh σ) z (nh σ)) I2 R2 (fun _ => rfl)
    refine hX _ _ _ _ _ _ ?_
    repeat' (first | (exfalso; omega) | (simp (disch := omega) only [↓f_aload_n_0_r, ↓f_aload_n_0_n, ↓f_aload_n_0_v, ↓f_invv_0, ↓f_iload_n_1, ↓f_istore_n_2, ↓f_getf, kG_0, kG_o, ↓e_iconst, ↓f_isub, ↓f_istore_n_3, ↓f_nop, ↓f_iload_n_3, ↓f_if, ↓f_invv_1, ↓f_cast_r, ↓f_cast_n, ↓f_cast_v, ↓f_astore_4_r, ↓f_astore_4_n, ↓f_astore_4_v, ↓f_aload_4_r, ↓f_aload_4_n, ↓f_aload_4_v, kG_4, ↓f_icmp, ↓f_iload_n_2, ↓e_bipush, ↓f_irem, ↓f_istore_5, ↓f_iload_5, kG_1, ↓f_iret, ↓e_null, ↓f_goto, ↓f_invv_2, ↓f_idiv, ↓f_iinc_3, wide_n, wide_i, wide_r, wide_u, wide_l, wide_v, mk_0, mk_1, mk_n, ax_0, ax_1, ax_2, ax_3, rf_s, rf_n, isK_, isK_o, castS_r, storS_r, go_, qc_l, qc_r, toL_s, toL_n, hlist_0, hlist_1, catsum_0, catsum_i, catsum_r, catsum_n, catsum_l, catsum_v, argL_n, fillL_0, fillL_s, argL_0, argL_i, argL_r, argL_u, argL_v, hup_s, ret_i, ret_1, ret_0, rt_o, rt_a, nr_i, nr_o, nr_a, nr_z1, nr_z0, ft_i, ft_o, ft_on, ft_ov, ft_a, ft_an, ft_z1, ft_z0, cI_eq, cI_ne, cI_lt, cI_ge, cI_gt, cI_le, forall_const, and_true, true_and, not_true_eq_false, not_false_eq_true, List.nil_append, Nat.reduceAdd, Nat.reduceSub, Nat.reduceLeDiff, Nat.reduceLT, Nat.reduceEqDiff, List.length_cons, List.length_nil, List.set_cons_zero, List.set_cons_succ, reduceIte, true_implies, false_implies, imp_self, true_or, or_true, Nat.le_refl, eq_self, sg116_0, g116_0, lv116_0, sg116_1, g116_1, lv116_1, sg116_2, g116_2, lv116_2, sg116_3, g116_3, lv116_3, sg116_4, g116_4, lv116_4, sg116_5, g116_5, lv116_5, sg116_6, g116_6, lv116_6, sg116_7, g116_7, lv116_7, sg116_8, g116_8, lv116_8, sg116_9, g116_9, lv116_9, rt_116, ml_116, bc_116, bs_116, bc_126, bs_126, bc_68, bs_68, bc_73, bs_73, bc_181, bs_181, i_add, i_sub, i_mul, i_neg, i_nat, i_zero, i_b8, i_s16, i_tnc, i_lt, i_le, i_eq, i_in, Int.reduceNeg, Int.toNat_natCast, Int.reduceLT, Int.reduceLE, Int.reduceAdd, Int.reduceSub, Int.reduceMul, Int.reduceToNat, Int.reduceEq, Int.cast_ofNat_Int, Classical.not_not, reduceCtorEq, ca_, Option.some.injEq, forall_eq', i_shr, i_shl, i_div, ft_zb, nr_zb, ret_b, rp_0 R2, rp_1 R2, rp_2 R2, rp_3 R2, rp_4 R2, rp_5 R2, rp_6 R2, rp_7 R2, rp_8 R2, rp_9 R2, rp_10 R2, rp_11 R2, rp_12 R2, rp_13 R2, rp_14 R2, rp_15 R2, rp_21 R2, rp_22 R2, rp_23 R2, rp_24 R2, rp_25 R2]) | (refine qI H ?_) | (refine ⟨by omega, ?_⟩) | (refine ⟨fun _ => ?_, fun _ => ?_⟩) | (intro _) | (refine hX _ _ _ _ _ _ ?_))
    all_goals simp [rdO, e, b2, *]
  · rintro k hk ih e v w h2 rfl hw R2
    have b1 := rdR_b σ (nh σ) hz k
    have I2 := rdS_iv I (by omega) k (by omega) e
    have ei : w = ((nh σ - 1 - k : Nat) : Int) := by omega
    have p2 := rdS_pub σ (nh σ) z k
    have s1 : rdS σ (nh σ) z k 12 0 0 = σ 12 0 0 := pub_i p2 (by omega) (by omega)
    have s2 : rdS σ (nh σ) z k 13 0 0 = σ 13 0 0 := pub_i p2 (by omega) (by omega)
    have s3' : rdS σ (nh σ) z k 23 (nh σ - 1 - k) 3 = σ 23 (nh σ - 1 - k) 3 := pub_i p2 (by omega) (by omega)
    have s4 := iv_hh I2 (i := nh σ - 1 - k) (by omega)
    have b2' := t10 (rdR σ (nh σ) z k)
    have eD : rdR σ (nh σ) z k - (rdR σ (nh σ) z k).tdiv 10 * 10 = rdD σ (nh σ) z k := rfl
    have hlast : rdk σ (nh σ) z k = false → ∀ h3, Rp (rdS σ (nh σ) z k) A em F h3 → Q (.inl (some (.int (Int32.ofInt 0)))) h3 := fun c h3 R3 => by
      have e0 : rdO σ z = false := by unfold rdO; rw [allb_f hk c]; rfl
      have H := hQ _ h3 p2 I2 R3 (fun q => by rw [e0] at q; cases q)
      rw [e0] at H
      exact H
    rw [eD] at b2'
    subst ei
    refine hX _ _ _ _ _ _ ?_
    by_cases c : σ 23 (nh σ - 1 - k) 3 = 1
    · by_cases c2 : 0 ≤ rdD σ (nh σ) z k ∧ rdD σ (nh σ) z k ≤ σ 12 0 0
      · have e2 : allb (rdk σ (nh σ) z) (k + 1) = true := by simp only [allb, e, rdk, Bool.true_and, decide_eq_true_eq]; exact fun _ => c2
        have R4 : ∀ h3, Rp (s3 (rdS σ (nh σ) z k) (4 + 5) 0 (nh σ - 1 - k) (rdD σ (nh σ) z k - 1)) A em F h3 → Rp (rdS σ (nh σ) z (k + 1)) A em F h3 := fun h3 q => by simp only [rdS, c, if_true]; exact q
        have e3 : rdR σ (nh σ) z (k + 1) = (rdR σ (nh σ) z k).tdiv 10 := by simp only [rdR, c, if_true]
        by_cases c3 : rdD σ (nh σ) z k = 0
        · repeat' (first | (exfalso; omega) | ((with_reducible show cal _ _ _ _ _ _); first | (refine getR13 (i := nh σ - 1 - k) (by omega) R2 (by omega) (by omega) ?_) | (refine size_okZ (by omega) (rp_12 R2) ?_; rw [s1]) | (refine put_ok (P := 4) (z := rdD σ (nh σ) z k - 1) (by omega) R2 I2 (by omega) (by omega) (by omega) (by rw [rfo_m (by omega), rf_n]) fun h4 q4 => ?_) ) | (simp (disch := omega) only [↓f_aload_n_0_r, ↓f_aload_n_0_n, ↓f_aload_n_0_v, ↓f_invv_0, ↓f_iload_n_1, ↓f_istore_n_2, ↓f_getf, kG_0, kG_o, ↓e_iconst, ↓f_isub, ↓f_istore_n_3, ↓f_nop, ↓f_iload_n_3, ↓f_if, ↓f_invv_1, ↓f_cast_r, ↓f_cast_n, ↓f_cast_v, ↓f_astore_4_r, ↓f_astore_4_n, ↓f_astore_4_v, ↓f_aload_4_r, ↓f_aload_4_n, ↓f_aload_4_v, kG_4, ↓f_icmp, ↓f_iload_n_2, ↓e_bipush, ↓f_irem, ↓f_istore_5, ↓f_iload_5, kG_1, ↓f_iret, ↓e_null, ↓f_goto, ↓f_invv_2, ↓f_idiv, ↓f_iinc_3, wide_n, wide_i, wide_r, wide_u, wide_l, wide_v, mk_0, mk_1, mk_n, ax_0, ax_1, ax_2, ax_3, rf_s, rf_n, isK_, isK_o, castS_r, storS_r, go_, qc_l, qc_r, toL_s, toL_n, hlist_0, hlist_1, catsum_0, catsum_i, catsum_r, catsum_n, catsum_l, catsum_v, argL_n, fillL_0, fillL_s, argL_0, argL_i, argL_r, argL_u, argL_v, hup_s, ret_i, ret_1, ret_0, rt_o, rt_a, nr_i, nr_o, nr_a, nr_z1, nr_z0, ft_i, ft_o, ft_on, ft_ov, ft_a, ft_an, ft_z1, ft_z0, cI_eq, cI_ne, cI_lt, cI_ge, cI_gt, cI_le, forall_const, and_true, true_and, not_true_eq_false, not_false_eq_true, List.nil_append, Nat.reduceAdd, Nat.reduceSub, Nat.reduceLeDiff, Nat.reduceLT, Nat.reduceEqDiff, List.length_cons, List.length_nil, List.set_cons_zero, List.set_cons_succ, reduceIte, true_implies, false_implies, imp_self, true_or, or_true, Nat.le_refl, eq_self, sg116_0, g116_0, lv116_0, sg116_1, g116_1, lv116_1, sg116_2, g116_2, lv116_2, sg116_3, g116_3, lv116_3, sg116_4, g116_4, lv116_4, sg116_5, g116_5, lv116_5, sg116_6, g116_6, lv116_6, sg116_7, g116_7, lv116_7, sg116_8, g116_8, lv116_8, sg116_9, g116_9, lv116_9, rt_116, ml_116, bc_116, bs_116, bc_126, bs_126, bc_68, bs_68, bc_73, bs_73, bc_181, bs_181, i_add, i_sub, i_mul, i_neg, i_nat, i_zero, i_b8, i_s16, i_tnc, i_lt, i_le, i_eq, i_in, Int.reduceNeg, Int.toNat_natCast, Int.reduceLT, Int.reduceLE, Int.reduceAdd, Int.reduceSub, Int.reduceMul, Int.reduceToNat, Int.reduceEq, Int.cast_ofNat_Int, Classical.not_not, reduceCtorEq, ca_, Option.some.injEq, forall_eq', i_shr, i_shl, i_div, ft_zb, nr_zb, ret_b, rp_0 R2, rp_1 R2, rp_2 R2, rp_3 R2, rp_4 R2, rp_5 R2, rp_6 R2, rp_7 R2, rp_8 R2, rp_9 R2, rp_10 R2, rp_11 R2, rp_12 R2, rp_13 R2, rp_14 R2, rp_15 R2, rp_21 R2, rp_22 R2, rp_23 R2, rp_24 R2, rp_25 R2, i_tdiv, eD, s3', c, c3]) | (refine ih e2 _ _ _ e3.symm (by omega) (R4 _ q4)) | (refine ⟨by omega, ?_⟩) | (refine ⟨fun _ => ?_, fun _ => ?_⟩) | (intro _) | (refine hX _ _ _ _ _ _ ?_))
        · repeat' (first | (exfalso; omega) | ((with_reducible show cal _ _ _ _ _ _); first | (refine getR13 (i := nh σ - 1 - k) (by omega) R2 (by omega) (by omega) ?_) | (refine size_okZ (by omega) (rp_12 R2) ?_; rw [s1]) | (refine getZ12 (by omega) R2 (by omega) (by omega) (by omega) ?_) | (refine put_ok (P := 4) (z := rdD σ (nh σ) z k - 1) (by omega) R2 I2 (by omega) (by omega) (by omega) (by rw [rfo_s (by omega), rf_s]) fun h4 q4 => ?_) ) | (simp (disch := omega) only [↓f_aload_n_0_r, ↓f_aload_n_0_n, ↓f_aload_n_0_v, ↓f_invv_0, ↓f_iload_n_1, ↓f_istore_n_2, ↓f_getf, kG_0, kG_o, ↓e_iconst, ↓f_isub, ↓f_istore_n_3, ↓f_nop, ↓f_iload_n_3, ↓f_if, ↓f_invv_1, ↓f_cast_r, ↓f_cast_n, ↓f_cast_v, ↓f_astore_4_r, ↓f_astore_4_n, ↓f_astore_4_v, ↓f_aload_4_r, ↓f_aload_4_n, ↓f_aload_4_v, kG_4, ↓f_icmp, ↓f_iload_n_2, ↓e_bipush, ↓f_irem, ↓f_istore_5, ↓f_iload_5, kG_1, ↓f_iret, ↓e_null, ↓f_goto, ↓f_invv_2, ↓f_idiv, ↓f_iinc_3, wide_n, wide_i, wide_r, wide_u, wide_l, wide_v, mk_0, mk_1, mk_n, ax_0, ax_1, ax_2, ax_3, rf_s, rf_n, isK_, isK_o, castS_r, storS_r, go_, qc_l, qc_r, toL_s, toL_n, hlist_0, hlist_1, catsum_0, catsum_i, catsum_r, catsum_n, catsum_l, catsum_v, argL_n, fillL_0, fillL_s, argL_0, argL_i, argL_r, argL_u, argL_v, hup_s, ret_i, ret_1, ret_0, rt_o, rt_a, nr_i, nr_o, nr_a, nr_z1, nr_z0, ft_i, ft_o, ft_on, ft_ov, ft_a, ft_an, ft_z1, ft_z0, cI_eq, cI_ne, cI_lt, cI_ge, cI_gt, cI_le, forall_const, and_true, true_and, not_true_eq_false, not_false_eq_true, List.nil_append, Nat.reduceAdd, Nat.reduceSub, Nat.reduceLeDiff, Nat.reduceLT, Nat.reduceEqDiff, List.length_cons, List.length_nil, List.set_cons_zero, List.set_cons_succ, reduceIte, true_implies, false_implies, imp_self, true_or, or_true, Nat.le_refl, eq_self, sg116_0, g116_0, lv116_0, sg116_1, g116_1, lv116_1, sg116_2, g116_2, lv116_2, sg116_3, g116_3, lv116_3, sg116_4, g116_4, lv116_4, sg116_5, g116_5, lv116_5, sg116_6, g116_6, lv116_6, sg116_7, g116_7, lv116_7, sg116_8, g116_8, lv116_8, sg116_9, g116_9, lv116_9, rt_116, ml_116, bc_116, bs_116, bc_126, bs_126, bc_68, bs_68, bc_73, bs_73, bc_181, bs_181, i_add, i_sub, i_mul, i_neg, i_nat, i_zero, i_b8, i_s16, i_tnc, i_lt, i_le, i_eq, i_in, Int.reduceNeg, Int.toNat_natCast, Int.reduceLT, Int.reduceLE, Int.reduceAdd, Int.reduceSub, Int.reduceMul, Int.reduceToNat, Int.reduceEq, Int.cast_ofNat_Int, Classical.not_not, reduceCtorEq, ca_, Option.some.injEq, forall_eq', i_shr, i_shl, i_div, ft_zb, nr_zb, ret_b, rp_0 R2, rp_1 R2, rp_2 R2, rp_3 R2, rp_4 R2, rp_5 R2, rp_6 R2, rp_7 R2, rp_8 R2, rp_9 R2, rp_10 R2, rp_11 R2, rp_12 R2, rp_13 R2, rp_14 R2, rp_15 R2, rp_21 R2, rp_22 R2, rp_23 R2, rp_24 R2, rp_25 R2, i_tdiv, eD, s3', c]) | (refine ih e2 _ _ _ e3.symm (by omega) (R4 _ q4)) | (refine ⟨by omega, ?_⟩) | (refine ⟨fun _ => ?_, fun _ => ?_⟩) | (intro _) | (refine hX _ _ _ _ _ _ ?_))
      · have cf : rdk σ (nh σ) z k = false := by simp only [rdk, decide_eq_false_iff_not]; exact fun q => c2 (q c)
        repeat' (first | (exfalso; omega) | ((with_reducible show cal _ _ _ _ _ _); first | (refine getR13 (i := nh σ - 1 - k) (by omega) R2 (by omega) (by omega) ?_) | (refine size_okZ (by omega) (rp_12 R2) ?_; rw [s1]) ) | (simp (disch := omega) only [↓f_aload_n_0_r, ↓f_aload_n_0_n, ↓f_aload_n_0_v, ↓f_invv_0, ↓f_iload_n_1, ↓f_istore_n_2, ↓f_getf, kG_0, kG_o, ↓e_iconst, ↓f_isub, ↓f_istore_n_3, ↓f_nop, ↓f_iload_n_3, ↓f_if, ↓f_invv_1, ↓f_cast_r, ↓f_cast_n, ↓f_cast_v, ↓f_astore_4_r, ↓f_astore_4_n, ↓f_astore_4_v, ↓f_aload_4_r, ↓f_aload_4_n, ↓f_aload_4_v, kG_4, ↓f_icmp, ↓f_iload_n_2, ↓e_bipush, ↓f_irem, ↓f_istore_5, ↓f_iload_5, kG_1, ↓f_iret, ↓e_null, ↓f_goto, ↓f_invv_2, ↓f_idiv, ↓f_iinc_3, wide_n, wide_i, wide_r, wide_u, wide_l, wide_v, mk_0, mk_1, mk_n, ax_0, ax_1, ax_2, ax_3, rf_s, rf_n, isK_, isK_o, castS_r, storS_r, go_, qc_l, qc_r, toL_s, toL_n, hlist_0, hlist_1, catsum_0, catsum_i, catsum_r, catsum_n, catsum_l, catsum_v, argL_n, fillL_0, fillL_s, argL_0, argL_i, argL_r, argL_u, argL_v, hup_s, ret_i, ret_1, ret_0, rt_o, rt_a, nr_i, nr_o, nr_a, nr_z1, nr_z0, ft_i, ft_o, ft_on, ft_ov, ft_a, ft_an, ft_z1, ft_z0, cI_eq, cI_ne, cI_lt, cI_ge, cI_gt, cI_le, forall_const, and_true, true_and, not_true_eq_false, not_false_eq_true, List.nil_append, Nat.reduceAdd, Nat.reduceSub, Nat.reduceLeDiff, Nat.reduceLT, Nat.reduceEqDiff, List.length_cons, List.length_nil, List.set_cons_zero, List.set_cons_succ, reduceIte, true_implies, false_implies, imp_self, true_or, or_true, Nat.le_refl, eq_self, sg116_0, g116_0, lv116_0, sg116_1, g116_1, lv116_1, sg116_2, g116_2, lv116_2, sg116_3, g116_3, lv116_3, sg116_4, g116_4, lv116_4, sg116_5, g116_5, lv116_5, sg116_6, g116_6, lv116_6, sg116_7, g116_7, lv116_7, sg116_8, g116_8, lv116_8, sg116_9, g116_9, lv116_9, rt_116, ml_116, bc_116, bs_116, bc_126, bs_126, bc_68, bs_68, bc_73, bs_73, bc_181, bs_181, i_add, i_sub, i_mul, i_neg, i_nat, i_zero, i_b8, i_s16, i_tnc, i_lt, i_le, i_eq, i_in, Int.reduceNeg, Int.toNat_natCast, Int.reduceLT, Int.reduceLE, Int.reduceAdd, Int.reduceSub, Int.reduceMul, Int.reduceToNat, Int.reduceEq, Int.cast_ofNat_Int, Classical.not_not, reduceCtorEq, ca_, Option.some.injEq, forall_eq', i_shr, i_shl, i_div, ft_zb, nr_zb, ret_b, rp_0 R2, rp_1 R2, rp_2 R2, rp_3 R2, rp_4 R2, rp_5 R2, rp_6 R2, rp_7 R2, rp_8 R2, rp_9 R2, rp_10 R2, rp_11 R2, rp_12 R2, rp_13 R2, rp_14 R2, rp_15 R2, rp_21 R2, rp_22 R2, rp_23 R2, rp_24 R2, rp_25 R2, i_tdiv, eD, s3', c]) | (exact hlast cf _ R2) | (refine ⟨by omega, ?_⟩) | (refine ⟨fun _ => ?_, fun _ => ?_⟩) | (intro _) | (refine hX _ _ _ _ _ _ ?_))
    · have e2 : allb (rdk σ (nh σ) z) (k + 1) = true := by simp only [allb, e, rdk, Bool.true_and, decide_eq_true_eq]; exact fun q => absurd q c
      have R4 : ∀ h3, Rp (rdS σ (nh σ) z k) A em F h3 → Rp (rdS σ (nh σ) z (k + 1)) A em F h3 := fun h3 q => by simp only [rdS, c, if_false]; exact q
      have e3 : rdR σ (nh σ) z (k + 1) = rdR σ (nh σ) z k := by simp only [rdR, c, if_false]
      repeat' (first | (exfalso; omega) | ((with_reducible show cal _ _ _ _ _ _); first | (refine getR13 (i := nh σ - 1 - k) (by omega) R2 (by omega) (by omega) ?_) ) | (simp (disch := omega) only [↓f_aload_n_0_r, ↓f_aload_n_0_n, ↓f_aload_n_0_v, ↓f_invv_0, ↓f_iload_n_1, ↓f_istore_n_2, ↓f_getf, kG_0, kG_o, ↓e_iconst, ↓f_isub, ↓f_istore_n_3, ↓f_nop, ↓f_iload_n_3, ↓f_if, ↓f_invv_1, ↓f_cast_r, ↓f_cast_n, ↓f_cast_v, ↓f_astore_4_r, ↓f_astore_4_n, ↓f_astore_4_v, ↓f_aload_4_r, ↓f_aload_4_n, ↓f_aload_4_v, kG_4, ↓f_icmp, ↓f_iload_n_2, ↓e_bipush, ↓f_irem, ↓f_istore_5, ↓f_iload_5, kG_1, ↓f_iret, ↓e_null, ↓f_goto, ↓f_invv_2, ↓f_idiv, ↓f_iinc_3, wide_n, wide_i, wide_r, wide_u, wide_l, wide_v, mk_0, mk_1, mk_n, ax_0, ax_1, ax_2, ax_3, rf_s, rf_n, isK_, isK_o, castS_r, storS_r, go_, qc_l, qc_r, toL_s, toL_n, hlist_0, hlist_1, catsum_0, catsum_i, catsum_r, catsum_n, catsum_l, catsum_v, argL_n, fillL_0, fillL_s, argL_0, argL_i, argL_r, argL_u, argL_v, hup_s, ret_i, ret_1, ret_0, rt_o, rt_a, nr_i, nr_o, nr_a, nr_z1, nr_z0, ft_i, ft_o, ft_on, ft_ov, ft_a, ft_an, ft_z1, ft_z0, cI_eq, cI_ne, cI_lt, cI_ge, cI_gt, cI_le, forall_const, and_true, true_and, not_true_eq_false, not_false_eq_true, List.nil_append, Nat.reduceAdd, Nat.reduceSub, Nat.reduceLeDiff, Nat.reduceLT, Nat.reduceEqDiff, List.length_cons, List.length_nil, List.set_cons_zero, List.set_cons_succ, reduceIte, true_implies, false_implies, imp_self, true_or, or_true, Nat.le_refl, eq_self, sg116_0, g116_0, lv116_0, sg116_1, g116_1, lv116_1, sg116_2, g116_2, lv116_2, sg116_3, g116_3, lv116_3, sg116_4, g116_4, lv116_4, sg116_5, g116_5, lv116_5, sg116_6, g116_6, lv116_6, sg116_7, g116_7, lv116_7, sg116_8, g116_8, lv116_8, sg116_9, g116_9, lv116_9, rt_116, ml_116, bc_116, bs_116, bc_126, bs_126, bc_68, bs_68, bc_73, bs_73, bc_181, bs_181, i_add, i_sub, i_mul, i_neg, i_nat, i_zero, i_b8, i_s16, i_tnc, i_lt, i_le, i_eq, i_in, Int.reduceNeg, Int.toNat_natCast, Int.reduceLT, Int.reduceLE, Int.reduceAdd, Int.reduceSub, Int.reduceMul, Int.reduceToNat, Int.reduceEq, Int.cast_ofNat_Int, Classical.not_not, reduceCtorEq, ca_, Option.some.injEq, forall_eq', i_shr, i_shl, i_div, ft_zb, nr_zb, ret_b, rp_0 R2, rp_1 R2, rp_2 R2, rp_3 R2, rp_4 R2, rp_5 R2, rp_6 R2, rp_7 R2, rp_8 R2, rp_9 R2, rp_10 R2, rp_11 R2, rp_12 R2, rp_13 R2, rp_14 R2, rp_15 R2, rp_21 R2, rp_22 R2, rp_23 R2, rp_24 R2, rp_25 R2, s3', c]) | (refine ih e2 _ _ _ e3.symm (by omega) (R4 _ R2)) | (refine ⟨by omega, ?_⟩) | (refine ⟨fun _ => ?_, fun _ => ?_⟩) | (intro _) | (refine hX _ _ _ _ _ _ ?_))
end TrialL
