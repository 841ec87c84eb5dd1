/-! THE CLASS: a new object -/
section NewObj
variable {em mi ic : Nat} {h : AH}
theorem coI {d q : Nat} {Q : RS → AH → Prop} (hd : 1 ≤ d) (hQ : Q (.inl none) h) : cal (DD em mi ic) d 197 [.ref q] h Q := by
  obtain ⟨d, rfl, hd⟩ := dep hd; refine cal_go (Nat.le_of_ble_eq_true rfl) fun X hX => ?_
  repeat' (first | (simp (disch := omega) only [↓f_aload_n_0_r, ↓f_aload_n_0_n, ↓f_aload_n_0_v, e_invp, e_invp4, popR_, ci_0, cv_0, ↓f_ret, wide_n, wide_i, wide_r, wide_u, wide_l, wide_v, mk_0, mk_1, mk_n, ax_0, ax_1, ax_2, ax_3, rf_s, rf_n, isK_, isK_o, castS_r, storS_r, go_, qc_l, qc_r, toL_s, toL_n, hlist_0, hlist_1, catsum_0, catsum_i, catsum_r, catsum_n, catsum_l, catsum_v, argL_n, fillL_0, fillL_s, argL_0, argL_i, argL_r, argL_u, argL_v, hup_s, ret_i, ret_1, ret_0, rt_o, rt_a, nr_i, nr_o, nr_a, nr_z1, nr_z0, ft_i, ft_o, ft_on, ft_ov, ft_a, ft_an, ft_z1, ft_z0, cI_eq, cI_ne, cI_lt, cI_ge, cI_gt, cI_le, forall_const, and_true, true_and, not_true_eq_false, not_false_eq_true, List.nil_append, Nat.reduceAdd, Nat.reduceSub, Nat.reduceLeDiff, Nat.reduceLT, Nat.reduceEqDiff, List.length_cons, List.length_nil, List.set_cons_zero, List.set_cons_succ, reduceIte, true_implies, false_implies, imp_self, true_or, or_true, Nat.le_refl, eq_self, sg197_0, g197_0, lv197_0, rt_197, ml_197, bc_197, bs_197, i_add, i_sub, i_mul, i_neg, i_nat, i_zero, i_b8, i_s16, i_tnc, i_lt, i_le, i_eq, i_in, Int.reduceNeg, Int.toNat_natCast, Int.reduceLT, Int.reduceLE, Int.reduceAdd, Int.reduceSub, Int.reduceMul, Int.reduceToNat, Int.reduceEq, Int.cast_ofNat_Int, Classical.not_not, reduceCtorEq, ca_, Option.some.injEq, forall_eq', i_shr, i_shl, i_div, ft_zb, nr_zb, ret_b]) | (exact hQ) | (refine ⟨by omega, ?_⟩) | (refine ⟨fun _ => ?_, fun _ => ?_⟩) | (intro _) | (refine hX _ _ _ _ _ _ ?_))
theorem alI {d q : Nat} {Q : RS → AH → Prop} (hd : 3 ≤ d) (hq : h q = some (.inr (4, [iV 0, .null, iV 0]))) (hQ : Q (.inl none) (hup h q (.inr (4, [iV 0, .ref em, iV 0])))) : cal (DD em mi ic) d 59 [.ref q] h Q := by
  have I2 : ∀ d Q, 2 ≤ d → Q (.inl none) (hup h q (.inr (4, [iV 0, .null, iV 0]))) → cal (DD em mi ic) d 141 [.ref q] h Q := by
    intro d Q hd hQ
    obtain ⟨d, rfl, hd⟩ := dep hd; refine cal_go (Nat.le_of_ble_eq_true rfl) fun X hX => ?_
    repeat' (first | (simp (disch := omega) only [↓f_aload_n_0_r, ↓f_aload_n_0_n, ↓f_aload_n_0_v, e_invp, e_invp4, popR_, ci_0, cv_0, ↓e_iconst, ↓f_putf, kP_, ↓f_ret, wide_n, wide_i, wide_r, wide_u, wide_l, wide_v, mk_0, mk_1, mk_n, ax_0, ax_1, ax_2, ax_3, rf_s, rf_n, isK_, isK_o, castS_r, storS_r, go_, qc_l, qc_r, toL_s, toL_n, hlist_0, hlist_1, catsum_0, catsum_i, catsum_r, catsum_n, catsum_l, catsum_v, argL_n, fillL_0, fillL_s, argL_0, argL_i, argL_r, argL_u, argL_v, hup_s, ret_i, ret_1, ret_0, rt_o, rt_a, nr_i, nr_o, nr_a, nr_z1, nr_z0, ft_i, ft_o, ft_on, ft_ov, ft_a, ft_an, ft_z1, ft_z0, cI_eq, cI_ne, cI_lt, cI_ge, cI_gt, cI_le, forall_const, and_true, true_and, not_true_eq_false, not_false_eq_true, List.nil_append, Nat.reduceAdd, Nat.reduceSub, Nat.reduceLeDiff, Nat.reduceLT, Nat.reduceEqDiff, List.length_cons, List.length_nil, List.set_cons_zero, List.set_cons_succ, reduceIte, true_implies, false_implies, imp_self, true_or, or_true, Nat.le_refl, eq_self, sg141_0, g141_0, lv141_0, rt_141, ml_141, bc_141, bs_141, bc_197, bs_197, df_4_0, i_add, i_sub, i_mul, i_neg, i_nat, i_zero, i_b8, i_s16, i_tnc, i_lt, i_le, i_eq, i_in, Int.reduceNeg, Int.toNat_natCast, Int.reduceLT, Int.reduceLE, Int.reduceAdd, Int.reduceSub, Int.reduceMul, Int.reduceToNat, Int.reduceEq, Int.cast_ofNat_Int, Classical.not_not, reduceCtorEq, ca_, Option.some.injEq, forall_eq', i_shr, i_shl, i_div, ft_zb, nr_zb, ret_b, hq]) | (refine coI (by omega) ?_) | (exact hQ) | (refine ⟨by omega, ?_⟩) | (refine ⟨fun _ => ?_, fun _ => ?_⟩) | (intro _) | (refine hX _ _ _ _ _ _ ?_))
  obtain ⟨d, rfl, hd⟩ := dep hd; refine cal_go (Nat.le_of_ble_eq_true rfl) fun X hX => ?_
  repeat' (first | (simp (disch := omega) only [↓f_aload_n_0_r, ↓f_aload_n_0_n, ↓f_aload_n_0_v, e_invp, e_invp4, popR_, ci_0, cv_0, ↓e_gets, ↓f_putf, kP_, ↓f_ret, wide_n, wide_i, wide_r, wide_u, wide_l, wide_v, mk_0, mk_1, mk_n, ax_0, ax_1, ax_2, ax_3, rf_s, rf_n, isK_, isK_o, castS_r, storS_r, go_, qc_l, qc_r, toL_s, toL_n, hlist_0, hlist_1, catsum_0, catsum_i, catsum_r, catsum_n, catsum_l, catsum_v, argL_n, fillL_0, fillL_s, argL_0, argL_i, argL_r, argL_u, argL_v, hup_s, ret_i, ret_1, ret_0, rt_o, rt_a, nr_i, nr_o, nr_a, nr_z1, nr_z0, ft_i, ft_o, ft_on, ft_ov, ft_a, ft_an, ft_z1, ft_z0, cI_eq, cI_ne, cI_lt, cI_ge, cI_gt, cI_le, forall_const, and_true, true_and, not_true_eq_false, not_false_eq_true, List.nil_append, Nat.reduceAdd, Nat.reduceSub, Nat.reduceLeDiff, Nat.reduceLT, Nat.reduceEqDiff, List.length_cons, List.length_nil, List.set_cons_zero, List.set_cons_succ, reduceIte, true_implies, false_implies, imp_self, true_or, or_true, Nat.le_refl, eq_self, sg59_0, g59_0, lv59_0, rt_59, ml_59, bc_59, bs_59, bc_141, bs_141, st_0, df_4_1, i_add, i_sub, i_mul, i_neg, i_nat, i_zero, i_b8, i_s16, i_tnc, i_lt, i_le, i_eq, i_in, Int.reduceNeg, Int.toNat_natCast, Int.reduceLT, Int.reduceLE, Int.reduceAdd, Int.reduceSub, Int.reduceMul, Int.reduceToNat, Int.reduceEq, Int.cast_ofNat_Int, Classical.not_not, reduceCtorEq, ca_, Option.some.injEq, forall_eq', i_shr, i_shl, i_div, ft_zb, nr_zb, ret_b, hq, hup_s, hup_hh, gz_0]) | (refine I2 _ _ (by omega) ?_) | (exact hQ) | (refine ⟨by omega, ?_⟩) | (refine ⟨fun _ => ?_, fun _ => ?_⟩) | (intro _) | (refine hX _ _ _ _ _ _ ?_))
theorem riverI {d q : Nat} {Q : RS → AH → Prop} (hd : 1 ≤ d) (hq : h q = some (.inr (14, [iV 0, iV 0, iV 0]))) (hQ : Q (.inl none) (hup h q (.inr (14, [iV 10, iV 0, iV 0])))) : cal (DD em mi ic) d 58 [.ref q] h Q := by
  obtain ⟨d, rfl, hd⟩ := dep hd; refine cal_go (Nat.le_of_ble_eq_true rfl) fun X hX => ?_
  repeat' (first | (simp (disch := omega) only [↓f_aload_n_0_r, ↓f_aload_n_0_n, ↓f_aload_n_0_v, e_invp, e_invp4, popR_, ci_0, cv_0, ↓e_bipush, ↓f_putf, kP_, ↓e_iconst, ↓f_ret, wide_n, wide_i, wide_r, wide_u, wide_l, wide_v, mk_0, mk_1, mk_n, ax_0, ax_1, ax_2, ax_3, rf_s, rf_n, isK_, isK_o, castS_r, storS_r, go_, qc_l, qc_r, toL_s, toL_n, hlist_0, hlist_1, catsum_0, catsum_i, catsum_r, catsum_n, catsum_l, catsum_v, argL_n, fillL_0, fillL_s, argL_0, argL_i, argL_r, argL_u, argL_v, hup_s, ret_i, ret_1, ret_0, rt_o, rt_a, nr_i, nr_o, nr_a, nr_z1, nr_z0, ft_i, ft_o, ft_on, ft_ov, ft_a, ft_an, ft_z1, ft_z0, cI_eq, cI_ne, cI_lt, cI_ge, cI_gt, cI_le, forall_const, and_true, true_and, not_true_eq_false, not_false_eq_true, List.nil_append, Nat.reduceAdd, Nat.reduceSub, Nat.reduceLeDiff, Nat.reduceLT, Nat.reduceEqDiff, List.length_cons, List.length_nil, List.set_cons_zero, List.set_cons_succ, reduceIte, true_implies, false_implies, imp_self, true_or, or_true, Nat.le_refl, eq_self, sg58_0, g58_0, lv58_0, rt_58, ml_58, bc_58, bs_58, df_14_0, df_14_1, df_14_2, i_add, i_sub, i_mul, i_neg, i_nat, i_zero, i_b8, i_s16, i_tnc, i_lt, i_le, i_eq, i_in, Int.reduceNeg, Int.toNat_natCast, Int.reduceLT, Int.reduceLE, Int.reduceAdd, Int.reduceSub, Int.reduceMul, Int.reduceToNat, Int.reduceEq, Int.cast_ofNat_Int, Classical.not_not, reduceCtorEq, ca_, Option.some.injEq, forall_eq', i_shr, i_shl, i_div, ft_zb, nr_zb, ret_b, hq, hup_s, hup_hh]) | (exact hQ) | (refine ⟨by omega, ?_⟩) | (refine ⟨fun _ => ?_, fun _ => ?_⟩) | (intro _) | (refine hX _ _ _ _ _ _ ?_))
theorem placingI {d q a b : Nat} {Q : RS → AH → Prop} (hd : 1 ≤ d) (hq : h q = some (.inr (12, [.null, .null, .null]))) (hQ : ∀ k, h k = none → Q (.inl none) (hup (hup h k (.inl (2, 6, .inr (.inr (.inr (.inr fun _ => none)))))) q (.inr (12, [.ref a, .ref b, .ref k])))) : cal (DD em mi ic) d 60 [.ref q, .ref a, .ref b] h Q := by
  obtain ⟨d, rfl, hd⟩ := dep hd; refine cal_go (Nat.le_of_ble_eq_true rfl) fun X hX => ?_
  repeat' (first | (exfalso; omega) | (simp (disch := omega) only [↓f_aload_n_0_r, ↓f_aload_n_0_n, ↓f_aload_n_0_v, e_invp, e_invp4, popR_, ci_0, cv_0, ↓e_bipush, ↓e_anewa, popI_, pop2I_, ↓f_putf, kP_, ↓f_aload_n_1_r, ↓f_aload_n_1_n, ↓f_aload_n_1_v, ↓f_aload_n_2_r, ↓f_aload_n_2_n, ↓f_aload_n_2_v, ↓f_ret, wide_n, wide_i, wide_r, wide_u, wide_l, wide_v, mk_0, mk_1, mk_n, ax_0, ax_1, ax_2, ax_3, rf_s, rf_n, isK_, isK_o, castS_r, storS_r, go_, qc_l, qc_r, toL_s, toL_n, hlist_0, hlist_1, catsum_0, catsum_i, catsum_r, catsum_n, catsum_l, catsum_v, argL_n, fillL_0, fillL_s, argL_0, argL_i, argL_r, argL_u, argL_v, hup_s, ret_i, ret_1, ret_0, rt_o, rt_a, nr_i, nr_o, nr_a, nr_z1, nr_z0, ft_i, ft_o, ft_on, ft_ov, ft_a, ft_an, ft_z1, ft_z0, cI_eq, cI_ne, cI_lt, cI_ge, cI_gt, cI_le, forall_const, and_true, true_and, not_true_eq_false, not_false_eq_true, List.nil_append, Nat.reduceAdd, Nat.reduceSub, Nat.reduceLeDiff, Nat.reduceLT, Nat.reduceEqDiff, List.length_cons, List.length_nil, List.set_cons_zero, List.set_cons_succ, reduceIte, true_implies, false_implies, imp_self, true_or, or_true, Nat.le_refl, eq_self, sg60_0, g60_0, lv60_0, rt_60, ml_60, bc_60, bs_60, df_12_2, df_12_0, df_12_1, i_add, i_sub, i_mul, i_neg, i_nat, i_zero, i_b8, i_s16, i_tnc, i_lt, i_le, i_eq, i_in, Int.reduceNeg, Int.toNat_natCast, Int.reduceLT, Int.reduceLE, Int.reduceAdd, Int.reduceSub, Int.reduceMul, Int.reduceToNat, Int.reduceEq, Int.cast_ofNat_Int, Classical.not_not, reduceCtorEq, ca_, Option.some.injEq, forall_eq', i_shr, i_shl, i_div, ft_zb, nr_zb, ret_b, hq]) | (refine fun (k : Nat) (hk : h k = none) => ?_) | (refine ⟨by omega, ?_⟩) | (refine ⟨fun _ => ?_, fun _ => ?_⟩) | (intro _) | (refine hX _ _ _ _ _ _ ?_))
  have ne : ¬ q = k := by
    rintro rfl
    rw [hq] at hk
    cases hk
  repeat' (first | (simp (disch := omega) only [↓f_aload_n_0_r, ↓f_aload_n_0_n, ↓f_aload_n_0_v, e_invp, e_invp4, popR_, ci_0, cv_0, ↓e_bipush, ↓e_anewa, popI_, pop2I_, ↓f_putf, kP_, ↓f_aload_n_1_r, ↓f_aload_n_1_n, ↓f_aload_n_1_v, ↓f_aload_n_2_r, ↓f_aload_n_2_n, ↓f_aload_n_2_v, ↓f_ret, wide_n, wide_i, wide_r, wide_u, wide_l, wide_v, mk_0, mk_1, mk_n, ax_0, ax_1, ax_2, ax_3, rf_s, rf_n, isK_, isK_o, castS_r, storS_r, go_, qc_l, qc_r, toL_s, toL_n, hlist_0, hlist_1, catsum_0, catsum_i, catsum_r, catsum_n, catsum_l, catsum_v, argL_n, fillL_0, fillL_s, argL_0, argL_i, argL_r, argL_u, argL_v, hup_s, ret_i, ret_1, ret_0, rt_o, rt_a, nr_i, nr_o, nr_a, nr_z1, nr_z0, ft_i, ft_o, ft_on, ft_ov, ft_a, ft_an, ft_z1, ft_z0, cI_eq, cI_ne, cI_lt, cI_ge, cI_gt, cI_le, forall_const, and_true, true_and, not_true_eq_false, not_false_eq_true, List.nil_append, Nat.reduceAdd, Nat.reduceSub, Nat.reduceLeDiff, Nat.reduceLT, Nat.reduceEqDiff, List.length_cons, List.length_nil, List.set_cons_zero, List.set_cons_succ, reduceIte, true_implies, false_implies, imp_self, true_or, or_true, Nat.le_refl, eq_self, sg60_0, g60_0, lv60_0, rt_60, ml_60, bc_60, bs_60, df_12_2, df_12_0, df_12_1, i_add, i_sub, i_mul, i_neg, i_nat, i_zero, i_b8, i_s16, i_tnc, i_lt, i_le, i_eq, i_in, Int.reduceNeg, Int.toNat_natCast, Int.reduceLT, Int.reduceLE, Int.reduceAdd, Int.reduceSub, Int.reduceMul, Int.reduceToNat, Int.reduceEq, Int.cast_ofNat_Int, Classical.not_not, reduceCtorEq, ca_, Option.some.injEq, forall_eq', i_shr, i_shl, i_div, ft_zb, nr_zb, ret_b, hup_n ne, hq, hup_s, hup_hh]) | (exact hQ k hk) | (refine ⟨by omega, ?_⟩) | (refine ⟨fun _ => ?_, fun _ => ?_⟩) | (intro _) | (refine hX _ _ _ _ _ _ ?_))
theorem rescueI {d q a b : Nat} {Q : RS → AH → Prop} (hd : 1 ≤ d) (hq : h q = some (.inr (13, [.null, .null, iV 0, iV 0]))) (hQ : Q (.inl none) (hup h q (.inr (13, [.ref a, .ref b, iV 1, iV 0])))) : cal (DD em mi ic) d 61 [.ref q, .ref a, .ref b] h Q := by
  obtain ⟨d, rfl, hd⟩ := dep hd; refine cal_go (Nat.le_of_ble_eq_true rfl) fun X hX => ?_
  repeat' (first | (simp (disch := omega) only [↓f_aload_n_0_r, ↓f_aload_n_0_n, ↓f_aload_n_0_v, e_invp, e_invp4, popR_, ci_0, cv_0, ↓e_iconst, ↓f_putf, kP_, ↓f_aload_n_1_r, ↓f_aload_n_1_n, ↓f_aload_n_1_v, ↓f_aload_n_2_r, ↓f_aload_n_2_n, ↓f_aload_n_2_v, ↓f_ret, wide_n, wide_i, wide_r, wide_u, wide_l, wide_v, mk_0, mk_1, mk_n, ax_0, ax_1, ax_2, ax_3, rf_s, rf_n, isK_, isK_o, castS_r, storS_r, go_, qc_l, qc_r, toL_s, toL_n, hlist_0, hlist_1, catsum_0, catsum_i, catsum_r, catsum_n, catsum_l, catsum_v, argL_n, fillL_0, fillL_s, argL_0, argL_i, argL_r, argL_u, argL_v, hup_s, ret_i, ret_1, ret_0, rt_o, rt_a, nr_i, nr_o, nr_a, nr_z1, nr_z0, ft_i, ft_o, ft_on, ft_ov, ft_a, ft_an, ft_z1, ft_z0, cI_eq, cI_ne, cI_lt, cI_ge, cI_gt, cI_le, forall_const, and_true, true_and, not_true_eq_false, not_false_eq_true, List.nil_append, Nat.reduceAdd, Nat.reduceSub, Nat.reduceLeDiff, Nat.reduceLT, Nat.reduceEqDiff, List.length_cons, List.length_nil, List.set_cons_zero, List.set_cons_succ, reduceIte, true_implies, false_implies, imp_self, true_or, or_true, Nat.le_refl, eq_self, sg61_0, g61_0, lv61_0, rt_61, ml_61, bc_61, bs_61, df_13_2, df_13_3, df_13_0, df_13_1, i_add, i_sub, i_mul, i_neg, i_nat, i_zero, i_b8, i_s16, i_tnc, i_lt, i_le, i_eq, i_in, Int.reduceNeg, Int.toNat_natCast, Int.reduceLT, Int.reduceLE, Int.reduceAdd, Int.reduceSub, Int.reduceMul, Int.reduceToNat, Int.reduceEq, Int.cast_ofNat_Int, Classical.not_not, reduceCtorEq, ca_, Option.some.injEq, forall_eq', i_shr, i_shl, i_div, ft_zb, nr_zb, ret_b, hq, hup_s, hup_hh]) | (exact hQ) | (refine ⟨by omega, ?_⟩) | (refine ⟨fun _ => ?_, fun _ => ?_⟩) | (intro _) | (refine hX _ _ _ _ _ _ ?_))
theorem askingI {d q a b c : Nat} {Q : RS → AH → Prop} (hd : 1 ≤ d) (hq : h q = some (.inr (5, [.null, .null, .null, .null, iV 0]))) (hQ : ∀ k, h k = none → Q (.inl none) (hup (hup h k (.inl (0, 6, .inl fun _ => Int32.ofInt 0))) q (.inr (5, [.ref a, .ref b, .ref c, .ref k, iV 0])))) : cal (DD em mi ic) d 62 [.ref q, .ref a, .ref b, .ref c] h Q := by
  obtain ⟨d, rfl, hd⟩ := dep hd; refine cal_go (Nat.le_of_ble_eq_true rfl) fun X hX => ?_
  repeat' (first | (exfalso; omega) | (simp (disch := omega) only [↓f_aload_n_0_r, ↓f_aload_n_0_n, ↓f_aload_n_0_v, e_invp, e_invp4, popR_, ci_0, cv_0, ↓e_bipush, ↓e_newa, popI_, pop2I_, ↓f_putf, kP_, ↓e_iconst, ↓f_aload_n_1_r, ↓f_aload_n_1_n, ↓f_aload_n_1_v, ↓f_aload_n_2_r, ↓f_aload_n_2_n, ↓f_aload_n_2_v, ↓f_aload_n_3_r, ↓f_aload_n_3_n, ↓f_aload_n_3_v, ↓f_ret, wide_n, wide_i, wide_r, wide_u, wide_l, wide_v, mk_0, mk_1, mk_n, ax_0, ax_1, ax_2, ax_3, rf_s, rf_n, isK_, isK_o, castS_r, storS_r, go_, qc_l, qc_r, toL_s, toL_n, hlist_0, hlist_1, catsum_0, catsum_i, catsum_r, catsum_n, catsum_l, catsum_v, argL_n, fillL_0, fillL_s, argL_0, argL_i, argL_r, argL_u, argL_v, hup_s, ret_i, ret_1, ret_0, rt_o, rt_a, nr_i, nr_o, nr_a, nr_z1, nr_z0, ft_i, ft_o, ft_on, ft_ov, ft_a, ft_an, ft_z1, ft_z0, cI_eq, cI_ne, cI_lt, cI_ge, cI_gt, cI_le, forall_const, and_true, true_and, not_true_eq_false, not_false_eq_true, List.nil_append, Nat.reduceAdd, Nat.reduceSub, Nat.reduceLeDiff, Nat.reduceLT, Nat.reduceEqDiff, List.length_cons, List.length_nil, List.set_cons_zero, List.set_cons_succ, reduceIte, true_implies, false_implies, imp_self, true_or, or_true, Nat.le_refl, eq_self, sg62_0, g62_0, lv62_0, rt_62, ml_62, bc_62, bs_62, df_5_3, df_5_4, df_5_0, df_5_1, df_5_2, i_add, i_sub, i_mul, i_neg, i_nat, i_zero, i_b8, i_s16, i_tnc, i_lt, i_le, i_eq, i_in, Int.reduceNeg, Int.toNat_natCast, Int.reduceLT, Int.reduceLE, Int.reduceAdd, Int.reduceSub, Int.reduceMul, Int.reduceToNat, Int.reduceEq, Int.cast_ofNat_Int, Classical.not_not, reduceCtorEq, ca_, Option.some.injEq, forall_eq', i_shr, i_shl, i_div, ft_zb, nr_zb, ret_b, hq]) | (refine fun (k : Nat) (hk : h k = none) => ?_) | (refine ⟨by omega, ?_⟩) | (refine ⟨fun _ => ?_, fun _ => ?_⟩) | (intro _) | (refine hX _ _ _ _ _ _ ?_))
  have ne : ¬ q = k := by
    rintro rfl
    rw [hq] at hk
    cases hk
  repeat' (first | (simp (disch := omega) only [↓f_aload_n_0_r, ↓f_aload_n_0_n, ↓f_aload_n_0_v, e_invp, e_invp4, popR_, ci_0, cv_0, ↓e_bipush, ↓e_newa, popI_, pop2I_, ↓f_putf, kP_, ↓e_iconst, ↓f_aload_n_1_r, ↓f_aload_n_1_n, ↓f_aload_n_1_v, ↓f_aload_n_2_r, ↓f_aload_n_2_n, ↓f_aload_n_2_v, ↓f_aload_n_3_r, ↓f_aload_n_3_n, ↓f_aload_n_3_v, ↓f_ret, wide_n, wide_i, wide_r, wide_u, wide_l, wide_v, mk_0, mk_1, mk_n, ax_0, ax_1, ax_2, ax_3, rf_s, rf_n, isK_, isK_o, castS_r, storS_r, go_, qc_l, qc_r, toL_s, toL_n, hlist_0, hlist_1, catsum_0, catsum_i, catsum_r, catsum_n, catsum_l, catsum_v, argL_n, fillL_0, fillL_s, argL_0, argL_i, argL_r, argL_u, argL_v, hup_s, ret_i, ret_1, ret_0, rt_o, rt_a, nr_i, nr_o, nr_a, nr_z1, nr_z0, ft_i, ft_o, ft_on, ft_ov, ft_a, ft_an, ft_z1, ft_z0, cI_eq, cI_ne, cI_lt, cI_ge, cI_gt, cI_le, forall_const, and_true, true_and, not_true_eq_false, not_false_eq_true, List.nil_append, Nat.reduceAdd, Nat.reduceSub, Nat.reduceLeDiff, Nat.reduceLT, Nat.reduceEqDiff, List.length_cons, List.length_nil, List.set_cons_zero, List.set_cons_succ, reduceIte, true_implies, false_implies, imp_self, true_or, or_true, Nat.le_refl, eq_self, sg62_0, g62_0, lv62_0, rt_62, ml_62, bc_62, bs_62, df_5_3, df_5_4, df_5_0, df_5_1, df_5_2, i_add, i_sub, i_mul, i_neg, i_nat, i_zero, i_b8, i_s16, i_tnc, i_lt, i_le, i_eq, i_in, Int.reduceNeg, Int.toNat_natCast, Int.reduceLT, Int.reduceLE, Int.reduceAdd, Int.reduceSub, Int.reduceMul, Int.reduceToNat, Int.reduceEq, Int.cast_ofNat_Int, Classical.not_not, reduceCtorEq, ca_, Option.some.injEq, forall_eq', i_shr, i_shl, i_div, ft_zb, nr_zb, ret_b, hup_n ne, hq, hup_s, hup_hh]) | (exact hQ k hk) | (refine ⟨by omega, ?_⟩) | (refine ⟨fun _ => ?_, fun _ => ?_⟩) | (intro _) | (refine hX _ _ _ _ _ _ ?_))
theorem larderI {d q : Nat} {Q : RS → AH → Prop} (hd : 4 ≤ d) (hq : h q = some (.inr (9, [.null, iV 0, iV 0, iV 0]))) (hQ : ∀ k, h k = none → Q (.inl none) (hup (hup h k (.inr (4, [iV 0, .ref em, iV 0]))) q (.inr (9, [.ref k, iV 0, iV 0, iV 0])))) : cal (DD em mi ic) d 63 [.ref q] h Q := by
  obtain ⟨d, rfl, hd⟩ := dep hd; refine cal_go (Nat.le_of_ble_eq_true rfl) fun X hX => ?_
  repeat' (first | (exfalso; omega) | (simp (disch := omega) only [↓f_aload_n_0_r, ↓f_aload_n_0_n, ↓f_aload_n_0_v, e_invp, e_invp4, popR_, ci_0, cv_0, ↓e_new, ↓f_dup_i, ↓f_dup_r, ↓f_dup_n, ↓f_dup_v, ↓f_putf, kP_, ↓e_iconst, ↓f_ret, wide_n, wide_i, wide_r, wide_u, wide_l, wide_v, mk_0, mk_1, mk_n, ax_0, ax_1, ax_2, ax_3, rf_s, rf_n, isK_, isK_o, castS_r, storS_r, go_, qc_l, qc_r, toL_s, toL_n, hlist_0, hlist_1, catsum_0, catsum_i, catsum_r, catsum_n, catsum_l, catsum_v, argL_n, fillL_0, fillL_s, argL_0, argL_i, argL_r, argL_u, argL_v, hup_s, ret_i, ret_1, ret_0, rt_o, rt_a, nr_i, nr_o, nr_a, nr_z1, nr_z0, ft_i, ft_o, ft_on, ft_ov, ft_a, ft_an, ft_z1, ft_z0, cI_eq, cI_ne, cI_lt, cI_ge, cI_gt, cI_le, forall_const, and_true, true_and, not_true_eq_false, not_false_eq_true, List.nil_append, Nat.reduceAdd, Nat.reduceSub, Nat.reduceLeDiff, Nat.reduceLT, Nat.reduceEqDiff, List.length_cons, List.length_nil, List.set_cons_zero, List.set_cons_succ, reduceIte, true_implies, false_implies, imp_self, true_or, or_true, Nat.le_refl, eq_self, sg63_0, g63_0, lv63_0, rt_63, ml_63, bc_63, bs_63, dd_4, bc_59, bs_59, df_9_0, df_9_1, df_9_2, df_9_3, i_add, i_sub, i_mul, i_neg, i_nat, i_zero, i_b8, i_s16, i_tnc, i_lt, i_le, i_eq, i_in, Int.reduceNeg, Int.toNat_natCast, Int.reduceLT, Int.reduceLE, Int.reduceAdd, Int.reduceSub, Int.reduceMul, Int.reduceToNat, Int.reduceEq, Int.cast_ofNat_Int, Classical.not_not, reduceCtorEq, ca_, Option.some.injEq, forall_eq', i_shr, i_shl, i_div, ft_zb, nr_zb, ret_b, hq]) | (refine fun (k : Nat) (hk : h k = none) => ?_) | (refine ⟨by omega, ?_⟩) | (refine ⟨fun _ => ?_, fun _ => ?_⟩) | (intro _) | (refine hX _ _ _ _ _ _ ?_))
  have ne : ¬ q = k := by
    rintro rfl
    rw [hq] at hk
    cases hk
  repeat' (first | (simp (disch := omega) only [↓f_aload_n_0_r, ↓f_aload_n_0_n, ↓f_aload_n_0_v, e_invp, e_invp4, popR_, ci_0, cv_0, ↓e_new, ↓f_dup_i, ↓f_dup_r, ↓f_dup_n, ↓f_dup_v, ↓f_putf, kP_, ↓e_iconst, ↓f_ret, wide_n, wide_i, wide_r, wide_u, wide_l, wide_v, mk_0, mk_1, mk_n, ax_0, ax_1, ax_2, ax_3, rf_s, rf_n, isK_, isK_o, castS_r, storS_r, go_, qc_l, qc_r, toL_s, toL_n, hlist_0, hlist_1, catsum_0, catsum_i, catsum_r, catsum_n, catsum_l, catsum_v, argL_n, fillL_0, fillL_s, argL_0, argL_i, argL_r, argL_u, argL_v, hup_s, ret_i, ret_1, ret_0, rt_o, rt_a, nr_i, nr_o, nr_a, nr_z1, nr_z0, ft_i, ft_o, ft_on, ft_ov, ft_a, ft_an, ft_z1, ft_z0, cI_eq, cI_ne, cI_lt, cI_ge, cI_gt, cI_le, forall_const, and_true, true_and, not_true_eq_false, not_false_eq_true, List.nil_append, Nat.reduceAdd, Nat.reduceSub, Nat.reduceLeDiff, Nat.reduceLT, Nat.reduceEqDiff, List.length_cons, List.length_nil, List.set_cons_zero, List.set_cons_succ, reduceIte, true_implies, false_implies, imp_self, true_or, or_true, Nat.le_refl, eq_self, sg63_0, g63_0, lv63_0, rt_63, ml_63, bc_63, bs_63, dd_4, bc_59, bs_59, df_9_0, df_9_1, df_9_2, df_9_3, i_add, i_sub, i_mul, i_neg, i_nat, i_zero, i_b8, i_s16, i_tnc, i_lt, i_le, i_eq, i_in, Int.reduceNeg, Int.toNat_natCast, Int.reduceLT, Int.reduceLE, Int.reduceAdd, Int.reduceSub, Int.reduceMul, Int.reduceToNat, Int.reduceEq, Int.cast_ofNat_Int, Classical.not_not, reduceCtorEq, ca_, Option.some.injEq, forall_eq', i_shr, i_shl, i_div, ft_zb, nr_zb, ret_b, hup_n ne, hq, hup_s, hup_hh]) | (refine alI (by omega) (hup_s _ _ _) ?_; rw [hup_hh]) | (exact hQ k hk) | (refine ⟨by omega, ?_⟩) | (refine ⟨fun _ => ?_, fun _ => ?_⟩) | (intro _) | (refine hX _ _ _ _ _ _ ?_))
theorem bulletinI {d q : Nat} {Q : RS → AH → Prop} (hd : 4 ≤ d) (hq : h q = some (.inr (6, [.null, iV 0]))) (hQ : ∀ k, h k = none → Q (.inl none) (hup (hup h k (.inr (4, [iV 0, .ref em, iV 0]))) q (.inr (6, [.ref k, iV 0])))) : cal (DD em mi ic) d 64 [.ref q] h Q := by
  obtain ⟨d, rfl, hd⟩ := dep hd; refine cal_go (Nat.le_of_ble_eq_true rfl) fun X hX => ?_
  repeat' (first | (exfalso; omega) | (simp (disch := omega) only [↓f_aload_n_0_r, ↓f_aload_n_0_n, ↓f_aload_n_0_v, e_invp, e_invp4, popR_, ci_0, cv_0, ↓e_new, ↓f_dup_i, ↓f_dup_r, ↓f_dup_n, ↓f_dup_v, ↓f_putf, kP_, ↓e_iconst, ↓f_ret, wide_n, wide_i, wide_r, wide_u, wide_l, wide_v, mk_0, mk_1, mk_n, ax_0, ax_1, ax_2, ax_3, rf_s, rf_n, isK_, isK_o, castS_r, storS_r, go_, qc_l, qc_r, toL_s, toL_n, hlist_0, hlist_1, catsum_0, catsum_i, catsum_r, catsum_n, catsum_l, catsum_v, argL_n, fillL_0, fillL_s, argL_0, argL_i, argL_r, argL_u, argL_v, hup_s, ret_i, ret_1, ret_0, rt_o, rt_a, nr_i, nr_o, nr_a, nr_z1, nr_z0, ft_i, ft_o, ft_on, ft_ov, ft_a, ft_an, ft_z1, ft_z0, cI_eq, cI_ne, cI_lt, cI_ge, cI_gt, cI_le, forall_const, and_true, true_and, not_true_eq_false, not_false_eq_true, List.nil_append, Nat.reduceAdd, Nat.reduceSub, Nat.reduceLeDiff, Nat.reduceLT, Nat.reduceEqDiff, List.length_cons, List.length_nil, List.set_cons_zero, List.set_cons_succ, reduceIte, true_implies, false_implies, imp_self, true_or, or_true, Nat.le_refl, eq_self, sg64_0, g64_0, lv64_0, rt_64, ml_64, bc_64, bs_64, dd_4, bc_59, bs_59, df_6_0, df_6_1, i_add, i_sub, i_mul, i_neg, i_nat, i_zero, i_b8, i_s16, i_tnc, i_lt, i_le, i_eq, i_in, Int.reduceNeg, Int.toNat_natCast, Int.reduceLT, Int.reduceLE, Int.reduceAdd, Int.reduceSub, Int.reduceMul, Int.reduceToNat, Int.reduceEq, Int.cast_ofNat_Int, Classical.not_not, reduceCtorEq, ca_, Option.some.injEq, forall_eq', i_shr, i_shl, i_div, ft_zb, nr_zb, ret_b, hq]) | (refine fun (k : Nat) (hk : h k = none) => ?_) | (refine ⟨by omega, ?_⟩) | (refine ⟨fun _ => ?_, fun _ => ?_⟩) | (intro _) | (refine hX _ _ _ _ _ _ ?_))
  have ne : ¬ q = k := by
    rintro rfl
    rw [hq] at hk
    cases hk
  repeat' (first | (simp (disch := omega) only [↓f_aload_n_0_r, ↓f_aload_n_0_n, ↓f_aload_n_0_v, e_invp, e_invp4, popR_, ci_0, cv_0, ↓e_new, ↓f_dup_i, ↓f_dup_r, ↓f_dup_n, ↓f_dup_v, ↓f_putf, kP_, ↓e_iconst, ↓f_ret, wide_n, wide_i, wide_r, wide_u, wide_l, wide_v, mk_0, mk_1, mk_n, ax_0, ax_1, ax_2, ax_3, rf_s, rf_n, isK_, isK_o, castS_r, storS_r, go_, qc_l, qc_r, toL_s, toL_n, hlist_0, hlist_1, catsum_0, catsum_i, catsum_r, catsum_n, catsum_l, catsum_v, argL_n, fillL_0, fillL_s, argL_0, argL_i, argL_r, argL_u, argL_v, hup_s, ret_i, ret_1, ret_0, rt_o, rt_a, nr_i, nr_o, nr_a, nr_z1, nr_z0, ft_i, ft_o, ft_on, ft_ov, ft_a, ft_an, ft_z1, ft_z0, cI_eq, cI_ne, cI_lt, cI_ge, cI_gt, cI_le, forall_const, and_true, true_and, not_true_eq_false, not_false_eq_true, List.nil_append, Nat.reduceAdd, Nat.reduceSub, Nat.reduceLeDiff, Nat.reduceLT, Nat.reduceEqDiff, List.length_cons, List.length_nil, List.set_cons_zero, List.set_cons_succ, reduceIte, true_implies, false_implies, imp_self, true_or, or_true, Nat.le_refl, eq_self, sg64_0, g64_0, lv64_0, rt_64, ml_64, bc_64, bs_64, dd_4, bc_59, bs_59, df_6_0, df_6_1, i_add, i_sub, i_mul, i_neg, i_nat, i_zero, i_b8, i_s16, i_tnc, i_lt, i_le, i_eq, i_in, Int.reduceNeg, Int.toNat_natCast, Int.reduceLT, Int.reduceLE, Int.reduceAdd, Int.reduceSub, Int.reduceMul, Int.reduceToNat, Int.reduceEq, Int.cast_ofNat_Int, Classical.not_not, reduceCtorEq, ca_, Option.some.injEq, forall_eq', i_shr, i_shl, i_div, ft_zb, nr_zb, ret_b, hup_n ne, hq, hup_s, hup_hh]) | (refine alI (by omega) (hup_s _ _ _) ?_; rw [hup_hh]) | (exact hQ k hk) | (refine ⟨by omega, ?_⟩) | (refine ⟨fun _ => ?_, fun _ => ?_⟩) | (intro _) | (refine hX _ _ _ _ _ _ ?_))
/-- cells that came, one behind the other -/
def hs : List (Nat × AE) → AH → AH
  | [], h => h
  | p :: l, h => hup (hs l h) p.1 p.2
def Al (l : List (Nat × AE)) (t : Nat) (h0 : AH) : Prop := (∀ p ∈ l, ¬ p.1 = t) ∧ (l.map Prod.fst).Nodup ∧ (∀ p ∈ l, h0 p.1 = none)
theorem hs_o {l : List (Nat × AE)} {h0 : AH} {q : Nat} (n : ∀ p ∈ l, ¬ p.1 = q) : hs l h0 q = h0 q := by
  induction l with
  | nil => rfl
  | cons p l ih =>
    simp only [hs]
    rw [hup_n (fun c => n p List.mem_cons_self c.symm)]
    exact ih fun r hr => n r (List.mem_cons_of_mem _ hr)
theorem hs_none {l : List (Nat × AE)} {h0 : AH} {q : Nat} (hq : hs l h0 q = none) : (∀ p ∈ l, ¬ p.1 = q) ∧ h0 q = none := by
  induction l with
  | nil => exact ⟨fun p hp => by simp at hp, hq⟩
  | cons p l ih =>
    simp only [hs] at hq
    by_cases c : q = p.1
    · rw [c, hup_s] at hq
      cases hq
    · rw [hup_n c] at hq
      have := ih hq
      refine ⟨fun r hr => ?_, this.2⟩
      rcases List.mem_cons.mp hr with rfl | hr
      · exact fun e => c e.symm
      · exact this.1 r hr
theorem hs_in {l : List (Nat × AE)} {h0 : AH} (nd : (l.map Prod.fst).Nodup) {p : Nat × AE} (hp : p ∈ l) : hs l h0 p.1 = some p.2 := by
  induction l with
  | nil => simp at hp
  | cons r l ih =>
    simp only [hs]
    rw [List.map_cons, List.nodup_cons] at nd
    rcases List.mem_cons.mp hp with rfl | hp
    · exact hup_s _ _ _
    · rw [hup_n]
      · exact ih nd.2 hp
      · rintro e
        exact nd.1 (e ▸ List.mem_map_of_mem hp)
theorem al_n {l : List (Nat × AE)} {t q : Nat} {h0 : AH} {c e : AE} (N : Al l t h0) (hq : hup (hs l h0) t c q = none) : Al ((q, e) :: l) t h0 ∧ hup (hup (hs l h0) t c) q e = hup (hs ((q, e) :: l) h0) t c := by
  have qt : ¬ q = t := by
    rintro rfl
    rw [hup_s] at hq
    cases hq
  rw [hup_n qt] at hq
  have H := hs_none hq
  refine ⟨⟨fun p hp => ?_, ?_, fun p hp => ?_⟩, hup_cc (fun c => qt c.symm) _ _ _⟩
  · rcases List.mem_cons.mp hp with rfl | hp
    · exact qt
    · exact N.1 p hp
  · rw [List.map_cons, List.nodup_cons]
    refine ⟨fun hm => ?_, N.2.1⟩
    obtain ⟨p, hp, e⟩ := List.mem_map.mp hm
    exact H.1 p hp e
  · rcases List.mem_cons.mp hp with rfl | hp
    · exact H.2
    · exact N.2.2 p hp
theorem al_r {l : List (Nat × AE)} {t : Nat} {h0 : AH} {c : AE} (N : Al l t h0) {p : Nat × AE} (hp : p ∈ l) : hup (hs l h0) t c p.1 = some p.2 := by
  rw [hup_n (N.1 p hp)]
  exact hs_in N.2.1 hp
theorem al_c {l : List (Nat × AE)} {t q : Nat} {h0 : AH} {e e' : AE} (N : Al ((q, e) :: l) t h0) : Al ((q, e') :: l) t h0 :=
  ⟨fun p hp => by
    rcases List.mem_cons.mp hp with rfl | hp
    · exact N.1 (q, e) List.mem_cons_self
    · exact N.1 p (List.mem_cons_of_mem _ hp), N.2.1, fun p hp => by
    rcases List.mem_cons.mp hp with rfl | hp
    · exact N.2.2 (q, e) List.mem_cons_self
    · exact N.2.2 p (List.mem_cons_of_mem _ hp)⟩
theorem al_w1 {l : List (Nat × AE)} {t q : Nat} {h0 : AH} {c e e' : AE} (N : Al ((q, e) :: l) t h0) : hup (hup (hs ((q, e) :: l) h0) t c) q e' = hup (hs ((q, e') :: l) h0) t c := by
  have qt : ¬ q = t := N.1 (q, e) List.mem_cons_self
  simp only [hs]
  rw [hup_cc (fun c => qt c.symm), hup_hh]
theorem al_w2 {l : List (Nat × AE)} {t q k : Nat} {h0 : AH} {c e e' r : AE} (N : Al ((k, r) :: (q, e) :: l) t h0) : Al ((k, r) :: (q, e') :: l) t h0 ∧ hup (hup (hs ((k, r) :: (q, e) :: l) h0) t c) q e' = hup (hs ((k, r) :: (q, e') :: l) h0) t c := by
  have qt : ¬ q = t := N.1 (q, e) (List.mem_cons_of_mem _ List.mem_cons_self)
  have kq : ¬ k = q := by
    have := N.2.1
    rw [List.map_cons, List.nodup_cons, List.map_cons] at this
    exact fun c => this.1 (by rw [c]; exact List.mem_cons_self)
  refine ⟨⟨fun p hp => ?_, N.2.1, fun p hp => ?_⟩, ?_⟩
  · rcases List.mem_cons.mp hp with rfl | hp
    · exact N.1 (k, r) List.mem_cons_self
    · rcases List.mem_cons.mp hp with rfl | hp
      · exact qt
      · exact N.1 p (List.mem_cons_of_mem _ (List.mem_cons_of_mem _ hp))
  · rcases List.mem_cons.mp hp with rfl | hp
    · exact N.2.2 (k, r) List.mem_cons_self
    · rcases List.mem_cons.mp hp with rfl | hp
      · exact N.2.2 (q, e) (List.mem_cons_of_mem _ List.mem_cons_self)
      · exact N.2.2 p (List.mem_cons_of_mem _ (List.mem_cons_of_mem _ hp))
  · simp only [hs]
    rw [hup_cc (fun c => qt c.symm), hup_cc kq, hup_hh]
theorem gd_in : ∀ {l : List Nat} {j : Nat}, j < l.length → l.getD j 0 ∈ l
  | [], j, h => by simp at h
  | a :: l, 0, _ => List.mem_cons_self
  | a :: l, j + 1, h => List.mem_cons_of_mem _ (gd_in (l := l) (by simpa using h))
theorem gd_inj : ∀ {l : List Nat}, l.Nodup → ∀ {i j : Nat}, i < l.length → j < l.length → l.getD i 0 = l.getD j 0 → i = j
  | [], _, i, j, hi, _, _ => by simp at hi
  | a :: l, _, 0, 0, _, _, _ => rfl
  | a :: l, nd, 0, j + 1, _, hj, e => by
    have h1 : a = l.getD j 0 := e
    exact absurd (h1 ▸ gd_in (by simpa using hj)) (List.nodup_cons.mp nd).1
  | a :: l, nd, i + 1, 0, hi, _, e => by
    have h1 : l.getD i 0 = a := e
    exact absurd (h1 ▸ gd_in (by simpa using hi)) (List.nodup_cons.mp nd).1
  | a :: l, nd, i + 1, j + 1, hi, hj, e => by
    have := gd_inj (List.nodup_cons.mp nd).2 (i := i) (j := j) (by simpa using hi) (by simpa using hj) e
    omega
theorem al_nd {l : List (Nat × AE)} {t : Nat} {h0 : AH} (N : Al l t h0) : (t :: l.map Prod.fst).Nodup := List.nodup_cons.mpr ⟨fun hm => by
    obtain ⟨p', hp, e⟩ := List.mem_map.mp hm
    exact N.1 p' hp e, N.2.1⟩
theorem al_h0 {l : List (Nat × AE)} {t : Nat} {h0 : AH} (N : Al l t h0) (ht : h0 t = none) : ∀ a, a ∈ t :: l.map Prod.fst → h0 a = none := fun a ha => by
  rcases List.mem_cons.mp ha with rfl | ha
  · exact ht
  · obtain ⟨p', hp, e⟩ := List.mem_map.mp ha
    rw [← e]
    exact N.2.2 p' hp
/-- a new object's numbers -/
def st0 : ST := fun k i f => if k = 1 ∧ i = 0 ∧ f = 0 then 10 else if k = 2 ∧ i = 0 ∧ f = 0 then 1 else if k = 8 ∨ k = 9 then -1 else 0
theorem st0_iv : Iv st0 := by
  refine ⟨?_, ?_, fun i hi => ?_, fun i hi => ?_, fun i hi => ?_, fun i hi => ?_, fun i hi => ?_, fun j => ?_, fun j => ?_, fun j hj => ?_⟩
  · simp [st0]
  · simp [st0]
  · simp [st0] at hi
    omega
  · simp [st0] at hi
    omega
  · simp [st0] at hi
    omega
  · simp [st0] at hi
    omega
  · simp [st0] at hi
    omega
  · simp [st0]
  · simp [st0]
  · simp [st0]
def prm : List Nat := [0, 15, 9, 12, 6, 8, 4, 2, 11, 5, 7, 10, 14, 13, 3, 1]
/-- addresses by kinds, of those in the order in which they came -/
def AL (l : List Nat) : AD := fun k _ => l.getD (prm.getD k 0) 0
theorem prm_inj : ∀ k, k ≤ 15 → ∀ k', k' ≤ 15 → prm.getD k 0 = prm.getD k' 0 → k = k' := by decide +kernel
theorem prm_lt : ∀ k, k ≤ 15 → prm.getD k 0 < 16 := by decide +kernel
set_option maxRecDepth 100000 in
theorem new_ok {d t : Nat} {h0 F : AH} {Q : RS → AH → Prop} (hd : 6 ≤ d) (ht : h0 t = none) (hF : ∀ a e, F a = some e → h0 a = some e) (hFe : F em = some emR)
    (hQ : ∀ A h', A 0 0 = t → Rp st0 A em F h' → Q (.inl none) h') : cal (DD em mi ic) d 1 [.ref t] (hup h0 t (.inr (16, [.null, .null, .null, .null, .null, .null, .null, .null, .null, .null]))) Q := by
  have N : Al [] t h0 := ⟨fun p hp => by simp at hp, List.nodup_nil, fun p hp => by simp at hp⟩
  rw [show hup h0 t = hup (hs [] h0) t from rfl]
  obtain ⟨d, rfl, hd⟩ := dep hd; refine cal_go (Nat.le_of_ble_eq_true rfl) fun X hX => ?_
  repeat' (first | (exfalso; omega) | (simp (disch := omega) only [↓f_aload_n_0_r, ↓f_aload_n_0_n, ↓f_aload_n_0_v, e_invp, e_invp4, popR_, ci_0, cv_0, ↓e_new, ↓f_dup_i, ↓f_dup_r, ↓f_dup_n, ↓f_dup_v, ↓f_astore_n_1_r, ↓f_astore_n_1_n, ↓f_astore_n_1_v, ↓f_astore_n_2_r, ↓f_astore_n_2_n, ↓f_astore_n_2_v, ↓f_astore_n_3_r, ↓f_astore_n_3_n, ↓f_astore_n_3_v, ↓f_aload_n_3_r, ↓f_aload_n_3_n, ↓f_aload_n_3_v, ↓f_aload_n_2_r, ↓f_aload_n_2_n, ↓f_aload_n_2_v, ci_2, cv_2, ↓f_astore_4_r, ↓f_astore_4_n, ↓f_astore_4_v, ↓f_aload_n_1_r, ↓f_aload_n_1_n, ↓f_aload_n_1_v, ↓f_putf, kP_, ↓f_aload_4_r, ↓f_aload_4_n, ↓f_aload_4_v, ci_3, cv_3, ↓f_ret, wide_n, wide_i, wide_r, wide_u, wide_l, wide_v, mk_0, mk_1, mk_n, ax_0, ax_1, ax_2, ax_3, rf_s, rf_n, isK_, isK_o, castS_r, storS_r, go_, qc_l, qc_r, toL_s, toL_n, hlist_0, hlist_1, catsum_0, catsum_i, catsum_r, catsum_n, catsum_l, catsum_v, argL_n, fillL_0, fillL_s, argL_0, argL_i, argL_r, argL_u, argL_v, hup_s, ret_i, ret_1, ret_0, rt_o, rt_a, nr_i, nr_o, nr_a, nr_z1, nr_z0, ft_i, ft_o, ft_on, ft_ov, ft_a, ft_an, ft_z1, ft_z0, cI_eq, cI_ne, cI_lt, cI_ge, cI_gt, cI_le, forall_const, and_true, true_and, not_true_eq_false, not_false_eq_true, List.nil_append, Nat.reduceAdd, Nat.reduceSub, Nat.reduceLeDiff, Nat.reduceLT, Nat.reduceEqDiff, List.length_cons, List.length_nil, List.set_cons_zero, List.set_cons_succ, reduceIte, true_implies, false_implies, imp_self, true_or, or_true, Nat.le_refl, eq_self, sg1_0, g1_0, lv1_0, rt_1, ml_1, bc_1, bs_1, dd_14, bc_58, bs_58, dd_4, bc_59, bs_59, dd_12, bc_60, bs_60, df_16_0, df_16_1, df_16_2, df_16_3, dd_13, bc_61, bs_61, df_16_4, df_16_5, dd_5, bc_62, bs_62, df_16_6, df_16_7, dd_9, bc_63, bs_63, df_16_8, dd_6, bc_64, bs_64, df_16_9, i_add, i_sub, i_mul, i_neg, i_nat, i_zero, i_b8, i_s16, i_tnc, i_lt, i_le, i_eq, i_in, Int.reduceNeg, Int.toNat_natCast, Int.reduceLT, Int.reduceLE, Int.reduceAdd, Int.reduceSub, Int.reduceMul, Int.reduceToNat, Int.reduceEq, Int.cast_ofNat_Int, Classical.not_not, reduceCtorEq, ca_, Option.some.injEq, forall_eq', i_shr, i_shl, i_div, ft_zb, nr_zb, ret_b, hup_s, hup_hh]) | (refine fun (r : Nat) (hr : _ = none) => ?_) | (refine ⟨by omega, ?_⟩) | (refine ⟨fun _ => ?_, fun _ => ?_⟩) | (intro _) | (refine hX _ _ _ _ _ _ ?_))
  rw [(al_n N hr).2]
  replace N := (al_n (e := .inr (14, [iV 0, iV 0, iV 0])) N hr).1
  refine riverI (by omega) (al_r N List.mem_cons_self) ?_
  rw [al_w1 N]
  replace N := al_c (e' := .inr (14, [iV 10, iV 0, iV 0])) N
  repeat' (first | (exfalso; omega) | (simp (disch := omega) only [↓f_aload_n_0_r, ↓f_aload_n_0_n, ↓f_aload_n_0_v, e_invp, e_invp4, popR_, ci_0, cv_0, ↓e_new, ↓f_dup_i, ↓f_dup_r, ↓f_dup_n, ↓f_dup_v, ↓f_astore_n_1_r, ↓f_astore_n_1_n, ↓f_astore_n_1_v, ↓f_astore_n_2_r, ↓f_astore_n_2_n, ↓f_astore_n_2_v, ↓f_astore_n_3_r, ↓f_astore_n_3_n, ↓f_astore_n_3_v, ↓f_aload_n_3_r, ↓f_aload_n_3_n, ↓f_aload_n_3_v, ↓f_aload_n_2_r, ↓f_aload_n_2_n, ↓f_aload_n_2_v, ci_2, cv_2, ↓f_astore_4_r, ↓f_astore_4_n, ↓f_astore_4_v, ↓f_aload_n_1_r, ↓f_aload_n_1_n, ↓f_aload_n_1_v, ↓f_putf, kP_, ↓f_aload_4_r, ↓f_aload_4_n, ↓f_aload_4_v, ci_3, cv_3, ↓f_ret, wide_n, wide_i, wide_r, wide_u, wide_l, wide_v, mk_0, mk_1, mk_n, ax_0, ax_1, ax_2, ax_3, rf_s, rf_n, isK_, isK_o, castS_r, storS_r, go_, qc_l, qc_r, toL_s, toL_n, hlist_0, hlist_1, catsum_0, catsum_i, catsum_r, catsum_n, catsum_l, catsum_v, argL_n, fillL_0, fillL_s, argL_0, argL_i, argL_r, argL_u, argL_v, hup_s, ret_i, ret_1, ret_0, rt_o, rt_a, nr_i, nr_o, nr_a, nr_z1, nr_z0, ft_i, ft_o, ft_on, ft_ov, ft_a, ft_an, ft_z1, ft_z0, cI_eq, cI_ne, cI_lt, cI_ge, cI_gt, cI_le, forall_const, and_true, true_and, not_true_eq_false, not_false_eq_true, List.nil_append, Nat.reduceAdd, Nat.reduceSub, Nat.reduceLeDiff, Nat.reduceLT, Nat.reduceEqDiff, List.length_cons, List.length_nil, List.set_cons_zero, List.set_cons_succ, reduceIte, true_implies, false_implies, imp_self, true_or, or_true, Nat.le_refl, eq_self, sg1_0, g1_0, lv1_0, rt_1, ml_1, bc_1, bs_1, dd_14, bc_58, bs_58, dd_4, bc_59, bs_59, dd_12, bc_60, bs_60, df_16_0, df_16_1, df_16_2, df_16_3, dd_13, bc_61, bs_61, df_16_4, df_16_5, dd_5, bc_62, bs_62, df_16_6, df_16_7, dd_9, bc_63, bs_63, df_16_8, dd_6, bc_64, bs_64, df_16_9, i_add, i_sub, i_mul, i_neg, i_nat, i_zero, i_b8, i_s16, i_tnc, i_lt, i_le, i_eq, i_in, Int.reduceNeg, Int.toNat_natCast, Int.reduceLT, Int.reduceLE, Int.reduceAdd, Int.reduceSub, Int.reduceMul, Int.reduceToNat, Int.reduceEq, Int.cast_ofNat_Int, Classical.not_not, reduceCtorEq, ca_, Option.some.injEq, forall_eq', i_shr, i_shl, i_div, ft_zb, nr_zb, ret_b, hup_s, hup_hh]) | (refine fun (ha : Nat) (hha : _ = none) => ?_) | (refine ⟨by omega, ?_⟩) | (refine ⟨fun _ => ?_, fun _ => ?_⟩) | (intro _) | (refine hX _ _ _ _ _ _ ?_))
  rw [(al_n N hha).2]
  replace N := (al_n (e := .inr (4, [iV 0, .null, iV 0])) N hha).1
  refine alI (by omega) (al_r N List.mem_cons_self) ?_
  rw [al_w1 N]
  replace N := al_c (e' := .inr (4, [iV 0, .ref em, iV 0])) N
  repeat' (first | (exfalso; omega) | (simp (disch := omega) only [↓f_aload_n_0_r, ↓f_aload_n_0_n, ↓f_aload_n_0_v, e_invp, e_invp4, popR_, ci_0, cv_0, ↓e_new, ↓f_dup_i, ↓f_dup_r, ↓f_dup_n, ↓f_dup_v, ↓f_astore_n_1_r, ↓f_astore_n_1_n, ↓f_astore_n_1_v, ↓f_astore_n_2_r, ↓f_astore_n_2_n, ↓f_astore_n_2_v, ↓f_astore_n_3_r, ↓f_astore_n_3_n, ↓f_astore_n_3_v, ↓f_aload_n_3_r, ↓f_aload_n_3_n, ↓f_aload_n_3_v, ↓f_aload_n_2_r, ↓f_aload_n_2_n, ↓f_aload_n_2_v, ci_2, cv_2, ↓f_astore_4_r, ↓f_astore_4_n, ↓f_astore_4_v, ↓f_aload_n_1_r, ↓f_aload_n_1_n, ↓f_aload_n_1_v, ↓f_putf, kP_, ↓f_aload_4_r, ↓f_aload_4_n, ↓f_aload_4_v, ci_3, cv_3, ↓f_ret, wide_n, wide_i, wide_r, wide_u, wide_l, wide_v, mk_0, mk_1, mk_n, ax_0, ax_1, ax_2, ax_3, rf_s, rf_n, isK_, isK_o, castS_r, storS_r, go_, qc_l, qc_r, toL_s, toL_n, hlist_0, hlist_1, catsum_0, catsum_i, catsum_r, catsum_n, catsum_l, catsum_v, argL_n, fillL_0, fillL_s, argL_0, argL_i, argL_r, argL_u, argL_v, hup_s, ret_i, ret_1, ret_0, rt_o, rt_a, nr_i, nr_o, nr_a, nr_z1, nr_z0, ft_i, ft_o, ft_on, ft_ov, ft_a, ft_an, ft_z1, ft_z0, cI_eq, cI_ne, cI_lt, cI_ge, cI_gt, cI_le, forall_const, and_true, true_and, not_true_eq_false, not_false_eq_true, List.nil_append, Nat.reduceAdd, Nat.reduceSub, Nat.reduceLeDiff, Nat.reduceLT, Nat.reduceEqDiff, List.length_cons, List.length_nil, List.set_cons_zero, List.set_cons_succ, reduceIte, true_implies, false_implies, imp_self, true_or, or_true, Nat.le_refl, eq_self, sg1_0, g1_0, lv1_0, rt_1, ml_1, bc_1, bs_1, dd_14, bc_58, bs_58, dd_4, bc_59, bs_59, dd_12, bc_60, bs_60, df_16_0, df_16_1, df_16_2, df_16_3, dd_13, bc_61, bs_61, df_16_4, df_16_5, dd_5, bc_62, bs_62, df_16_6, df_16_7, dd_9, bc_63, bs_63, df_16_8, dd_6, bc_64, bs_64, df_16_9, i_add, i_sub, i_mul, i_neg, i_nat, i_zero, i_b8, i_s16, i_tnc, i_lt, i_le, i_eq, i_in, Int.reduceNeg, Int.toNat_natCast, Int.reduceLT, Int.reduceLE, Int.reduceAdd, Int.reduceSub, Int.reduceMul, Int.reduceToNat, Int.reduceEq, Int.cast_ofNat_Int, Classical.not_not, reduceCtorEq, ca_, Option.some.injEq, forall_eq', i_shr, i_shl, i_div, ft_zb, nr_zb, ret_b, hup_s, hup_hh]) | (refine fun (hh : Nat) (hhh : _ = none) => ?_) | (refine ⟨by omega, ?_⟩) | (refine ⟨fun _ => ?_, fun _ => ?_⟩) | (intro _) | (refine hX _ _ _ _ _ _ ?_))
  rw [(al_n N hhh).2]
  replace N := (al_n (e := .inr (4, [iV 0, .null, iV 0])) N hhh).1
  refine alI (by omega) (al_r N List.mem_cons_self) ?_
  rw [al_w1 N]
  replace N := al_c (e' := .inr (4, [iV 0, .ref em, iV 0])) N
  repeat' (first | (exfalso; omega) | (simp (disch := omega) only [↓f_aload_n_0_r, ↓f_aload_n_0_n, ↓f_aload_n_0_v, e_invp, e_invp4, popR_, ci_0, cv_0, ↓e_new, ↓f_dup_i, ↓f_dup_r, ↓f_dup_n, ↓f_dup_v, ↓f_astore_n_1_r, ↓f_astore_n_1_n, ↓f_astore_n_1_v, ↓f_astore_n_2_r, ↓f_astore_n_2_n, ↓f_astore_n_2_v, ↓f_astore_n_3_r, ↓f_astore_n_3_n, ↓f_astore_n_3_v, ↓f_aload_n_3_r, ↓f_aload_n_3_n, ↓f_aload_n_3_v, ↓f_aload_n_2_r, ↓f_aload_n_2_n, ↓f_aload_n_2_v, ci_2, cv_2, ↓f_astore_4_r, ↓f_astore_4_n, ↓f_astore_4_v, ↓f_aload_n_1_r, ↓f_aload_n_1_n, ↓f_aload_n_1_v, ↓f_putf, kP_, ↓f_aload_4_r, ↓f_aload_4_n, ↓f_aload_4_v, ci_3, cv_3, ↓f_ret, wide_n, wide_i, wide_r, wide_u, wide_l, wide_v, mk_0, mk_1, mk_n, ax_0, ax_1, ax_2, ax_3, rf_s, rf_n, isK_, isK_o, castS_r, storS_r, go_, qc_l, qc_r, toL_s, toL_n, hlist_0, hlist_1, catsum_0, catsum_i, catsum_r, catsum_n, catsum_l, catsum_v, argL_n, fillL_0, fillL_s, argL_0, argL_i, argL_r, argL_u, argL_v, hup_s, ret_i, ret_1, ret_0, rt_o, rt_a, nr_i, nr_o, nr_a, nr_z1, nr_z0, ft_i, ft_o, ft_on, ft_ov, ft_a, ft_an, ft_z1, ft_z0, cI_eq, cI_ne, cI_lt, cI_ge, cI_gt, cI_le, forall_const, and_true, true_and, not_true_eq_false, not_false_eq_true, List.nil_append, Nat.reduceAdd, Nat.reduceSub, Nat.reduceLeDiff, Nat.reduceLT, Nat.reduceEqDiff, List.length_cons, List.length_nil, List.set_cons_zero, List.set_cons_succ, reduceIte, true_implies, false_implies, imp_self, true_or, or_true, Nat.le_refl, eq_self, sg1_0, g1_0, lv1_0, rt_1, ml_1, bc_1, bs_1, dd_14, bc_58, bs_58, dd_4, bc_59, bs_59, dd_12, bc_60, bs_60, df_16_0, df_16_1, df_16_2, df_16_3, dd_13, bc_61, bs_61, df_16_4, df_16_5, dd_5, bc_62, bs_62, df_16_6, df_16_7, dd_9, bc_63, bs_63, df_16_8, dd_6, bc_64, bs_64, df_16_9, i_add, i_sub, i_mul, i_neg, i_nat, i_zero, i_b8, i_s16, i_tnc, i_lt, i_le, i_eq, i_in, Int.reduceNeg, Int.toNat_natCast, Int.reduceLT, Int.reduceLE, Int.reduceAdd, Int.reduceSub, Int.reduceMul, Int.reduceToNat, Int.reduceEq, Int.cast_ofNat_Int, Classical.not_not, reduceCtorEq, ca_, Option.some.injEq, forall_eq', i_shr, i_shl, i_div, ft_zb, nr_zb, ret_b, hup_s, hup_hh]) | (refine fun (p : Nat) (hp : _ = none) => ?_) | (refine ⟨by omega, ?_⟩) | (refine ⟨fun _ => ?_, fun _ => ?_⟩) | (intro _) | (refine hX _ _ _ _ _ _ ?_))
  rw [(al_n N hp).2]
  replace N := (al_n (e := .inr (12, [.null, .null, .null])) N hp).1
  refine placingI (by omega) (al_r N List.mem_cons_self) fun pk_ hpk_ => ?_
  rw [(al_n N hpk_).2]
  replace N := (al_n (e := .inl (2, 6, .inr (.inr (.inr (.inr fun _ => none))))) N hpk_).1
  rw [(al_w2 N).2]
  replace N := (al_w2 (c := .inl (0, 0, .inl fun _ => 0)) (e' := .inr (12, [.ref hh, .ref ha, .ref pk_])) N).1
  repeat' (first | (exfalso; omega) | (simp (disch := omega) only [↓f_aload_n_0_r, ↓f_aload_n_0_n, ↓f_aload_n_0_v, e_invp, e_invp4, popR_, ci_0, cv_0, ↓e_new, ↓f_dup_i, ↓f_dup_r, ↓f_dup_n, ↓f_dup_v, ↓f_astore_n_1_r, ↓f_astore_n_1_n, ↓f_astore_n_1_v, ↓f_astore_n_2_r, ↓f_astore_n_2_n, ↓f_astore_n_2_v, ↓f_astore_n_3_r, ↓f_astore_n_3_n, ↓f_astore_n_3_v, ↓f_aload_n_3_r, ↓f_aload_n_3_n, ↓f_aload_n_3_v, ↓f_aload_n_2_r, ↓f_aload_n_2_n, ↓f_aload_n_2_v, ci_2, cv_2, ↓f_astore_4_r, ↓f_astore_4_n, ↓f_astore_4_v, ↓f_aload_n_1_r, ↓f_aload_n_1_n, ↓f_aload_n_1_v, ↓f_putf, kP_, ↓f_aload_4_r, ↓f_aload_4_n, ↓f_aload_4_v, ci_3, cv_3, ↓f_ret, wide_n, wide_i, wide_r, wide_u, wide_l, wide_v, mk_0, mk_1, mk_n, ax_0, ax_1, ax_2, ax_3, rf_s, rf_n, isK_, isK_o, castS_r, storS_r, go_, qc_l, qc_r, toL_s, toL_n, hlist_0, hlist_1, catsum_0, catsum_i, catsum_r, catsum_n, catsum_l, catsum_v, argL_n, fillL_0, fillL_s, argL_0, argL_i, argL_r, argL_u, argL_v, hup_s, ret_i, ret_1, ret_0, rt_o, rt_a, nr_i, nr_o, nr_a, nr_z1, nr_z0, ft_i, ft_o, ft_on, ft_ov, ft_a, ft_an, ft_z1, ft_z0, cI_eq, cI_ne, cI_lt, cI_ge, cI_gt, cI_le, forall_const, and_true, true_and, not_true_eq_false, not_false_eq_true, List.nil_append, Nat.reduceAdd, Nat.reduceSub, Nat.reduceLeDiff, Nat.reduceLT, Nat.reduceEqDiff, List.length_cons, List.length_nil, List.set_cons_zero, List.set_cons_succ, reduceIte, true_implies, false_implies, imp_self, true_or, or_true, Nat.le_refl, eq_self, sg1_0, g1_0, lv1_0, rt_1, ml_1, bc_1, bs_1, dd_14, bc_58, bs_58, dd_4, bc_59, bs_59, dd_12, bc_60, bs_60, df_16_0, df_16_1, df_16_2, df_16_3, dd_13, bc_61, bs_61, df_16_4, df_16_5, dd_5, bc_62, bs_62, df_16_6, df_16_7, dd_9, bc_63, bs_63, df_16_8, dd_6, bc_64, bs_64, df_16_9, i_add, i_sub, i_mul, i_neg, i_nat, i_zero, i_b8, i_s16, i_tnc, i_lt, i_le, i_eq, i_in, Int.reduceNeg, Int.toNat_natCast, Int.reduceLT, Int.reduceLE, Int.reduceAdd, Int.reduceSub, Int.reduceMul, Int.reduceToNat, Int.reduceEq, Int.cast_ofNat_Int, Classical.not_not, reduceCtorEq, ca_, Option.some.injEq, forall_eq', i_shr, i_shl, i_div, ft_zb, nr_zb, ret_b, hup_s, hup_hh]) | (refine fun (s : Nat) (hs : _ = none) => ?_) | (refine ⟨by omega, ?_⟩) | (refine ⟨fun _ => ?_, fun _ => ?_⟩) | (intro _) | (refine hX _ _ _ _ _ _ ?_))
  rw [(al_n N hs).2]
  replace N := (al_n (e := .inr (4, [iV 0, .null, iV 0])) N hs).1
  refine alI (by omega) (al_r N List.mem_cons_self) ?_
  rw [al_w1 N]
  replace N := al_c (e' := .inr (4, [iV 0, .ref em, iV 0])) N
  repeat' (first | (exfalso; omega) | (simp (disch := omega) only [↓f_aload_n_0_r, ↓f_aload_n_0_n, ↓f_aload_n_0_v, e_invp, e_invp4, popR_, ci_0, cv_0, ↓e_new, ↓f_dup_i, ↓f_dup_r, ↓f_dup_n, ↓f_dup_v, ↓f_astore_n_1_r, ↓f_astore_n_1_n, ↓f_astore_n_1_v, ↓f_astore_n_2_r, ↓f_astore_n_2_n, ↓f_astore_n_2_v, ↓f_astore_n_3_r, ↓f_astore_n_3_n, ↓f_astore_n_3_v, ↓f_aload_n_3_r, ↓f_aload_n_3_n, ↓f_aload_n_3_v, ↓f_aload_n_2_r, ↓f_aload_n_2_n, ↓f_aload_n_2_v, ci_2, cv_2, ↓f_astore_4_r, ↓f_astore_4_n, ↓f_astore_4_v, ↓f_aload_n_1_r, ↓f_aload_n_1_n, ↓f_aload_n_1_v, ↓f_putf, kP_, ↓f_aload_4_r, ↓f_aload_4_n, ↓f_aload_4_v, ci_3, cv_3, ↓f_ret, wide_n, wide_i, wide_r, wide_u, wide_l, wide_v, mk_0, mk_1, mk_n, ax_0, ax_1, ax_2, ax_3, rf_s, rf_n, isK_, isK_o, castS_r, storS_r, go_, qc_l, qc_r, toL_s, toL_n, hlist_0, hlist_1, catsum_0, catsum_i, catsum_r, catsum_n, catsum_l, catsum_v, argL_n, fillL_0, fillL_s, argL_0, argL_i, argL_r, argL_u, argL_v, hup_s, ret_i, ret_1, ret_0, rt_o, rt_a, nr_i, nr_o, nr_a, nr_z1, nr_z0, ft_i, ft_o, ft_on, ft_ov, ft_a, ft_an, ft_z1, ft_z0, cI_eq, cI_ne, cI_lt, cI_ge, cI_gt, cI_le, forall_const, and_true, true_and, not_true_eq_false, not_false_eq_true, List.nil_append, Nat.reduceAdd, Nat.reduceSub, Nat.reduceLeDiff, Nat.reduceLT, Nat.reduceEqDiff, List.length_cons, List.length_nil, List.set_cons_zero, List.set_cons_succ, reduceIte, true_implies, false_implies, imp_self, true_or, or_true, Nat.le_refl, eq_self, sg1_0, g1_0, lv1_0, rt_1, ml_1, bc_1, bs_1, dd_14, bc_58, bs_58, dd_4, bc_59, bs_59, dd_12, bc_60, bs_60, df_16_0, df_16_1, df_16_2, df_16_3, dd_13, bc_61, bs_61, df_16_4, df_16_5, dd_5, bc_62, bs_62, df_16_6, df_16_7, dd_9, bc_63, bs_63, df_16_8, dd_6, bc_64, bs_64, df_16_9, i_add, i_sub, i_mul, i_neg, i_nat, i_zero, i_b8, i_s16, i_tnc, i_lt, i_le, i_eq, i_in, Int.reduceNeg, Int.toNat_natCast, Int.reduceLT, Int.reduceLE, Int.reduceAdd, Int.reduceSub, Int.reduceMul, Int.reduceToNat, Int.reduceEq, Int.cast_ofNat_Int, Classical.not_not, reduceCtorEq, ca_, Option.some.injEq, forall_eq', i_shr, i_shl, i_div, ft_zb, nr_zb, ret_b, hup_s, hup_hh]) | (refine fun (re : Nat) (hre : _ = none) => ?_) | (refine ⟨by omega, ?_⟩) | (refine ⟨fun _ => ?_, fun _ => ?_⟩) | (intro _) | (refine hX _ _ _ _ _ _ ?_))
  rw [(al_n N hre).2]
  replace N := (al_n (e := .inr (13, [.null, .null, iV 0, iV 0])) N hre).1
  refine rescueI (by omega) (al_r N List.mem_cons_self) ?_
  rw [al_w1 N]
  replace N := al_c (e' := .inr (13, [.ref r, .ref hh, iV 1, iV 0])) N
  repeat' (first | (exfalso; omega) | (simp (disch := omega) only [↓f_aload_n_0_r, ↓f_aload_n_0_n, ↓f_aload_n_0_v, e_invp, e_invp4, popR_, ci_0, cv_0, ↓e_new, ↓f_dup_i, ↓f_dup_r, ↓f_dup_n, ↓f_dup_v, ↓f_astore_n_1_r, ↓f_astore_n_1_n, ↓f_astore_n_1_v, ↓f_astore_n_2_r, ↓f_astore_n_2_n, ↓f_astore_n_2_v, ↓f_astore_n_3_r, ↓f_astore_n_3_n, ↓f_astore_n_3_v, ↓f_aload_n_3_r, ↓f_aload_n_3_n, ↓f_aload_n_3_v, ↓f_aload_n_2_r, ↓f_aload_n_2_n, ↓f_aload_n_2_v, ci_2, cv_2, ↓f_astore_4_r, ↓f_astore_4_n, ↓f_astore_4_v, ↓f_aload_n_1_r, ↓f_aload_n_1_n, ↓f_aload_n_1_v, ↓f_putf, kP_, ↓f_aload_4_r, ↓f_aload_4_n, ↓f_aload_4_v, ci_3, cv_3, ↓f_ret, wide_n, wide_i, wide_r, wide_u, wide_l, wide_v, mk_0, mk_1, mk_n, ax_0, ax_1, ax_2, ax_3, rf_s, rf_n, isK_, isK_o, castS_r, storS_r, go_, qc_l, qc_r, toL_s, toL_n, hlist_0, hlist_1, catsum_0, catsum_i, catsum_r, catsum_n, catsum_l, catsum_v, argL_n, fillL_0, fillL_s, argL_0, argL_i, argL_r, argL_u, argL_v, hup_s, ret_i, ret_1, ret_0, rt_o, rt_a, nr_i, nr_o, nr_a, nr_z1, nr_z0, ft_i, ft_o, ft_on, ft_ov, ft_a, ft_an, ft_z1, ft_z0, cI_eq, cI_ne, cI_lt, cI_ge, cI_gt, cI_le, forall_const, and_true, true_and, not_true_eq_false, not_false_eq_true, List.nil_append, Nat.reduceAdd, Nat.reduceSub, Nat.reduceLeDiff, Nat.reduceLT, Nat.reduceEqDiff, List.length_cons, List.length_nil, List.set_cons_zero, List.set_cons_succ, reduceIte, true_implies, false_implies, imp_self, true_or, or_true, Nat.le_refl, eq_self, sg1_0, g1_0, lv1_0, rt_1, ml_1, bc_1, bs_1, dd_14, bc_58, bs_58, dd_4, bc_59, bs_59, dd_12, bc_60, bs_60, df_16_0, df_16_1, df_16_2, df_16_3, dd_13, bc_61, bs_61, df_16_4, df_16_5, dd_5, bc_62, bs_62, df_16_6, df_16_7, dd_9, bc_63, bs_63, df_16_8, dd_6, bc_64, bs_64, df_16_9, i_add, i_sub, i_mul, i_neg, i_nat, i_zero, i_b8, i_s16, i_tnc, i_lt, i_le, i_eq, i_in, Int.reduceNeg, Int.toNat_natCast, Int.reduceLT, Int.reduceLE, Int.reduceAdd, Int.reduceSub, Int.reduceMul, Int.reduceToNat, Int.reduceEq, Int.cast_ofNat_Int, Classical.not_not, reduceCtorEq, ca_, Option.some.injEq, forall_eq', i_shr, i_shl, i_div, ft_zb, nr_zb, ret_b, hup_s, hup_hh]) | (refine fun (as_ : Nat) (has_ : _ = none) => ?_) | (refine ⟨by omega, ?_⟩) | (refine ⟨fun _ => ?_, fun _ => ?_⟩) | (intro _) | (refine hX _ _ _ _ _ _ ?_))
  rw [(al_n N has_).2]
  replace N := (al_n (e := .inr (5, [.null, .null, .null, .null, iV 0])) N has_).1
  refine askingI (by omega) (al_r N List.mem_cons_self) fun ak_ hak_ => ?_
  rw [(al_n N hak_).2]
  replace N := (al_n (e := .inl (0, 6, .inl fun _ => Int32.ofInt 0)) N hak_).1
  rw [(al_w2 N).2]
  replace N := (al_w2 (c := .inl (0, 0, .inl fun _ => 0)) (e' := .inr (5, [.ref hh, .ref ha, .ref p, .ref ak_, iV 0])) N).1
  repeat' (first | (exfalso; omega) | (simp (disch := omega) only [↓f_aload_n_0_r, ↓f_aload_n_0_n, ↓f_aload_n_0_v, e_invp, e_invp4, popR_, ci_0, cv_0, ↓e_new, ↓f_dup_i, ↓f_dup_r, ↓f_dup_n, ↓f_dup_v, ↓f_astore_n_1_r, ↓f_astore_n_1_n, ↓f_astore_n_1_v, ↓f_astore_n_2_r, ↓f_astore_n_2_n, ↓f_astore_n_2_v, ↓f_astore_n_3_r, ↓f_astore_n_3_n, ↓f_astore_n_3_v, ↓f_aload_n_3_r, ↓f_aload_n_3_n, ↓f_aload_n_3_v, ↓f_aload_n_2_r, ↓f_aload_n_2_n, ↓f_aload_n_2_v, ci_2, cv_2, ↓f_astore_4_r, ↓f_astore_4_n, ↓f_astore_4_v, ↓f_aload_n_1_r, ↓f_aload_n_1_n, ↓f_aload_n_1_v, ↓f_putf, kP_, ↓f_aload_4_r, ↓f_aload_4_n, ↓f_aload_4_v, ci_3, cv_3, ↓f_ret, wide_n, wide_i, wide_r, wide_u, wide_l, wide_v, mk_0, mk_1, mk_n, ax_0, ax_1, ax_2, ax_3, rf_s, rf_n, isK_, isK_o, castS_r, storS_r, go_, qc_l, qc_r, toL_s, toL_n, hlist_0, hlist_1, catsum_0, catsum_i, catsum_r, catsum_n, catsum_l, catsum_v, argL_n, fillL_0, fillL_s, argL_0, argL_i, argL_r, argL_u, argL_v, hup_s, ret_i, ret_1, ret_0, rt_o, rt_a, nr_i, nr_o, nr_a, nr_z1, nr_z0, ft_i, ft_o, ft_on, ft_ov, ft_a, ft_an, ft_z1, ft_z0, cI_eq, cI_ne, cI_lt, cI_ge, cI_gt, cI_le, forall_const, and_true, true_and, not_true_eq_false, not_false_eq_true, List.nil_append, Nat.reduceAdd, Nat.reduceSub, Nat.reduceLeDiff, Nat.reduceLT, Nat.reduceEqDiff, List.length_cons, List.length_nil, List.set_cons_zero, List.set_cons_succ, reduceIte, true_implies, false_implies, imp_self, true_or, or_true, Nat.le_refl, eq_self, sg1_0, g1_0, lv1_0, rt_1, ml_1, bc_1, bs_1, dd_14, bc_58, bs_58, dd_4, bc_59, bs_59, dd_12, bc_60, bs_60, df_16_0, df_16_1, df_16_2, df_16_3, dd_13, bc_61, bs_61, df_16_4, df_16_5, dd_5, bc_62, bs_62, df_16_6, df_16_7, dd_9, bc_63, bs_63, df_16_8, dd_6, bc_64, bs_64, df_16_9, i_add, i_sub, i_mul, i_neg, i_nat, i_zero, i_b8, i_s16, i_tnc, i_lt, i_le, i_eq, i_in, Int.reduceNeg, Int.toNat_natCast, Int.reduceLT, Int.reduceLE, Int.reduceAdd, Int.reduceSub, Int.reduceMul, Int.reduceToNat, Int.reduceEq, Int.cast_ofNat_Int, Classical.not_not, reduceCtorEq, ca_, Option.some.injEq, forall_eq', i_shr, i_shl, i_div, ft_zb, nr_zb, ret_b, hup_s, hup_hh]) | (refine fun (tr : Nat) (htr : _ = none) => ?_) | (refine ⟨by omega, ?_⟩) | (refine ⟨fun _ => ?_, fun _ => ?_⟩) | (intro _) | (refine hX _ _ _ _ _ _ ?_))
  rw [(al_n N htr).2]
  replace N := (al_n (e := .inr (12, [.null, .null, .null])) N htr).1
  refine placingI (by omega) (al_r N List.mem_cons_self) fun tk_ htk_ => ?_
  rw [(al_n N htk_).2]
  replace N := (al_n (e := .inl (2, 6, .inr (.inr (.inr (.inr fun _ => none))))) N htk_).1
  rw [(al_w2 N).2]
  replace N := (al_w2 (c := .inl (0, 0, .inl fun _ => 0)) (e' := .inr (12, [.ref hh, .ref ha, .ref tk_])) N).1
  repeat' (first | (exfalso; omega) | (simp (disch := omega) only [↓f_aload_n_0_r, ↓f_aload_n_0_n, ↓f_aload_n_0_v, e_invp, e_invp4, popR_, ci_0, cv_0, ↓e_new, ↓f_dup_i, ↓f_dup_r, ↓f_dup_n, ↓f_dup_v, ↓f_astore_n_1_r, ↓f_astore_n_1_n, ↓f_astore_n_1_v, ↓f_astore_n_2_r, ↓f_astore_n_2_n, ↓f_astore_n_2_v, ↓f_astore_n_3_r, ↓f_astore_n_3_n, ↓f_astore_n_3_v, ↓f_aload_n_3_r, ↓f_aload_n_3_n, ↓f_aload_n_3_v, ↓f_aload_n_2_r, ↓f_aload_n_2_n, ↓f_aload_n_2_v, ci_2, cv_2, ↓f_astore_4_r, ↓f_astore_4_n, ↓f_astore_4_v, ↓f_aload_n_1_r, ↓f_aload_n_1_n, ↓f_aload_n_1_v, ↓f_putf, kP_, ↓f_aload_4_r, ↓f_aload_4_n, ↓f_aload_4_v, ci_3, cv_3, ↓f_ret, wide_n, wide_i, wide_r, wide_u, wide_l, wide_v, mk_0, mk_1, mk_n, ax_0, ax_1, ax_2, ax_3, rf_s, rf_n, isK_, isK_o, castS_r, storS_r, go_, qc_l, qc_r, toL_s, toL_n, hlist_0, hlist_1, catsum_0, catsum_i, catsum_r, catsum_n, catsum_l, catsum_v, argL_n, fillL_0, fillL_s, argL_0, argL_i, argL_r, argL_u, argL_v, hup_s, ret_i, ret_1, ret_0, rt_o, rt_a, nr_i, nr_o, nr_a, nr_z1, nr_z0, ft_i, ft_o, ft_on, ft_ov, ft_a, ft_an, ft_z1, ft_z0, cI_eq, cI_ne, cI_lt, cI_ge, cI_gt, cI_le, forall_const, and_true, true_and, not_true_eq_false, not_false_eq_true, List.nil_append, Nat.reduceAdd, Nat.reduceSub, Nat.reduceLeDiff, Nat.reduceLT, Nat.reduceEqDiff, List.length_cons, List.length_nil, List.set_cons_zero, List.set_cons_succ, reduceIte, true_implies, false_implies, imp_self, true_or, or_true, Nat.le_refl, eq_self, sg1_0, g1_0, lv1_0, rt_1, ml_1, bc_1, bs_1, dd_14, bc_58, bs_58, dd_4, bc_59, bs_59, dd_12, bc_60, bs_60, df_16_0, df_16_1, df_16_2, df_16_3, dd_13, bc_61, bs_61, df_16_4, df_16_5, dd_5, bc_62, bs_62, df_16_6, df_16_7, dd_9, bc_63, bs_63, df_16_8, dd_6, bc_64, bs_64, df_16_9, i_add, i_sub, i_mul, i_neg, i_nat, i_zero, i_b8, i_s16, i_tnc, i_lt, i_le, i_eq, i_in, Int.reduceNeg, Int.toNat_natCast, Int.reduceLT, Int.reduceLE, Int.reduceAdd, Int.reduceSub, Int.reduceMul, Int.reduceToNat, Int.reduceEq, Int.cast_ofNat_Int, Classical.not_not, reduceCtorEq, ca_, Option.some.injEq, forall_eq', i_shr, i_shl, i_div, ft_zb, nr_zb, ret_b, hup_s, hup_hh]) | (refine fun (la : Nat) (hla : _ = none) => ?_) | (refine ⟨by omega, ?_⟩) | (refine ⟨fun _ => ?_, fun _ => ?_⟩) | (intro _) | (refine hX _ _ _ _ _ _ ?_))
  rw [(al_n N hla).2]
  replace N := (al_n (e := .inr (9, [.null, iV 0, iV 0, iV 0])) N hla).1
  refine larderI (by omega) (al_r N List.mem_cons_self) fun ll_ hll_ => ?_
  rw [(al_n N hll_).2]
  replace N := (al_n (e := .inr (4, [iV 0, .ref em, iV 0])) N hll_).1
  rw [(al_w2 N).2]
  replace N := (al_w2 (c := .inl (0, 0, .inl fun _ => 0)) (e' := .inr (9, [.ref ll_, iV 0, iV 0, iV 0])) N).1
  repeat' (first | (exfalso; omega) | (simp (disch := omega) only [↓f_aload_n_0_r, ↓f_aload_n_0_n, ↓f_aload_n_0_v, e_invp, e_invp4, popR_, ci_0, cv_0, ↓e_new, ↓f_dup_i, ↓f_dup_r, ↓f_dup_n, ↓f_dup_v, ↓f_astore_n_1_r, ↓f_astore_n_1_n, ↓f_astore_n_1_v, ↓f_astore_n_2_r, ↓f_astore_n_2_n, ↓f_astore_n_2_v, ↓f_astore_n_3_r, ↓f_astore_n_3_n, ↓f_astore_n_3_v, ↓f_aload_n_3_r, ↓f_aload_n_3_n, ↓f_aload_n_3_v, ↓f_aload_n_2_r, ↓f_aload_n_2_n, ↓f_aload_n_2_v, ci_2, cv_2, ↓f_astore_4_r, ↓f_astore_4_n, ↓f_astore_4_v, ↓f_aload_n_1_r, ↓f_aload_n_1_n, ↓f_aload_n_1_v, ↓f_putf, kP_, ↓f_aload_4_r, ↓f_aload_4_n, ↓f_aload_4_v, ci_3, cv_3, ↓f_ret, wide_n, wide_i, wide_r, wide_u, wide_l, wide_v, mk_0, mk_1, mk_n, ax_0, ax_1, ax_2, ax_3, rf_s, rf_n, isK_, isK_o, castS_r, storS_r, go_, qc_l, qc_r, toL_s, toL_n, hlist_0, hlist_1, catsum_0, catsum_i, catsum_r, catsum_n, catsum_l, catsum_v, argL_n, fillL_0, fillL_s, argL_0, argL_i, argL_r, argL_u, argL_v, hup_s, ret_i, ret_1, ret_0, rt_o, rt_a, nr_i, nr_o, nr_a, nr_z1, nr_z0, ft_i, ft_o, ft_on, ft_ov, ft_a, ft_an, ft_z1, ft_z0, cI_eq, cI_ne, cI_lt, cI_ge, cI_gt, cI_le, forall_const, and_true, true_and, not_true_eq_false, not_false_eq_true, List.nil_append, Nat.reduceAdd, Nat.reduceSub, Nat.reduceLeDiff, Nat.reduceLT, Nat.reduceEqDiff, List.length_cons, List.length_nil, List.set_cons_zero, List.set_cons_succ, reduceIte, true_implies, false_implies, imp_self, true_or, or_true, Nat.le_refl, eq_self, sg1_0, g1_0, lv1_0, rt_1, ml_1, bc_1, bs_1, dd_14, bc_58, bs_58, dd_4, bc_59, bs_59, dd_12, bc_60, bs_60, df_16_0, df_16_1, df_16_2, df_16_3, dd_13, bc_61, bs_61, df_16_4, df_16_5, dd_5, bc_62, bs_62, df_16_6, df_16_7, dd_9, bc_63, bs_63, df_16_8, dd_6, bc_64, bs_64, df_16_9, i_add, i_sub, i_mul, i_neg, i_nat, i_zero, i_b8, i_s16, i_tnc, i_lt, i_le, i_eq, i_in, Int.reduceNeg, Int.toNat_natCast, Int.reduceLT, Int.reduceLE, Int.reduceAdd, Int.reduceSub, Int.reduceMul, Int.reduceToNat, Int.reduceEq, Int.cast_ofNat_Int, Classical.not_not, reduceCtorEq, ca_, Option.some.injEq, forall_eq', i_shr, i_shl, i_div, ft_zb, nr_zb, ret_b, hup_s, hup_hh]) | (refine fun (bu : Nat) (hbu : _ = none) => ?_) | (refine ⟨by omega, ?_⟩) | (refine ⟨fun _ => ?_, fun _ => ?_⟩) | (intro _) | (refine hX _ _ _ _ _ _ ?_))
  rw [(al_n N hbu).2]
  replace N := (al_n (e := .inr (6, [.null, iV 0])) N hbu).1
  refine bulletinI (by omega) (al_r N List.mem_cons_self) fun bl_ hbl_ => ?_
  rw [(al_n N hbl_).2]
  replace N := (al_n (e := .inr (4, [iV 0, .ref em, iV 0])) N hbl_).1
  rw [(al_w2 N).2]
  replace N := (al_w2 (c := .inl (0, 0, .inl fun _ => 0)) (e' := .inr (6, [.ref bl_, iV 0])) N).1
  have nd : ([t, bl_, bu, ll_, la, tk_, tr, ak_, as_, re, s, pk_, p, hh, ha, r] : List Nat).Nodup := al_nd N
  have hn0 : ∀ a, a ∈ ([t, bl_, bu, ll_, la, tk_, tr, ak_, as_, re, s, pk_, p, hh, ha, r] : List Nat) → h0 a = none := al_h0 N ht
  have Fn : ∀ a, h0 a = none → F a = none := fun a ha => by
    cases c : F a with
    | none => rfl
    | some e =>
      rw [hF _ _ c] at ha
      cases ha
  have lv0 : ∀ k i, lv st0 k i → k ≤ 15 ∧ i = 0 := fun k i hl => by
    rcases hl with hl | hl | hl
    · exact hl
    · have h3 := hl.2.2
      simp only [st0, show ¬ (k - 10 = 1 ∧ 0 = 0 ∧ 0 = 0) by omega, show ¬ (k - 10 = 2 ∧ 0 = 0 ∧ 0 = 0) by omega, show ¬ (k - 10 = 8 ∨ k - 10 = 9) by omega, if_false] at h3
      omega
    · have h3 := hl.2.2.2
      simp only [st0, show ¬ (k - 20 = 1 ∧ 0 = 0 ∧ 0 = 0) by omega, show ¬ (k - 20 = 2 ∧ 0 = 0 ∧ 0 = 0) by omega, show ¬ (k - 20 = 8 ∨ k - 20 = 9) by omega, if_false] at h3
      omega
  repeat' (first | (simp (disch := omega) only [↓f_aload_n_0_r, ↓f_aload_n_0_n, ↓f_aload_n_0_v, e_invp, e_invp4, popR_, ci_0, cv_0, ↓e_new, ↓f_dup_i, ↓f_dup_r, ↓f_dup_n, ↓f_dup_v, ↓f_astore_n_1_r, ↓f_astore_n_1_n, ↓f_astore_n_1_v, ↓f_astore_n_2_r, ↓f_astore_n_2_n, ↓f_astore_n_2_v, ↓f_astore_n_3_r, ↓f_astore_n_3_n, ↓f_astore_n_3_v, ↓f_aload_n_3_r, ↓f_aload_n_3_n, ↓f_aload_n_3_v, ↓f_aload_n_2_r, ↓f_aload_n_2_n, ↓f_aload_n_2_v, ci_2, cv_2, ↓f_astore_4_r, ↓f_astore_4_n, ↓f_astore_4_v, ↓f_aload_n_1_r, ↓f_aload_n_1_n, ↓f_aload_n_1_v, ↓f_putf, kP_, ↓f_aload_4_r, ↓f_aload_4_n, ↓f_aload_4_v, ci_3, cv_3, ↓f_ret, wide_n, wide_i, wide_r, wide_u, wide_l, wide_v, mk_0, mk_1, mk_n, ax_0, ax_1, ax_2, ax_3, rf_s, rf_n, isK_, isK_o, castS_r, storS_r, go_, qc_l, qc_r, toL_s, toL_n, hlist_0, hlist_1, catsum_0, catsum_i, catsum_r, catsum_n, catsum_l, catsum_v, argL_n, fillL_0, fillL_s, argL_0, argL_i, argL_r, argL_u, argL_v, hup_s, ret_i, ret_1, ret_0, rt_o, rt_a, nr_i, nr_o, nr_a, nr_z1, nr_z0, ft_i, ft_o, ft_on, ft_ov, ft_a, ft_an, ft_z1, ft_z0, cI_eq, cI_ne, cI_lt, cI_ge, cI_gt, cI_le, forall_const, and_true, true_and, not_true_eq_false, not_false_eq_true, List.nil_append, Nat.reduceAdd, Nat.reduceSub, Nat.reduceLeDiff, Nat.reduceLT, Nat.reduceEqDiff, List.length_cons, List.length_nil, List.set_cons_zero, List.set_cons_succ, reduceIte, true_implies, false_implies, imp_self, true_or, or_true, Nat.le_refl, eq_self, sg1_0, g1_0, lv1_0, rt_1, ml_1, bc_1, bs_1, dd_14, bc_58, bs_58, dd_4, bc_59, bs_59, dd_12, bc_60, bs_60, df_16_0, df_16_1, df_16_2, df_16_3, dd_13, bc_61, bs_61, df_16_4, df_16_5, dd_5, bc_62, bs_62, df_16_6, df_16_7, dd_9, bc_63, bs_63, df_16_8, dd_6, bc_64, bs_64, df_16_9, i_add, i_sub, i_mul, i_neg, i_nat, i_zero, i_b8, i_s16, i_tnc, i_lt, i_le, i_eq, i_in, Int.reduceNeg, Int.toNat_natCast, Int.reduceLT, Int.reduceLE, Int.reduceAdd, Int.reduceSub, Int.reduceMul, Int.reduceToNat, Int.reduceEq, Int.cast_ofNat_Int, Classical.not_not, reduceCtorEq, ca_, Option.some.injEq, forall_eq', i_shr, i_shl, i_div, ft_zb, nr_zb, ret_b, hup_s, hup_hh]) | (refine hQ (AL [t, bl_, bu, ll_, la, tk_, tr, ak_, as_, re, s, pk_, p, hh, ha, r]) _ rfl ⟨fun k i hl => ?_, fun k i k' i' hl hl' e => ?_, hFe, fun a e ha => ?_, fun k i hl => ?_⟩) | (refine ⟨by omega, ?_⟩) | (refine ⟨fun _ => ?_, fun _ => ?_⟩) | (intro _) | (refine hX _ _ _ _ _ _ ?_))
  · obtain ⟨hk, rfl⟩ := lv0 k i hl
    have : k = 0 ∨ k = 1 ∨ k = 2 ∨ k = 3 ∨ k = 4 ∨ k = 5 ∨ k = 6 ∨ k = 7 ∨ k = 8 ∨ k = 9 ∨ k = 10 ∨ k = 11 ∨ k = 12 ∨ k = 13 ∨ k = 14 ∨ k = 15 := by omega
    rcases this with rfl | rfl | rfl | rfl | rfl | rfl | rfl | rfl | rfl | rfl | rfl | rfl | rfl | rfl | rfl | rfl
    · exact hup_s _ _ _
    · exact al_r N (p := (r, .inr (14, [iV 10, iV 0, iV 0]))) (by simp only [List.mem_cons, true_or, or_true])
    · exact al_r N (p := (re, .inr (13, [.ref r, .ref hh, iV 1, iV 0]))) (by simp only [List.mem_cons, true_or, or_true])
    · exact al_r N (p := (p, .inr (12, [.ref hh, .ref ha, .ref pk_]))) (by simp only [List.mem_cons, true_or, or_true])
    · exact al_r N (p := (tr, .inr (12, [.ref hh, .ref ha, .ref tk_]))) (by simp only [List.mem_cons, true_or, or_true])
    · exact al_r N (p := (as_, .inr (5, [.ref hh, .ref ha, .ref p, .ref ak_, iV 0]))) (by simp only [List.mem_cons, true_or, or_true])
    · exact al_r N (p := (la, .inr (9, [.ref ll_, iV 0, iV 0, iV 0]))) (by simp only [List.mem_cons, true_or, or_true])
    · exact al_r N (p := (bu, .inr (6, [.ref bl_, iV 0]))) (by simp only [List.mem_cons, true_or, or_true])
    · exact al_r N (p := (pk_, .inl (2, 6, .inr (.inr (.inr (.inr fun _ => none)))))) (by simp only [List.mem_cons, true_or, or_true])
    · exact al_r N (p := (tk_, .inl (2, 6, .inr (.inr (.inr (.inr fun _ => none)))))) (by simp only [List.mem_cons, true_or, or_true])
    · exact al_r N (p := (ak_, .inl (0, 6, .inl fun _ => Int32.ofInt 0))) (by simp only [List.mem_cons, true_or, or_true])
    · exact al_r N (p := (s, .inr (4, [iV 0, .ref em, iV 0]))) (by simp only [List.mem_cons, true_or, or_true])
    · exact al_r N (p := (ha, .inr (4, [iV 0, .ref em, iV 0]))) (by simp only [List.mem_cons, true_or, or_true])
    · exact al_r N (p := (hh, .inr (4, [iV 0, .ref em, iV 0]))) (by simp only [List.mem_cons, true_or, or_true])
    · exact al_r N (p := (ll_, .inr (4, [iV 0, .ref em, iV 0]))) (by simp only [List.mem_cons, true_or, or_true])
    · exact al_r N (p := (bl_, .inr (4, [iV 0, .ref em, iV 0]))) (by simp only [List.mem_cons, true_or, or_true])
  · obtain ⟨hk, rfl⟩ := lv0 k i hl
    obtain ⟨hk', rfl⟩ := lv0 k' i' hl'
    exact ⟨prm_inj k hk k' hk' (gd_inj nd (prm_lt k hk) (prm_lt k' hk') e), rfl⟩
  · have ha0 := hF a e ha
    have at' : ¬ a = t := by
      rintro rfl
      rw [ht] at ha0
      cases ha0
    rw [hup_n at', hs_o]
    · exact ha0
    · rintro p' hp rfl
      rw [N.2.2 p' hp] at ha0
      cases ha0
  · obtain ⟨hk, rfl⟩ := lv0 k i hl
    exact Fn _ (hn0 _ (gd_in (prm_lt k hk)))
end NewObj
