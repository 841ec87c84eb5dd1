/-! THE REFERENCE: what is told (one more in a list) -/
section ToldM
variable {em mi ic : Nat} {σ : ST} {x : Nat → Int} {B : AD} {G h : AH}
theorem elM_ni (σ : ST) (k i : Nat) (z : Int) : ¬ inC (some (elM σ k i)) z := by
  rintro (e | ⟨g, e, -⟩)
  · have := Option.some.inj e
    unfold elM at this
    split at this
    · cases this
    · cases this
    · injection this with this
      injection this with e1 e2
      exact absurd e1 (by decide)
    · cases this
  · have := Option.some.inj e
    unfold elM at this
    split at this
    · injection this with this
      injection this with e1 e2
      cases e1
    · injection this with this
      injection this with e1 e2
      cases e1
    · cases this
    · injection this with this
      injection this with e1 e2
      cases e1
theorem elM_s (k i : Nat) : storS (DD em mi ic) 3 (some (elM σ k i)) := by
  unfold elM
  split
  · exact Or.inr ⟨rfl, rfl⟩
  · exact Or.inr ⟨rfl, rfl⟩
  · exact (rfl : (DD em mi ic).2.2.2.1 3 18 = true)
  · exact Or.inr ⟨rfl, rfl⟩
theorem em_i (z : Int) (t n : Nat) (g : Nat → Option Nat) : ¬ inC (some (.inl (t, n, .inr (.inr (.inr (.inr g)))))) z := by
  rintro (e | ⟨g', e, -⟩)
  · cases e
  · have := Option.some.inj e
    injection this with this
    injection this with e1 e2
    injection e2 with e3 e4
    cases e4
/-- one more at the end of a list -/
theorem addMg {G' : AH} {d k n q : Nat} {r : Nat → Int} {Q : RS → AH → Prop} (hd : 8 ≤ d) (R : Rm σ x B em G' h) (hk : 11 ≤ k ∧ k ≤ 15) (hn : σ k 0 0 = n) (hn2 : n ≤ 11) (hn3 : k ≤ 14 → n ≤ 9)
    (hq : (k ≤ 14 ∧ G' q = some (elM (s2 σ k n 0 r) (k + 10) n) ∧ G q = none) ∨ (k = 15 ∧ inC (h q) (r 0))) (hGG : ∀ a, a ≠ q → G a = G' a) (hG0 : ∀ a e, G a = some e → G' a = some e)
    (hQ : ∀ B' h', B' 0 0 = B 0 0 → Rm (s2 σ k n 0 r) (xu x k (x k + 1)) B' em G h' → Q (.inl (some (.int (Int32.ofInt 1)))) h') : cal (DD em mi ic) d 69 [.ref (B k 0), .ref q] h Q := by
  have hqe : ¬ em = q := by
    rintro rfl
    rcases hq with ⟨-, hq, -⟩ | ⟨-, hq⟩
    · have e := R.2.2.1
      rw [hq] at e
      have := Option.some.inj e
      unfold elM emR at this
      split at this
      · injection this with this
        injection this with e1 e2
        cases e1
      · injection this with this
        injection this with e1 e2
        cases e1
      · cases this
      · injection this with this
        injection this with e1 e2
        cases e1
    · rw [rm_em R] at hq
      exact em_i _ _ _ _ hq
  have hFe : G em = some emR := by
    rw [hGG em hqe]
    exact R.2.2.1
  have ha := rm_L R hk
  rw [hn] at ha
  have lL : vm σ k 0 := vm_L hk
  have qL : ¬ q = B k 0 := by
    rintro rfl
    rcases hq with ⟨-, hq, -⟩ | ⟨-, hq⟩
    · rw [R.2.2.2.2.1 _ _ lL] at hq
      cases hq
    · rw [R.1 _ _ lL] at hq
      exact pkm_i lL hq
  have eL : ¬ em = B k 0 := rm_ne R lL R.2.2.1
  have hvs : storS (DD em mi ic) 3 (h q) := by
    rcases hq with ⟨-, hq, -⟩ | ⟨-, hq⟩
    · rw [rm_G R hq]
      exact elM_s _ _
    · exact inC_s hq
  have hqn : h q ≠ none := by
    intro c
    rcases hq with ⟨-, hq, -⟩ | ⟨-, hq⟩
    · rw [rm_G R hq] at c
      cases c
    · rw [c] at hq
      rcases hq with hq | ⟨g, hq, -⟩ <;> cases hq
  have a0 : ∀ da, A2 B k n q da 0 0 = B 0 0 := fun da => a2_o (by omega) (by omega)
  have hq' : ∀ (q2 : Nat) (e : AE), ¬ q2 = q → (k ≤ 14 ∧ hup G' q2 e q = some (elM (s2 σ k n 0 r) (k + 10) n) ∧ G q = none) ∨ (k = 15 ∧ inC (hup h q2 e q) (r 0)) := fun q2 e n3 => by
    rw [hup_n (fun c => n3 c.symm), hup_n (fun c => n3 c.symm)]
    exact hq
  obtain ⟨d, rfl, hd⟩ := dep hd; refine cal_go (Nat.le_of_ble_eq_true rfl) fun X hX => ?_
  simp (disch := omega) only [e_nop, e_goto, e_null, e_iconst, e_bipush, e_sipush, e_lconst, e_ldc, e_ldc_w, e_ldc2, e_iload_n, e_lload_n, e_aload_n, e_istore_n, e_lstore_n, e_astore_n, e_iload, e_lload, e_aload, e_istore, e_lstore, e_astore, e_iinc, e_iadd, e_isub, e_imul, e_iand, e_ior, e_ixor, e_ishl, e_ishr, e_iushr, e_idiv, e_irem, e_ineg, e_i2l, e_i2b, e_i2c, e_ladd, e_lmul, e_lcmp, e_dup, e_pop, e_pop2, e_dupx1, e_dup2, e_icmp, e_if, e_acmp, e_ifnull, e_ifnn, e_tsw, e_lsw, e_iret, e_lret, e_aret, e_ret, e_getf, e_putf, e_gets, e_new, e_throw, e_newa, e_anewa, e_alen, e_iald, e_bald, e_aald, e_iast, e_bast, e_aast, e_cast, e_inst, e_invv, e_invs, e_invi, e_invp, e_invp4, e_monen, e_monex, e_jsr, e_swap, nth_0, setL_0, fld_0, nth_1, setL_1, prevW_1, fld_1, nth_2, setL_2, prevW_2, fld_2, nth_3, setL_3, prevW_3, fld_3, nth_4, setL_4, prevW_4, fld_4, nth_5, setL_5, prevW_5, fld_5, nth_6, setL_6, prevW_6, fld_6, nth_7, setL_7, prevW_7, fld_7, nth_8, setL_8, prevW_8, fld_8, nth_9, setL_9, prevW_9, fld_9, nth_10, setL_10, prevW_10, fld_10, nth_11, setL_11, prevW_11, fld_11, nth_12, setL_12, prevW_12, fld_12, nth_13, setL_13, prevW_13, fld_13, prevW_0, wide_n, wide_i, wide_r, wide_u, wide_l, wide_v, mk_0, mk_1, mk_n, ax_0, ax_1, ax_2, ax_3, popI_, pop2I_, popL_, pop2L_, popR_, popA_r, popA_n, popA_v, pop2A_, pp1_i, pp1_r, pp1_n, pp1_v, popV_, popIR_, popIIR_, popAIR_r, popAIR_n, popAIR_v, popCopy_, lvI_, lvL_, lvA_r, lvA_n, lvA_v, rf_s, rf_n, aN_, aI_, aQ_, pF_, isK_, fld_o, isK_o, castS_r, storS_r, go_, qc_l, qc_r, toL_s, toL_n, hlist_0, hlist_1, catsum_0, catsum_i, catsum_r, catsum_n, catsum_l, catsum_v, cs_0, ci_0, cv_0, cs_1, ci_1, cv_1, cs_2, ci_2, cv_2, cs_3, ci_3, cv_3, cs_4, ci_4, cv_4, cs_5, ci_5, cv_5, argL_n, fillL_0, fillL_s, argL_0, argL_i, argL_r, argL_u, argL_v, hup_s, ret_i, ret_1, ret_0, rt_o, rt_a, nr_i, nr_o, nr_a, nr_z1, nr_z0, ft_i, ft_o, ft_on, ft_ov, ft_a, ft_an, ft_z1, ft_z0, cI_eq, cI_ne, cI_lt, cI_ge, cI_gt, cI_le, cA_eq, cA_ne, forall_const, and_true, true_and, not_true_eq_false, not_false_eq_true, List.nil_append, Nat.reduceAdd, Nat.reduceSub, Nat.reduceLeDiff, Nat.reduceLT, Nat.reduceEqDiff, List.length_cons, List.length_nil, List.set_cons_zero, List.set_cons_succ, reduceIte, true_implies, false_implies, imp_self, true_or, or_true, Nat.le_refl, eq_self, sg69_0, g69_0, lv69_0, rt_69, ml_69, bc_69, bs_69, df_4_0, bc_144, bs_144, i_add, i_sub, i_mul, i_neg, i_nat, i_zero, i_b8, i_s16, i_tnc, i_lt, i_le, i_eq, i_in, Int.reduceNeg, Int.toNat_natCast, Int.reduceLT, Int.reduceLE, Int.reduceAdd, Int.reduceSub, Int.reduceMul, Int.reduceToNat, Int.reduceEq, Int.cast_ofNat_Int, Classical.not_not, reduceCtorEq, ca_, Option.some.injEq, forall_eq', i_shr, i_shl, i_div, ft_zb, nr_zb, ret_b, ha]
  by_cases c0 : n = 0
  · subst c0
    rw [if_pos (show ((0 : Nat) : Int) = 0 from rfl)]
    refine add3_new (by omega) (hup_s _ _ _) (by rw [hup_n eL]; exact rm_em R) (by rw [hup_n qL]; exact hvs) fun q2 hq2 => ?_
    simp (disch := omega) only [e_nop, e_goto, e_null, e_iconst, e_bipush, e_sipush, e_lconst, e_ldc, e_ldc_w, e_ldc2, e_iload_n, e_lload_n, e_aload_n, e_istore_n, e_lstore_n, e_astore_n, e_iload, e_lload, e_aload, e_istore, e_lstore, e_astore, e_iinc, e_iadd, e_isub, e_imul, e_iand, e_ior, e_ixor, e_ishl, e_ishr, e_iushr, e_idiv, e_irem, e_ineg, e_i2l, e_i2b, e_i2c, e_ladd, e_lmul, e_lcmp, e_dup, e_pop, e_pop2, e_dupx1, e_dup2, e_icmp, e_if, e_acmp, e_ifnull, e_ifnn, e_tsw, e_lsw, e_iret, e_lret, e_aret, e_ret, e_getf, e_putf, e_gets, e_new, e_throw, e_newa, e_anewa, e_alen, e_iald, e_bald, e_aald, e_iast, e_bast, e_aast, e_cast, e_inst, e_invv, e_invs, e_invi, e_invp, e_invp4, e_monen, e_monex, e_jsr, e_swap, nth_0, setL_0, fld_0, nth_1, setL_1, prevW_1, fld_1, nth_2, setL_2, prevW_2, fld_2, nth_3, setL_3, prevW_3, fld_3, nth_4, setL_4, prevW_4, fld_4, nth_5, setL_5, prevW_5, fld_5, nth_6, setL_6, prevW_6, fld_6, nth_7, setL_7, prevW_7, fld_7, nth_8, setL_8, prevW_8, fld_8, nth_9, setL_9, prevW_9, fld_9, nth_10, setL_10, prevW_10, fld_10, nth_11, setL_11, prevW_11, fld_11, nth_12, setL_12, prevW_12, fld_12, nth_13, setL_13, prevW_13, fld_13, prevW_0, wide_n, wide_i, wide_r, wide_u, wide_l, wide_v, mk_0, mk_1, mk_n, ax_0, ax_1, ax_2, ax_3, popI_, pop2I_, popL_, pop2L_, popR_, popA_r, popA_n, popA_v, pop2A_, pp1_i, pp1_r, pp1_n, pp1_v, popV_, popIR_, popIIR_, popAIR_r, popAIR_n, popAIR_v, popCopy_, lvI_, lvL_, lvA_r, lvA_n, lvA_v, rf_s, rf_n, aN_, aI_, aQ_, pF_, isK_, fld_o, isK_o, castS_r, storS_r, go_, qc_l, qc_r, toL_s, toL_n, hlist_0, hlist_1, catsum_0, catsum_i, catsum_r, catsum_n, catsum_l, catsum_v, cs_0, ci_0, cv_0, cs_1, ci_1, cv_1, cs_2, ci_2, cv_2, cs_3, ci_3, cv_3, cs_4, ci_4, cv_4, cs_5, ci_5, cv_5, argL_n, fillL_0, fillL_s, argL_0, argL_i, argL_r, argL_u, argL_v, hup_s, ret_i, ret_1, ret_0, rt_o, rt_a, nr_i, nr_o, nr_a, nr_z1, nr_z0, ft_i, ft_o, ft_on, ft_ov, ft_a, ft_an, ft_z1, ft_z0, cI_eq, cI_ne, cI_lt, cI_ge, cI_gt, cI_le, cA_eq, cA_ne, forall_const, and_true, true_and, not_true_eq_false, not_false_eq_true, List.nil_append, Nat.reduceAdd, Nat.reduceSub, Nat.reduceLeDiff, Nat.reduceLT, Nat.reduceEqDiff, List.length_cons, List.length_nil, List.set_cons_zero, List.set_cons_succ, reduceIte, true_implies, false_implies, imp_self, true_or, or_true, Nat.le_refl, eq_self, sg69_0, g69_0, lv69_0, rt_69, ml_69, bc_69, bs_69, df_4_0, bc_144, bs_144, i_add, i_sub, i_mul, i_neg, i_nat, i_zero, i_b8, i_s16, i_tnc, i_lt, i_le, i_eq, i_in, Int.reduceNeg, Int.toNat_natCast, Int.reduceLT, Int.reduceLE, Int.reduceAdd, Int.reduceSub, Int.reduceMul, Int.reduceToNat, Int.reduceEq, Int.cast_ofNat_Int, Classical.not_not, reduceCtorEq, ca_, Option.some.injEq, forall_eq', i_shr, i_shl, i_div, ft_zb, nr_zb, ret_b]
    have n2 : ¬ q2 = B k 0 := by
      rintro rfl
      rw [hup_s] at hq2
      cases hq2
    have hq3 : h q2 = none := by rw [hup_n n2] at hq2; exact hq2
    have n3 : ¬ q2 = q := by
      rintro rfl
      exact hqn hq3
    rw [hup_cc (fun c => n2 c.symm), hup_hh]
    refine hQ _ _ (a0 q2) (?_ : Rm (s2 σ k 0 0 r) (xu x k (x k + 1)) (A2 B k 0 q q2) em G _)
    have Gq : G' q2 = none := rm_fn R hq3
    have R' := rm_new (e := .inl (3, 0, .inr (.inr (.inr (.inr fun _ => none))))) R hq3
    have HH := rm_add (r := r) (da := q2) (q := q) (G := G) R' hk hn (by omega) (hq' q2 _ n3) hqe (Or.inr ⟨_, hup_s _ _ _⟩) n3 (fun z => by rw [hup_s]; exact em_i _ _ _ _) (fun a e he => by
      have : ¬ a = q2 := by
        rintro rfl
        have := hG0 _ _ he
        rw [Gq] at this
        cases this
      rw [hup_n this]
      exact hG0 _ _ he) hFe (by rw [hGG _ n3]; exact Gq) rfl rfl
    rw [hup_hh, ← va_d0] at HH
    exact HH
  · rw [if_neg (show ¬ (n : Int) = 0 by omega)]
    have hp : 0 < σ k 0 0 := by omega
    have hD := rm_D R hk hp
    rw [hn] at hD
    have dL : ¬ B (k + 20) 0 = B k 0 := fun c => by
      have := R.2.1 _ _ _ _ (vm_D hk hp) lL c
      omega
    have dq : ¬ B (k + 20) 0 = q := fun c => by
      rcases hq with ⟨-, hq, -⟩ | ⟨-, hq⟩
      · rw [← c, R.2.2.2.2.1 _ _ (vm_D hk hp)] at hq
        cases hq
      · rw [← c, R.1 _ _ (vm_D hk hp)] at hq
        exact pkm_i (vm_D hk hp) hq
    have Fd : G (B (k + 20) 0) = none := by
      rw [hGG _ dq]
      exact R.2.2.2.2.1 _ _ (vm_D hk hp)
    by_cases c10 : n = 10
    · subst c10
      have k15 : k = 15 := by
        by_cases c : k ≤ 14
        · have := hn3 c
          omega
        · omega
      subst k15
      rw [if_pos (by omega)] at hD
      refine add3_ten (ci := 2) (by omega) (fun c => rm_ne R (vm_D hk hp) R.2.2.1 c.symm) (hup_s _ _ _) (by rw [hup_n dL]; exact hD) rfl (fun i hi b hb => ?_) (by rw [hup_n qL]; exact hvs) fun q2 hq2 => ?_
      · rw [if_pos (by omega)] at hb
        cases hb
        have := rm_25n R lL (j := i) (by omega)
        rw [hup_n this]
        exact inC_k (rm_25 R (i := i) (by omega))
      · simp (disch := omega) only [e_nop, e_goto, e_null, e_iconst, e_bipush, e_sipush, e_lconst, e_ldc, e_ldc_w, e_ldc2, e_iload_n, e_lload_n, e_aload_n, e_istore_n, e_lstore_n, e_astore_n, e_iload, e_lload, e_aload, e_istore, e_lstore, e_astore, e_iinc, e_iadd, e_isub, e_imul, e_iand, e_ior, e_ixor, e_ishl, e_ishr, e_iushr, e_idiv, e_irem, e_ineg, e_i2l, e_i2b, e_i2c, e_ladd, e_lmul, e_lcmp, e_dup, e_pop, e_pop2, e_dupx1, e_dup2, e_icmp, e_if, e_acmp, e_ifnull, e_ifnn, e_tsw, e_lsw, e_iret, e_lret, e_aret, e_ret, e_getf, e_putf, e_gets, e_new, e_throw, e_newa, e_anewa, e_alen, e_iald, e_bald, e_aald, e_iast, e_bast, e_aast, e_cast, e_inst, e_invv, e_invs, e_invi, e_invp, e_invp4, e_monen, e_monex, e_jsr, e_swap, nth_0, setL_0, fld_0, nth_1, setL_1, prevW_1, fld_1, nth_2, setL_2, prevW_2, fld_2, nth_3, setL_3, prevW_3, fld_3, nth_4, setL_4, prevW_4, fld_4, nth_5, setL_5, prevW_5, fld_5, nth_6, setL_6, prevW_6, fld_6, nth_7, setL_7, prevW_7, fld_7, nth_8, setL_8, prevW_8, fld_8, nth_9, setL_9, prevW_9, fld_9, nth_10, setL_10, prevW_10, fld_10, nth_11, setL_11, prevW_11, fld_11, nth_12, setL_12, prevW_12, fld_12, nth_13, setL_13, prevW_13, fld_13, prevW_0, wide_n, wide_i, wide_r, wide_u, wide_l, wide_v, mk_0, mk_1, mk_n, ax_0, ax_1, ax_2, ax_3, popI_, pop2I_, popL_, pop2L_, popR_, popA_r, popA_n, popA_v, pop2A_, pp1_i, pp1_r, pp1_n, pp1_v, popV_, popIR_, popIIR_, popAIR_r, popAIR_n, popAIR_v, popCopy_, lvI_, lvL_, lvA_r, lvA_n, lvA_v, rf_s, rf_n, aN_, aI_, aQ_, pF_, isK_, fld_o, isK_o, castS_r, storS_r, go_, qc_l, qc_r, toL_s, toL_n, hlist_0, hlist_1, catsum_0, catsum_i, catsum_r, catsum_n, catsum_l, catsum_v, cs_0, ci_0, cv_0, cs_1, ci_1, cv_1, cs_2, ci_2, cv_2, cs_3, ci_3, cv_3, cs_4, ci_4, cv_4, cs_5, ci_5, cv_5, argL_n, fillL_0, fillL_s, argL_0, argL_i, argL_r, argL_u, argL_v, hup_s, ret_i, ret_1, ret_0, rt_o, rt_a, nr_i, nr_o, nr_a, nr_z1, nr_z0, ft_i, ft_o, ft_on, ft_ov, ft_a, ft_an, ft_z1, ft_z0, cI_eq, cI_ne, cI_lt, cI_ge, cI_gt, cI_le, cA_eq, cA_ne, forall_const, and_true, true_and, not_true_eq_false, not_false_eq_true, List.nil_append, Nat.reduceAdd, Nat.reduceSub, Nat.reduceLeDiff, Nat.reduceLT, Nat.reduceEqDiff, List.length_cons, List.length_nil, List.set_cons_zero, List.set_cons_succ, reduceIte, true_implies, false_implies, imp_self, true_or, or_true, Nat.le_refl, eq_self, sg69_0, g69_0, lv69_0, rt_69, ml_69, bc_69, bs_69, df_4_0, bc_144, bs_144, i_add, i_sub, i_mul, i_neg, i_nat, i_zero, i_b8, i_s16, i_tnc, i_lt, i_le, i_eq, i_in, Int.reduceNeg, Int.toNat_natCast, Int.reduceLT, Int.reduceLE, Int.reduceAdd, Int.reduceSub, Int.reduceMul, Int.reduceToNat, Int.reduceEq, Int.cast_ofNat_Int, Classical.not_not, reduceCtorEq, ca_, Option.some.injEq, forall_eq', i_shr, i_shl, i_div, ft_zb, nr_zb, ret_b]
        have n2 : ¬ q2 = B 15 0 := by
          rintro rfl
          rw [hup_s] at hq2
          cases hq2
        have hq3 : h q2 = none := by rw [hup_n n2] at hq2; exact hq2
        have n3 : ¬ q2 = q := by
          rintro rfl
          exact hqn hq3
        rw [hup_cc (fun c => n2 c.symm), hup_hh]
        refine hQ _ _ (a0 q2) (?_ : Rm (s2 σ 15 10 0 r) (xu x 15 (x 15 + 1)) (A2 B 15 10 q q2) em G _)
        have Gq : G' q2 = none := rm_fn R hq3
        have R' := rm_new (e := .inl (3, 0, .inr (.inr (.inr (.inr fun _ => none))))) R hq3
        have HH := rm_add (r := r) (da := q2) (q := q) (G := G) R' hk hn (by omega) (hq' q2 _ n3) hqe (Or.inr ⟨_, hup_s _ _ _⟩) n3 (fun z => by rw [hup_s]; exact em_i _ _ _ _) (fun a e he => by
          have : ¬ a = q2 := by
            rintro rfl
            have := hG0 _ _ he
            rw [Gq] at this
            cases this
          rw [hup_n this]
          exact hG0 _ _ he) hFe (by rw [hGG _ n3]; exact Gq) rfl rfl
        rw [hup_hh, if_neg (by omega), ← va_dc] at HH
        exact HH
    · have eN : (if (n : Int) ≤ 10 then 10 else 15) = (if (n : Int) + 1 ≤ 10 then 10 else 15) := by
        split <;> split <;> omega
      rw [eN] at hD
      refine add3_in (by omega) (hup_s _ _ _) (by rw [hup_n dL]; exact hD) (by split <;> omega) (by split <;> omega) (by rw [hup_n qL]; exact hvs) ?_
      simp (disch := omega) only [e_nop, e_goto, e_null, e_iconst, e_bipush, e_sipush, e_lconst, e_ldc, e_ldc_w, e_ldc2, e_iload_n, e_lload_n, e_aload_n, e_istore_n, e_lstore_n, e_astore_n, e_iload, e_lload, e_aload, e_istore, e_lstore, e_astore, e_iinc, e_iadd, e_isub, e_imul, e_iand, e_ior, e_ixor, e_ishl, e_ishr, e_iushr, e_idiv, e_irem, e_ineg, e_i2l, e_i2b, e_i2c, e_ladd, e_lmul, e_lcmp, e_dup, e_pop, e_pop2, e_dupx1, e_dup2, e_icmp, e_if, e_acmp, e_ifnull, e_ifnn, e_tsw, e_lsw, e_iret, e_lret, e_aret, e_ret, e_getf, e_putf, e_gets, e_new, e_throw, e_newa, e_anewa, e_alen, e_iald, e_bald, e_aald, e_iast, e_bast, e_aast, e_cast, e_inst, e_invv, e_invs, e_invi, e_invp, e_invp4, e_monen, e_monex, e_jsr, e_swap, nth_0, setL_0, fld_0, nth_1, setL_1, prevW_1, fld_1, nth_2, setL_2, prevW_2, fld_2, nth_3, setL_3, prevW_3, fld_3, nth_4, setL_4, prevW_4, fld_4, nth_5, setL_5, prevW_5, fld_5, nth_6, setL_6, prevW_6, fld_6, nth_7, setL_7, prevW_7, fld_7, nth_8, setL_8, prevW_8, fld_8, nth_9, setL_9, prevW_9, fld_9, nth_10, setL_10, prevW_10, fld_10, nth_11, setL_11, prevW_11, fld_11, nth_12, setL_12, prevW_12, fld_12, nth_13, setL_13, prevW_13, fld_13, prevW_0, wide_n, wide_i, wide_r, wide_u, wide_l, wide_v, mk_0, mk_1, mk_n, ax_0, ax_1, ax_2, ax_3, popI_, pop2I_, popL_, pop2L_, popR_, popA_r, popA_n, popA_v, pop2A_, pp1_i, pp1_r, pp1_n, pp1_v, popV_, popIR_, popIIR_, popAIR_r, popAIR_n, popAIR_v, popCopy_, lvI_, lvL_, lvA_r, lvA_n, lvA_v, rf_s, rf_n, aN_, aI_, aQ_, pF_, isK_, fld_o, isK_o, castS_r, storS_r, go_, qc_l, qc_r, toL_s, toL_n, hlist_0, hlist_1, catsum_0, catsum_i, catsum_r, catsum_n, catsum_l, catsum_v, cs_0, ci_0, cv_0, cs_1, ci_1, cv_1, cs_2, ci_2, cv_2, cs_3, ci_3, cv_3, cs_4, ci_4, cv_4, cs_5, ci_5, cv_5, argL_n, fillL_0, fillL_s, argL_0, argL_i, argL_r, argL_u, argL_v, hup_s, ret_i, ret_1, ret_0, rt_o, rt_a, nr_i, nr_o, nr_a, nr_z1, nr_z0, ft_i, ft_o, ft_on, ft_ov, ft_a, ft_an, ft_z1, ft_z0, cI_eq, cI_ne, cI_lt, cI_ge, cI_gt, cI_le, cA_eq, cA_ne, forall_const, and_true, true_and, not_true_eq_false, not_false_eq_true, List.nil_append, Nat.reduceAdd, Nat.reduceSub, Nat.reduceLeDiff, Nat.reduceLT, Nat.reduceEqDiff, List.length_cons, List.length_nil, List.set_cons_zero, List.set_cons_succ, reduceIte, true_implies, false_implies, imp_self, true_or, or_true, Nat.le_refl, eq_self, sg69_0, g69_0, lv69_0, rt_69, ml_69, bc_69, bs_69, df_4_0, bc_144, bs_144, i_add, i_sub, i_mul, i_neg, i_nat, i_zero, i_b8, i_s16, i_tnc, i_lt, i_le, i_eq, i_in, Int.reduceNeg, Int.toNat_natCast, Int.reduceLT, Int.reduceLE, Int.reduceAdd, Int.reduceSub, Int.reduceMul, Int.reduceToNat, Int.reduceEq, Int.cast_ofNat_Int, Classical.not_not, reduceCtorEq, ca_, Option.some.injEq, forall_eq', i_shr, i_shl, i_div, ft_zb, nr_zb, ret_b]
      rw [hup_cc (fun c => dL c.symm), hup_hh, va_dn]
      refine hQ _ _ (a0 _) (rm_add (r := r) (da := B (k + 20) 0) (q := q) (G := G) R hk hn (by omega) hq hqe (Or.inl ⟨by omega, rfl⟩) dq (fun z => by rw [R.1 _ _ (vm_D hk hp)]; exact pkm_i (vm_D hk hp)) hG0 hFe Fd rfl rfl)
theorem addM {d k n q : Nat} {r : Nat → Int} {e : AE} {Q : RS → AH → Prop} (hd : 8 ≤ d) (R : Rm σ x B em G h) (hq : h q = none) (hk : 11 ≤ k ∧ k ≤ 14) (hn : σ k 0 0 = n) (hn2 : n ≤ 9) (he : e = elM (s2 σ k n 0 r) (k + 10) n)
    (hQ : ∀ B' h', B' 0 0 = B 0 0 → Rm (s2 σ k n 0 r) (xu x k (x k + 1)) B' em G h' → Q (.inl (some (.int (Int32.ofInt 1)))) h') : cal (DD em mi ic) d 69 [.ref (B k 0), .ref q] (hup h q e) Q :=
  addMg (G := G) hd (rm_new (e := e) R hq) (by omega) hn (by omega) (fun _ => hn2) (Or.inl ⟨hk.2, by rw [hup_s, he], rm_fn R hq⟩) (fun a ha => (hup_n ha).symm) (fun a e' ha => by
    rw [hup_n]
    · exact ha
    · rintro rfl
      rw [rm_fn R hq] at ha
      cases ha) hQ
theorem addMn {d n q : Nat} {z : Int} {Q : RS → AH → Prop} (hd : 8 ≤ d) (R : Rm σ x B em G h) (hq : inC (h q) z) (hn : σ 15 0 0 = n) (hn2 : n ≤ 11)
    (hQ : ∀ B' h', B' 0 0 = B 0 0 → Rm (s2 σ 15 n 0 (rec3 z 0 0)) (xu x 15 (x 15 + 1)) B' em G h' → Q (.inl (some (.int (Int32.ofInt 1)))) h') : cal (DD em mi ic) d 69 [.ref (B 15 0), .ref q] h Q :=
  addMg (G := G) hd R (by omega) hn hn2 (fun c => absurd c (by omega)) (Or.inr ⟨rfl, hq⟩) (fun _ _ => rfl) (fun _ _ e => e) hQ
theorem upd2 (a b : Int) : upd (upd (fun _ => Int32.ofInt 0) 0 (Int32.ofInt a)) 1 (Int32.ofInt b) = fun j => Int32.ofInt (if j = 0 then a else if j = 1 then b else 0) := by
  funext j
  unfold upd
  by_cases c1 : j = 1
  · subst c1
    simp
  · by_cases c0 : j = 0
    · subst c0
      simp
    · simp [c0, c1]
theorem upd_0 (a b c : Int) : upd (fun j => Int32.ofInt (if j = 0 then a else if j = 1 then b else 0)) 0 (Int32.ofInt c) = fun j => Int32.ofInt (if j = 0 then c else if j = 1 then b else 0) := by
  funext j
  unfold upd
  by_cases c0 : j = 0
  · subst c0
    simp
  · simp [c0]
theorem isK_M (R : Rm σ x B em G h) {q k : Nat} {e : AE} (hq : h q = none) (hk : 11 ≤ k ∧ k ≤ 15) : isK (hup h q e (B k 0)) 4 := by
  rw [rm_L (rm_new (e := e) R hq) hk, isK_]
end ToldM
