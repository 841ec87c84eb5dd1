/-! LISTS: add over the roles; INVARIANT of the class's numbers -/
section AddR
variable {em mi ic : Nat} {σ : ST} {A : AD} {F h : AH}
theorem va_dn (A : AD) (k n q : Nat) : va_up (fun j : Nat => if (j : Int) < (n : Int) then some (A k j) else none) n (some q) = (fun j : Nat => if (j : Int) < (n : Int) + 1 then some (if j = n then q else A k j) else none) := by
  funext j
  unfold va_up
  by_cases c : j = n
  · subst c
    rw [if_pos rfl, if_pos (by omega), if_pos rfl]
  · rw [if_neg c, if_neg c]
    show (if (j : Int) < (n : Int) then some (A k j) else none) = _
    by_cases c2 : (j : Int) < n
    · rw [if_pos c2, if_pos (by omega)]
    · rw [if_neg c2, if_neg (by omega)]
theorem va_d0 (A : AD) (k q : Nat) : va_up (fun _ => none) 0 (some q) = (fun j : Nat => if (j : Int) < ((0 : Nat) : Int) + 1 then some (if j = 0 then q else A k j) else none) := by
  rw [← va_dn]
  congr 1
theorem va_dc (A : AD) (k q : Nat) : va_up (va_cpy (fun j : Nat => if (j : Int) < ((10 : Nat) : Int) then some (A k j) else none) (fun _ => none) 0 0 10) 10 (some q) = (fun j : Nat => if (j : Int) < ((10 : Nat) : Int) + 1 then some (if j = 10 then q else A k j) else none) := by
  rw [← va_dn]
  congr 1
  funext j
  by_cases c : j < 10
  · rw [pk_cpy_in (by omega) (by omega)]
    simp
  · rw [pk_cpy_out (by omega), if_neg (by omega)]
def elc (k : Nat) : Nat := match k with
  | 11 => 15
  | 12 => 7
  | 13 => 8
  | 14 => 11
  | _ => 10
theorem pkr_cl {k n : Nat} {r : Nat → Int} (hk : 11 ≤ k ∧ k ≤ 15) : ∃ fs, pkr A em r 0 (k + 10) n = .inr (elc k, fs) :=
  k5 (P := fun k => ∃ fs, pkr A em r 0 (k + 10) n = .inr (elc k, fs)) ⟨_, rfl⟩ ⟨_, rfl⟩ ⟨_, rfl⟩ ⟨_, rfl⟩ ⟨_, rfl⟩ hk
theorem elc_s {k : Nat} (hk : 11 ≤ k ∧ k ≤ 15) : (DD em mi ic).2.2.2.1 3 (elc k) = true :=
  k5 (P := fun k => (DD em mi ic).2.2.2.1 3 (elc k) = true) rfl rfl rfl rfl rfl hk
theorem addR {G : AH} {d k n q : Nat} {r : Nat → Int} {Q : RS → AH → Prop} (hd : 8 ≤ d) (R : Rp σ A em G h) (hk : 11 ≤ k ∧ k ≤ 15) (hn : σ k 0 0 = n) (hn2 : n ≤ 11) (I : Rf σ) (hq : G q = some (pkr A em r 0 (k + 10) n)) (hr : k = 13 → (r 0).toNat < σ 11 0 0)
    (hF : ∀ a, a ≠ q → F a = G a) (hFq : F q = none)
    (hQ : ∀ A' h' m, A' 0 0 = A 0 0 → Rp (s2 σ k n m r) A' em F h' → (∀ k' i', lv σ k' i' → A' k' i' = A k' i' ∨ (k' = k + 20 ∧ i' = 0)) → Q (.inl (some (.int (Int32.ofInt 1)))) h') : cal (DD em mi ic) d 69 [.ref (A k 0), .ref q] h Q := by
  have hqe : ¬ em = q := by
    rintro rfl
    rw [R.2.2.1] at hq
    obtain ⟨fs, hfs⟩ := pkr_cl (A := A) (em := em) (n := n) (r := r) hk
    rw [hfs] at hq
    cases hq
  have hFe : F em = some emR := by
    rw [hF em hqe]
    exact R.2.2.1
  have hFG : ∀ a e, F a = some e → G a = some e := fun a e ha => by
    by_cases c : a = q
    · rw [c, hFq] at ha
      cases ha
    · rw [← hF a c]
      exact ha
  have ha := rp_L R hk
  rw [hn] at ha
  have lL : lv σ k 0 := lv_L (by omega)
  have qL : ¬ q = A k 0 := by
    rintro rfl
    rw [R.2.2.2.2 k 0 lL] at hq
    cases hq
  have eL : ¬ em = A k 0 := rp_emn R lL
  have hv : h q = some (pkr A em r 0 (k + 10) n) := rp_G R hq
  have hvs : storS (DD em mi ic) 3 (h q) := by
    obtain ⟨fs, hfs⟩ := pkr_cl (A := A) (em := em) (n := n) (r := r) hk
    rw [hv, hfs]
    exact elc_s hk
  have a0 : ∀ da, A2 A k n q da 0 0 = A 0 0 := fun da => by
    unfold A2
    rw [if_neg (by omega), if_neg (by omega)]
  have ao : ∀ da k' i', lv σ k' i' → A2 A k n q da k' i' = A k' i' ∨ (k' = k + 20 ∧ i' = 0) := fun da k' i' hl => by
    unfold A2
    split
    · left
      rw [if_neg]
      rintro rfl
      unfold lv at hl
      rcases hl with hl | hl | hl
      · omega
      · have := hl.2.2
        rw [‹k' = k + 10›, show k + 10 - 10 = k by omega, hn] at this
        omega
      · omega
    · split
      · split
        · exact Or.inr ⟨‹_›, ‹_›⟩
        · exact Or.inl rfl
      · exact Or.inl rfl
  obtain ⟨d, rfl, hd⟩ := dep hd; refine cal_go (Nat.le_of_ble_eq_true rfl) fun X hX => ?_
  simp (disch := omega) only [e_nop, e_goto, e_null, e_iconst, e_bipush, e_sipush, e_lconst, e_ldc, e_ldc_w, e_ldc2, e_iload_n, e_lload_n, e_aload_n, e_istore_n, e_lstore_n, e_astore_n, e_iload, e_lload, e_aload, e_istore, e_lstore, e_astore, e_iinc, e_iadd, e_isub, e_imul, e_iand, e_ior, e_ixor, e_ishl, e_ishr, e_iushr, e_idiv, e_irem, e_ineg, e_i2l, e_i2b, e_i2c, e_ladd, e_lmul, e_lcmp, e_dup, e_pop, e_pop2, e_dupx1, e_dup2, e_icmp, e_if, e_acmp, e_ifnull, e_ifnn, e_tsw, e_lsw, e_iret, e_lret, e_aret, e_ret, e_getf, e_putf, e_gets, e_new, e_throw, e_newa, e_anewa, e_alen, e_iald, e_bald, e_aald, e_iast, e_bast, e_aast, e_cast, e_inst, e_invv, e_invs, e_invi, e_invp, e_invp4, e_monen, e_monex, e_jsr, e_swap, nth_0, setL_0, fld_0, nth_1, setL_1, prevW_1, fld_1, nth_2, setL_2, prevW_2, fld_2, nth_3, setL_3, prevW_3, fld_3, nth_4, setL_4, prevW_4, fld_4, nth_5, setL_5, prevW_5, fld_5, nth_6, setL_6, prevW_6, fld_6, nth_7, setL_7, prevW_7, fld_7, nth_8, setL_8, prevW_8, fld_8, nth_9, setL_9, prevW_9, fld_9, nth_10, setL_10, prevW_10, fld_10, nth_11, setL_11, prevW_11, fld_11, nth_12, setL_12, prevW_12, fld_12, nth_13, setL_13, prevW_13, fld_13, prevW_0, wide_n, wide_i, wide_r, wide_u, wide_l, wide_v, mk_0, mk_1, mk_n, ax_0, ax_1, ax_2, ax_3, popI_, pop2I_, popL_, pop2L_, popR_, popA_r, popA_n, popA_v, pop2A_, pp1_i, pp1_r, pp1_n, pp1_v, popV_, popIR_, popIIR_, popAIR_r, popAIR_n, popAIR_v, popCopy_, lvI_, lvL_, lvA_r, lvA_n, lvA_v, rf_s, rf_n, aN_, aI_, aQ_, pF_, isK_, fld_o, isK_o, castS_r, storS_r, go_, qc_l, qc_r, toL_s, toL_n, hlist_0, hlist_1, catsum_0, catsum_i, catsum_r, catsum_n, catsum_l, catsum_v, cs_0, ci_0, cv_0, cs_1, ci_1, cv_1, cs_2, ci_2, cv_2, cs_3, ci_3, cv_3, cs_4, ci_4, cv_4, cs_5, ci_5, cv_5, argL_n, fillL_0, fillL_s, argL_0, argL_i, argL_r, argL_u, argL_v, hup_s, ret_i, ret_1, ret_0, rt_o, rt_a, nr_i, nr_o, nr_a, nr_z1, nr_z0, ft_i, ft_o, ft_on, ft_ov, ft_a, ft_an, ft_z1, ft_z0, cI_eq, cI_ne, cI_lt, cI_ge, cI_gt, cI_le, cA_eq, cA_ne, forall_const, and_true, true_and, not_true_eq_false, not_false_eq_true, List.nil_append, Nat.reduceAdd, Nat.reduceSub, Nat.reduceLeDiff, Nat.reduceLT, Nat.reduceEqDiff, List.length_cons, List.length_nil, List.set_cons_zero, List.set_cons_succ, reduceIte, true_implies, false_implies, imp_self, true_or, or_true, Nat.le_refl, eq_self, sg69_0, g69_0, lv69_0, rt_69, ml_69, bc_69, bs_69, df_4_0, bc_144, bs_144, i_add, i_sub, i_mul, i_neg, i_nat, i_zero, i_b8, i_s16, i_tnc, i_lt, i_le, i_eq, i_in, Int.reduceNeg, Int.toNat_natCast, Int.reduceLT, Int.reduceLE, Int.reduceAdd, Int.reduceSub, Int.reduceMul, Int.reduceToNat, Int.reduceEq, Int.cast_ofNat_Int, Classical.not_not, reduceCtorEq, ca_, Option.some.injEq, forall_eq', i_shr, i_shl, i_div, ft_zb, nr_zb, ret_b, ha]
  by_cases c0 : n = 0
  · subst c0
    rw [if_pos (show ((0 : Nat) : Int) = 0 from rfl)]
    refine add3_new (by omega) (hup_s _ _ _) (by rw [hup_n eL]; exact rp_em R) (by rw [hup_n qL]; exact hvs) fun q2 hq2 => ?_
    simp (disch := omega) only [e_nop, e_goto, e_null, e_iconst, e_bipush, e_sipush, e_lconst, e_ldc, e_ldc_w, e_ldc2, e_iload_n, e_lload_n, e_aload_n, e_istore_n, e_lstore_n, e_astore_n, e_iload, e_lload, e_aload, e_istore, e_lstore, e_astore, e_iinc, e_iadd, e_isub, e_imul, e_iand, e_ior, e_ixor, e_ishl, e_ishr, e_iushr, e_idiv, e_irem, e_ineg, e_i2l, e_i2b, e_i2c, e_ladd, e_lmul, e_lcmp, e_dup, e_pop, e_pop2, e_dupx1, e_dup2, e_icmp, e_if, e_acmp, e_ifnull, e_ifnn, e_tsw, e_lsw, e_iret, e_lret, e_aret, e_ret, e_getf, e_putf, e_gets, e_new, e_throw, e_newa, e_anewa, e_alen, e_iald, e_bald, e_aald, e_iast, e_bast, e_aast, e_cast, e_inst, e_invv, e_invs, e_invi, e_invp, e_invp4, e_monen, e_monex, e_jsr, e_swap, nth_0, setL_0, fld_0, nth_1, setL_1, prevW_1, fld_1, nth_2, setL_2, prevW_2, fld_2, nth_3, setL_3, prevW_3, fld_3, nth_4, setL_4, prevW_4, fld_4, nth_5, setL_5, prevW_5, fld_5, nth_6, setL_6, prevW_6, fld_6, nth_7, setL_7, prevW_7, fld_7, nth_8, setL_8, prevW_8, fld_8, nth_9, setL_9, prevW_9, fld_9, nth_10, setL_10, prevW_10, fld_10, nth_11, setL_11, prevW_11, fld_11, nth_12, setL_12, prevW_12, fld_12, nth_13, setL_13, prevW_13, fld_13, prevW_0, wide_n, wide_i, wide_r, wide_u, wide_l, wide_v, mk_0, mk_1, mk_n, ax_0, ax_1, ax_2, ax_3, popI_, pop2I_, popL_, pop2L_, popR_, popA_r, popA_n, popA_v, pop2A_, pp1_i, pp1_r, pp1_n, pp1_v, popV_, popIR_, popIIR_, popAIR_r, popAIR_n, popAIR_v, popCopy_, lvI_, lvL_, lvA_r, lvA_n, lvA_v, rf_s, rf_n, aN_, aI_, aQ_, pF_, isK_, fld_o, isK_o, castS_r, storS_r, go_, qc_l, qc_r, toL_s, toL_n, hlist_0, hlist_1, catsum_0, catsum_i, catsum_r, catsum_n, catsum_l, catsum_v, cs_0, ci_0, cv_0, cs_1, ci_1, cv_1, cs_2, ci_2, cv_2, cs_3, ci_3, cv_3, cs_4, ci_4, cv_4, cs_5, ci_5, cv_5, argL_n, fillL_0, fillL_s, argL_0, argL_i, argL_r, argL_u, argL_v, hup_s, ret_i, ret_1, ret_0, rt_o, rt_a, nr_i, nr_o, nr_a, nr_z1, nr_z0, ft_i, ft_o, ft_on, ft_ov, ft_a, ft_an, ft_z1, ft_z0, cI_eq, cI_ne, cI_lt, cI_ge, cI_gt, cI_le, cA_eq, cA_ne, forall_const, and_true, true_and, not_true_eq_false, not_false_eq_true, List.nil_append, Nat.reduceAdd, Nat.reduceSub, Nat.reduceLeDiff, Nat.reduceLT, Nat.reduceEqDiff, List.length_cons, List.length_nil, List.set_cons_zero, List.set_cons_succ, reduceIte, true_implies, false_implies, imp_self, true_or, or_true, Nat.le_refl, eq_self, sg69_0, g69_0, lv69_0, rt_69, ml_69, bc_69, bs_69, df_4_0, bc_144, bs_144, i_add, i_sub, i_mul, i_neg, i_nat, i_zero, i_b8, i_s16, i_tnc, i_lt, i_le, i_eq, i_in, Int.reduceNeg, Int.toNat_natCast, Int.reduceLT, Int.reduceLE, Int.reduceAdd, Int.reduceSub, Int.reduceMul, Int.reduceToNat, Int.reduceEq, Int.cast_ofNat_Int, Classical.not_not, reduceCtorEq, ca_, Option.some.injEq, forall_eq', i_shr, i_shl, i_div, ft_zb, nr_zb, ret_b]
    have n2 : ¬ q2 = A k 0 := by
      rintro rfl
      rw [hup_s] at hq2
      cases hq2
    have hq3 : h q2 = none := by rw [hup_n n2] at hq2; exact hq2
    have n3 : ¬ q2 = q := by
      rintro rfl
      rw [hv] at hq3
      cases hq3
    have n4 : ¬ q2 = em := by
      rintro rfl
      rw [rp_em R] at hq3
      cases hq3
    rw [hup_cc (fun c => n2 c.symm), hup_hh]
    refine hQ _ _ _ (a0 q2) (?_ : Rp (s2 σ k 0 (σ k 0 1 + 1) r) (A2 A k 0 q q2) em F _) (ao q2)
    have Gq : G q2 = none := by
      cases c : G q2 with
      | none => rfl
      | some e =>
        rw [rp_G R c] at hq3
        cases hq3
    have R' := rp_new (e := .inl (0, 0, .inl fun _ => 0)) R hq3
    have HH := rp_add (m := σ k 0 1 + 1) (r := r) (da := q2) (q := q) (F := F) R' hk hn (by omega) I (by rw [hup_n (fun c => n3 c.symm)]; exact hq) hr hqe (Or.inr ⟨⟨_, hup_s _ _ _⟩, n3, n4⟩) (fun a e he => by
      have : ¬ a = q2 := by
        rintro rfl
        have := hFG _ _ he
        rw [Gq] at this
        cases this
      rw [hup_n this]
      exact hFG _ _ he) hFe hFq (by rw [hF _ n3]; exact Gq) rfl rfl
    rw [hup_hh, ← va_d0] at HH
    exact HH
  · rw [if_neg (show ¬ (n : Int) = 0 by omega)]
    have hp : 0 < σ k 0 0 := by omega
    have hD := rp_D R hk hp
    rw [hn] at hD
    have dL : ¬ A (k + 20) 0 = A k 0 := fun c => by
      have := R.2.1 _ _ _ _ (lv_D hk hp) lL c
      omega
    have dq : ¬ q = A (k + 20) 0 := fun c => by
      rw [c, R.2.2.2.2 _ _ (lv_D hk hp)] at hq
      cases hq
    have Fd : F (A (k + 20) 0) = none := by
      rw [hF _ (fun c => dq c.symm)]
      exact R.2.2.2.2 _ _ (lv_D hk hp)
    by_cases c10 : n = 10
    · subst c10
      rw [if_pos (by omega)] at hD
      refine add3_ten (ci := elc k) (by omega) (fun c => rp_emn R (lv_D hk hp) c.symm) (hup_s _ _ _) (by rw [hup_n dL]; exact hD) (elc_s hk) (fun i hi b hb => ?_) (by rw [hup_n qL]; exact hvs) fun q2 hq2 => ?_
      · rw [if_pos (by omega)] at hb
        cases hb
        have l1 : lv σ (k + 10) i := lv_E hk (by omega)
        have : ¬ A (k + 10) i = A k 0 := fun c => by
          have := R.2.1 _ _ _ _ l1 lL c
          omega
        rw [hup_n this, R.1 _ _ l1]
        obtain ⟨fs, hfs⟩ := pkr_cl (A := A) (em := em) (n := i) (r := σ (k + 10) i) hk
        unfold pk szk
        rw [if_neg (by omega), hfs]
        rfl
      · simp (disch := omega) only [e_nop, e_goto, e_null, e_iconst, e_bipush, e_sipush, e_lconst, e_ldc, e_ldc_w, e_ldc2, e_iload_n, e_lload_n, e_aload_n, e_istore_n, e_lstore_n, e_astore_n, e_iload, e_lload, e_aload, e_istore, e_lstore, e_astore, e_iinc, e_iadd, e_isub, e_imul, e_iand, e_ior, e_ixor, e_ishl, e_ishr, e_iushr, e_idiv, e_irem, e_ineg, e_i2l, e_i2b, e_i2c, e_ladd, e_lmul, e_lcmp, e_dup, e_pop, e_pop2, e_dupx1, e_dup2, e_icmp, e_if, e_acmp, e_ifnull, e_ifnn, e_tsw, e_lsw, e_iret, e_lret, e_aret, e_ret, e_getf, e_putf, e_gets, e_new, e_throw, e_newa, e_anewa, e_alen, e_iald, e_bald, e_aald, e_iast, e_bast, e_aast, e_cast, e_inst, e_invv, e_invs, e_invi, e_invp, e_invp4, e_monen, e_monex, e_jsr, e_swap, nth_0, setL_0, fld_0, nth_1, setL_1, prevW_1, fld_1, nth_2, setL_2, prevW_2, fld_2, nth_3, setL_3, prevW_3, fld_3, nth_4, setL_4, prevW_4, fld_4, nth_5, setL_5, prevW_5, fld_5, nth_6, setL_6, prevW_6, fld_6, nth_7, setL_7, prevW_7, fld_7, nth_8, setL_8, prevW_8, fld_8, nth_9, setL_9, prevW_9, fld_9, nth_10, setL_10, prevW_10, fld_10, nth_11, setL_11, prevW_11, fld_11, nth_12, setL_12, prevW_12, fld_12, nth_13, setL_13, prevW_13, fld_13, prevW_0, wide_n, wide_i, wide_r, wide_u, wide_l, wide_v, mk_0, mk_1, mk_n, ax_0, ax_1, ax_2, ax_3, popI_, pop2I_, popL_, pop2L_, popR_, popA_r, popA_n, popA_v, pop2A_, pp1_i, pp1_r, pp1_n, pp1_v, popV_, popIR_, popIIR_, popAIR_r, popAIR_n, popAIR_v, popCopy_, lvI_, lvL_, lvA_r, lvA_n, lvA_v, rf_s, rf_n, aN_, aI_, aQ_, pF_, isK_, fld_o, isK_o, castS_r, storS_r, go_, qc_l, qc_r, toL_s, toL_n, hlist_0, hlist_1, catsum_0, catsum_i, catsum_r, catsum_n, catsum_l, catsum_v, cs_0, ci_0, cv_0, cs_1, ci_1, cv_1, cs_2, ci_2, cv_2, cs_3, ci_3, cv_3, cs_4, ci_4, cv_4, cs_5, ci_5, cv_5, argL_n, fillL_0, fillL_s, argL_0, argL_i, argL_r, argL_u, argL_v, hup_s, ret_i, ret_1, ret_0, rt_o, rt_a, nr_i, nr_o, nr_a, nr_z1, nr_z0, ft_i, ft_o, ft_on, ft_ov, ft_a, ft_an, ft_z1, ft_z0, cI_eq, cI_ne, cI_lt, cI_ge, cI_gt, cI_le, cA_eq, cA_ne, forall_const, and_true, true_and, not_true_eq_false, not_false_eq_true, List.nil_append, Nat.reduceAdd, Nat.reduceSub, Nat.reduceLeDiff, Nat.reduceLT, Nat.reduceEqDiff, List.length_cons, List.length_nil, List.set_cons_zero, List.set_cons_succ, reduceIte, true_implies, false_implies, imp_self, true_or, or_true, Nat.le_refl, eq_self, sg69_0, g69_0, lv69_0, rt_69, ml_69, bc_69, bs_69, df_4_0, bc_144, bs_144, i_add, i_sub, i_mul, i_neg, i_nat, i_zero, i_b8, i_s16, i_tnc, i_lt, i_le, i_eq, i_in, Int.reduceNeg, Int.toNat_natCast, Int.reduceLT, Int.reduceLE, Int.reduceAdd, Int.reduceSub, Int.reduceMul, Int.reduceToNat, Int.reduceEq, Int.cast_ofNat_Int, Classical.not_not, reduceCtorEq, ca_, Option.some.injEq, forall_eq', i_shr, i_shl, i_div, ft_zb, nr_zb, ret_b]
        have n2 : ¬ q2 = A k 0 := by
          rintro rfl
          rw [hup_s] at hq2
          cases hq2
        have hq3 : h q2 = none := by rw [hup_n n2] at hq2; exact hq2
        have n3 : ¬ q2 = q := by
          rintro rfl
          rw [hv] at hq3
          cases hq3
        have n4 : ¬ q2 = em := by
          rintro rfl
          rw [rp_em R] at hq3
          cases hq3
        rw [hup_cc (fun c => n2 c.symm), hup_hh]
        refine hQ _ _ _ (a0 q2) (?_ : Rp (s2 σ k 10 (σ k 0 1 + 1) r) (A2 A k 10 q q2) em F _) (ao q2)
        have Gq : G q2 = none := by
          cases c : G q2 with
          | none => rfl
          | some e =>
            rw [rp_G R c] at hq3
            cases hq3
        have R' := rp_new (e := .inl (0, 0, .inl fun _ => 0)) R hq3
        have HH := rp_add (m := σ k 0 1 + 1) (r := r) (da := q2) (q := q) (F := F) R' hk hn (by omega) I (by rw [hup_n (fun c => n3 c.symm)]; exact hq) hr hqe (Or.inr ⟨⟨_, hup_s _ _ _⟩, n3, n4⟩) (fun a e he => by
          have : ¬ a = q2 := by
            rintro rfl
            have := hFG _ _ he
            rw [Gq] at this
            cases this
          rw [hup_n this]
          exact hFG _ _ he) hFe hFq (by rw [hF _ n3]; exact Gq) rfl rfl
        rw [hup_hh, if_neg (by omega), ← va_dc] at HH
        exact HH
    · have eN : (if (n : Int) ≤ 10 then 10 else 15) = (if (n : Int) + 1 ≤ 10 then 10 else 15) := by
        split <;> split <;> omega
      rw [eN] at hD
      refine add3_in (by omega) (hup_s _ _ _) (by rw [hup_n dL]; exact hD) (by split <;> omega) (by split <;> omega) (by rw [hup_n qL]; exact hvs) ?_
      simp (disch := omega) only [e_nop, e_goto, e_null, e_iconst, e_bipush, e_sipush, e_lconst, e_ldc, e_ldc_w, e_ldc2, e_iload_n, e_lload_n, e_aload_n, e_istore_n, e_lstore_n, e_astore_n, e_iload, e_lload, e_aload, e_istore, e_lstore, e_astore, e_iinc, e_iadd, e_isub, e_imul, e_iand, e_ior, e_ixor, e_ishl, e_ishr, e_iushr, e_idiv, e_irem, e_ineg, e_i2l, e_i2b, e_i2c, e_ladd, e_lmul, e_lcmp, e_dup, e_pop, e_pop2, e_dupx1, e_dup2, e_icmp, e_if, e_acmp, e_ifnull, e_ifnn, e_tsw, e_lsw, e_iret, e_lret, e_aret, e_ret, e_getf, e_putf, e_gets, e_new, e_throw, e_newa, e_anewa, e_alen, e_iald, e_bald, e_aald, e_iast, e_bast, e_aast, e_cast, e_inst, e_invv, e_invs, e_invi, e_invp, e_invp4, e_monen, e_monex, e_jsr, e_swap, nth_0, setL_0, fld_0, nth_1, setL_1, prevW_1, fld_1, nth_2, setL_2, prevW_2, fld_2, nth_3, setL_3, prevW_3, fld_3, nth_4, setL_4, prevW_4, fld_4, nth_5, setL_5, prevW_5, fld_5, nth_6, setL_6, prevW_6, fld_6, nth_7, setL_7, prevW_7, fld_7, nth_8, setL_8, prevW_8, fld_8, nth_9, setL_9, prevW_9, fld_9, nth_10, setL_10, prevW_10, fld_10, nth_11, setL_11, prevW_11, fld_11, nth_12, setL_12, prevW_12, fld_12, nth_13, setL_13, prevW_13, fld_13, prevW_0, wide_n, wide_i, wide_r, wide_u, wide_l, wide_v, mk_0, mk_1, mk_n, ax_0, ax_1, ax_2, ax_3, popI_, pop2I_, popL_, pop2L_, popR_, popA_r, popA_n, popA_v, pop2A_, pp1_i, pp1_r, pp1_n, pp1_v, popV_, popIR_, popIIR_, popAIR_r, popAIR_n, popAIR_v, popCopy_, lvI_, lvL_, lvA_r, lvA_n, lvA_v, rf_s, rf_n, aN_, aI_, aQ_, pF_, isK_, fld_o, isK_o, castS_r, storS_r, go_, qc_l, qc_r, toL_s, toL_n, hlist_0, hlist_1, catsum_0, catsum_i, catsum_r, catsum_n, catsum_l, catsum_v, cs_0, ci_0, cv_0, cs_1, ci_1, cv_1, cs_2, ci_2, cv_2, cs_3, ci_3, cv_3, cs_4, ci_4, cv_4, cs_5, ci_5, cv_5, argL_n, fillL_0, fillL_s, argL_0, argL_i, argL_r, argL_u, argL_v, hup_s, ret_i, ret_1, ret_0, rt_o, rt_a, nr_i, nr_o, nr_a, nr_z1, nr_z0, ft_i, ft_o, ft_on, ft_ov, ft_a, ft_an, ft_z1, ft_z0, cI_eq, cI_ne, cI_lt, cI_ge, cI_gt, cI_le, cA_eq, cA_ne, forall_const, and_true, true_and, not_true_eq_false, not_false_eq_true, List.nil_append, Nat.reduceAdd, Nat.reduceSub, Nat.reduceLeDiff, Nat.reduceLT, Nat.reduceEqDiff, List.length_cons, List.length_nil, List.set_cons_zero, List.set_cons_succ, reduceIte, true_implies, false_implies, imp_self, true_or, or_true, Nat.le_refl, eq_self, sg69_0, g69_0, lv69_0, rt_69, ml_69, bc_69, bs_69, df_4_0, bc_144, bs_144, i_add, i_sub, i_mul, i_neg, i_nat, i_zero, i_b8, i_s16, i_tnc, i_lt, i_le, i_eq, i_in, Int.reduceNeg, Int.toNat_natCast, Int.reduceLT, Int.reduceLE, Int.reduceAdd, Int.reduceSub, Int.reduceMul, Int.reduceToNat, Int.reduceEq, Int.cast_ofNat_Int, Classical.not_not, reduceCtorEq, ca_, Option.some.injEq, forall_eq', i_shr, i_shl, i_div, ft_zb, nr_zb, ret_b]
      rw [hup_cc (fun c => dL c.symm), hup_hh, va_dn]
      exact hQ _ _ _ (a0 _) (rp_add (m := σ k 0 1 + 1) (r := r) (da := A (k + 20) 0) (q := q) (F := F) R hk hn (by omega) I hq hr hqe (Or.inl ⟨by omega, rfl⟩) hFG hFe hFq Fd rfl rfl) (ao _)
end AddR
