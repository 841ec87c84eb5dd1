/-! NUMBERS: bits, quotients -/
section Bits
theorem i_tdiv {a b : Int} (h1 : -2147483648 ≤ a) (h2 : a < 2147483648) (h3 : 0 < b) (h4 : b < 2147483648) : Int32.ofInt a / Int32.ofInt b = Int32.ofInt (a.tdiv b) := by
  have hb : -2147483648 ≤ a.tdiv b ∧ a.tdiv b < 2147483648 := by
    rcases Int.le_total 0 a with h | h
    · rw [Int.tdiv_eq_ediv_of_nonneg h]
      have e1 : a / b ≤ a := Int.ediv_le_self b h
      have e2 : 0 ≤ a / b := Int.ediv_nonneg h (by omega)
      omega
    · have e0 : a.tdiv b = -((-a) / b) := by
        rw [← Int.tdiv_eq_ediv_of_nonneg (by omega), Int.neg_tdiv]
        omega
      have e1 : (-a) / b ≤ -a := Int.ediv_le_self b (by omega)
      have e2 : 0 ≤ (-a) / b := Int.ediv_nonneg (by omega) (by omega)
      omega
  apply Int32.toInt.inj
  rw [Int32.toInt_div, i_toInt h1 h2, i_toInt (by omega) h4, i_toInt hb.1 hb.2, Int.bmod_eq_of_le (by omega) (by omega)]
theorem i_div {a b : Int} (h1 : 0 ≤ a) (h2 : a < 2147483648) (h3 : 0 < b) (h4 : b < 2147483648) : Int32.ofInt a / Int32.ofInt b = Int32.ofInt (a / b) := by
  rw [i_tdiv (by omega) h2 h3 h4, Int.tdiv_eq_ediv_of_nonneg h1]
theorem i_nI (n : Nat) : Int32.ofInt n = nI n := (i_nat n).symm
theorem i_31 {n : Nat} (h : n < 32) : ((Int32.ofInt n &&& 31).toBitVec.smod 32).toNat = n := by
  have H : ∀ m, m < 32 → ((nI m &&& 31).toBitVec.smod 32).toNat = m := by decide +kernel
  rw [i_nI]
  exact H n h
theorem i_shr {s j : Nat} (hs : s < 2147483648) (hj : j < 32) : Int32.ofInt s >>> (Int32.ofInt j &&& 31) = Int32.ofInt ((s / 2 ^ j : Nat) : Int) := by
  rw [i_nI s, i_nI (s / 2 ^ j), pk_shrN (by omega) _ j (i_31 hj)]
theorem i_bit (s : Nat) (hs : s < 2147483648) : Int32.ofInt s &&& Int32.ofInt 1 = Int32.ofInt ((s % 2 : Nat) : Int) := by
  rw [i_nI s, i_nI (s % 2)]
  exact pk_andN (by omega) 1 rfl
theorem i_shl {j : Nat} (hj : j < 31) : Int32.ofInt 1 <<< (Int32.ofInt j &&& 31) = Int32.ofInt ((2 ^ j : Nat) : Int) := by
  have h : 2 ^ j ≤ 2 ^ 30 := Nat.pow_le_pow_right (by omega) (by omega)
  rw [i_nI (2 ^ j), show Int32.ofInt 1 = nI 1 from rfl, pk_shlN _ j (i_31 (by omega)) (by omega), Nat.one_mul]
theorem i_or {a b : Nat} (ha : a < 2147483648) (hb : b < 2147483648) : Int32.ofInt a ||| Int32.ofInt b = Int32.ofInt ((a ||| b : Nat) : Int) := by
  rw [i_nI a, i_nI b, i_nI (a ||| b)]
  apply Int32.toBitVec.inj
  apply BitVec.eq_of_toNat_eq
  rw [Int32.toBitVec_or, BitVec.toNat_or, pk_tn (by omega), pk_tn (by omega), pk_tn]
  exact Nat.or_lt_two_pow (n := 32) (by omega) (by omega)
theorem tb_mod (s j : Nat) : s / 2 ^ j % 2 = if s.testBit j then 1 else 0 := by
  rw [Nat.testBit_eq_decide_div_mod_eq]
  have h : s / 2 ^ j % 2 < 2 := Nat.mod_lt _ (by omega)
  by_cases c : s / 2 ^ j % 2 = 1
  · simp [c]
  · simp [c]
    omega
theorem ft_zb {b : Int} (h : b = 0 ∨ b = 1) : fits .boolean (.int (Int32.ofInt b)) = true := by rcases h with rfl | rfl <;> rfl
theorem nr_zb {b : Int} (h : b = 0 ∨ b = 1) : narrow .boolean (.int (Int32.ofInt b)) = .int (Int32.ofInt b) := by rcases h with rfl | rfl <;> rfl
theorem ret_b {b : Int} (h : b = 0 ∨ b = 1) : retOk (some .boolean) (Int32.ofInt b) = True := by rcases h with rfl | rfl <;> exact eq_true rfl
theorem ca_ {em mi ic c : Nat} (h : c < 20) : ((DD em mi ic).2.2.2.2.1 c c = true) = True := by
  refine eq_true ?_
  show (c == c && decide _) = true
  simp
  omega
/-- a loop that counts up, from its end -/
theorem loopN {P : Nat → Prop} (n : Nat) (he : P n) (hs : ∀ i, i < n → P (i + 1) → P i) : P 0 := by
  have H : ∀ k i, i + k = n → P i := by
    intro k
    induction k with
    | zero =>
      intro i hi
      rw [show i = n by omega]
      exact he
    | succ k ih =>
      intro i hi
      exact hs i (by omega) (ih (i + 1) (by omega))
  exact H n 0 (by omega)
theorem size_okZ {em mi ic d a : Nat} {n : Int} {h : AH} {m e : Value} {Q : RS → AH → Prop} (hd : 1 ≤ d) (ha : h a = some (.inr (4, [m, e, .int (Int32.ofInt n)]))) (hQ : Q (.inl (some (.int (Int32.ofInt n)))) h) : cal (DD em mi ic) d 68 [.ref a] h Q := by
  obtain ⟨d, rfl, hd⟩ := dep hd
  refine cal_go (Nat.le_of_ble_eq_true rfl) fun X hX => ?_
  simp only [e_nop, e_goto, e_null, e_iconst, e_bipush, e_sipush, e_lconst, e_ldc, e_ldc_w, e_ldc2, e_iload_n, e_lload_n, e_aload_n, e_istore_n, e_lstore_n, e_astore_n, e_iload, e_lload, e_aload, e_istore, e_lstore, e_astore, e_iinc, e_iadd, e_isub, e_imul, e_iand, e_ior, e_ixor, e_ishl, e_ishr, e_iushr, e_idiv, e_irem, e_ineg, e_i2l, e_i2b, e_i2c, e_ladd, e_lmul, e_lcmp, e_dup, e_pop, e_pop2, e_dupx1, e_dup2, e_icmp, e_if, e_acmp, e_ifnull, e_ifnn, e_tsw, e_lsw, e_iret, e_lret, e_aret, e_ret, e_getf, e_putf, e_gets, e_new, e_throw, e_newa, e_anewa, e_alen, e_iald, e_bald, e_aald, e_iast, e_bast, e_aast, e_cast, e_inst, e_invv, e_invs, e_invi, e_invp, e_invp4, e_monen, e_monex, e_jsr, e_swap, nth_0, setL_0, fld_0, nth_1, setL_1, prevW_1, fld_1, nth_2, setL_2, prevW_2, fld_2, nth_3, setL_3, prevW_3, fld_3, nth_4, setL_4, prevW_4, fld_4, nth_5, setL_5, prevW_5, fld_5, nth_6, setL_6, prevW_6, fld_6, nth_7, setL_7, prevW_7, fld_7, nth_8, setL_8, prevW_8, fld_8, nth_9, setL_9, prevW_9, fld_9, nth_10, setL_10, prevW_10, fld_10, nth_11, setL_11, prevW_11, fld_11, nth_12, setL_12, prevW_12, fld_12, nth_13, setL_13, prevW_13, fld_13, prevW_0, wide_n, wide_i, wide_r, wide_u, wide_l, wide_v, mk_0, mk_1, mk_n, ax_0, ax_1, ax_2, ax_3, popI_, pop2I_, popL_, pop2L_, popR_, popA_r, popA_n, popA_v, pop2A_, pp1_i, pp1_r, pp1_n, pp1_v, popV_, popIR_, popIIR_, popAIR_r, popAIR_n, popAIR_v, popCopy_, lvI_, lvL_, lvA_r, lvA_n, lvA_v, rf_s, rf_n, aN_, aI_, aQ_, pF_, isK_, fld_o, isK_o, castS_r, storS_r, go_, qc_l, qc_r, toL_s, toL_n, hlist_0, hlist_1, catsum_0, catsum_i, catsum_r, catsum_n, catsum_l, catsum_v, cs_0, ci_0, cv_0, cs_1, ci_1, cv_1, cs_2, ci_2, cv_2, cs_3, ci_3, cv_3, cs_4, ci_4, cv_4, cs_5, ci_5, cv_5, argL_n, fillL_0, fillL_s, argL_0, argL_i, argL_r, argL_u, argL_v, hup_s, ret_i, ret_1, ret_0, rt_o, rt_a, nr_i, nr_o, nr_a, nr_z1, nr_z0, ft_i, ft_o, ft_on, ft_ov, ft_a, ft_an, ft_z1, ft_z0, cI_eq, cI_ne, cI_lt, cI_ge, cI_gt, cI_le, cA_eq, cA_ne, forall_const, and_true, true_and, not_true_eq_false, not_false_eq_true, List.nil_append, Nat.reduceAdd, Nat.reduceSub, Nat.reduceLeDiff, Nat.reduceLT, Nat.reduceEqDiff, List.length_cons, List.length_nil, List.set_cons_zero, List.set_cons_succ, reduceIte, true_implies, false_implies, imp_self, true_or, or_true, Nat.le_refl, eq_self, sg68_0, g68_0, lv68_0, rt_68, ml_68, bc_68, bs_68, ha]
  exact hQ
end Bits
