/-! THE CLASS'S NUMBERS: their bounds; counts, sums; small methods -/
section Small
def b2 (b : Bool) : Int := if b then 1 else 0
theorem b2_t : b2 true = 1 := rfl
theorem b2_f : b2 false = 0 := rfl
theorem b2_01 (b : Bool) : b2 b = 0 ∨ b2 b = 1 := by cases b <;> simp [b2]
theorem b2_d (p : Prop) [Decidable p] : b2 (decide p) = if p then 1 else 0 := by by_cases h : p <;> simp [h, b2]
theorem i_b0 (b : Bool) : (Int32.ofInt (b2 b) = Int32.ofInt 0) = (b = false) := by cases b <;> simp [b2] <;> decide
theorem i_b1 (b : Bool) : (Int32.ofInt (b2 b) = Int32.ofInt 1) = (b = true) := by cases b <;> simp [b2] <;> decide
theorem ret_b2 (b : Bool) : retOk (some .boolean) (Int32.ofInt (b2 b)) = True := ret_b (b2_01 b)
theorem nr_b2 (b : Bool) : narrow .boolean (.int (Int32.ofInt (b2 b))) = .int (Int32.ofInt (b2 b)) := nr_zb (b2_01 b)
theorem ft_b2 (b : Bool) : fits .boolean (.int (Int32.ofInt (b2 b))) = true := ft_zb (b2_01 b)
def cnt (p : Nat → Bool) : Nat → Int
  | 0 => 0
  | n + 1 => cnt p n + b2 (p n)
def sumf (f : Nat → Int) : Nat → Int
  | 0 => 0
  | n + 1 => sumf f n + f n
def allb (p : Nat → Bool) : Nat → Bool
  | 0 => true
  | n + 1 => allb p n && p n
def anyb (p : Nat → Bool) : Nat → Bool
  | 0 => false
  | n + 1 => anyb p n || p n
theorem cnt_b (p : Nat → Bool) : ∀ n, 0 ≤ cnt p n ∧ cnt p n ≤ n
  | 0 => ⟨Int.le_refl _, Int.le_refl _⟩
  | n + 1 => by
    have := cnt_b p n
    have := b2_01 (p n)
    simp only [cnt]
    omega
theorem allb_f {p : Nat → Bool} {i n : Nat} (hi : i < n) (h : p i = false) : allb p n = false := by
  induction n with
  | zero => omega
  | succ n ih =>
    simp only [allb]
    by_cases c : i = n
    · rw [← c, h, Bool.and_false]
    · rw [ih (by omega), Bool.false_and]
theorem anyb_t {p : Nat → Bool} {i n : Nat} (hi : i < n) (h : p i = true) : anyb p n = true := by
  induction n with
  | zero => omega
  | succ n ih =>
    simp only [anyb]
    by_cases c : i = n
    · rw [← c, h, Bool.or_true]
    · rw [ih (by omega), Bool.true_or]
theorem allb_i {p : Nat → Bool} {n : Nat} : allb p n = true ↔ ∀ i, i < n → p i = true := by
  induction n with
  | zero => simp [allb]
  | succ n ih =>
    simp only [allb, Bool.and_eq_true, ih]
    refine ⟨fun h i hi => ?_, fun h => ⟨fun i hi => h i (by omega), h n (by omega)⟩⟩
    by_cases c : i = n
    · rw [c]; exact h.2
    · exact h.1 i (by omega)
theorem anyb_i {p : Nat → Bool} {n : Nat} : anyb p n = true ↔ ∃ i, i < n ∧ p i = true := by
  induction n with
  | zero => simp [anyb]
  | succ n ih =>
    simp only [anyb, Bool.or_eq_true, ih]
    refine ⟨fun h => ?_, fun ⟨i, hi, h⟩ => ?_⟩
    · rcases h with ⟨i, hi, h⟩ | h
      · exact ⟨i, by omega, h⟩
      · exact ⟨n, by omega, h⟩
    · by_cases c : i = n
      · rw [c] at h; exact Or.inr h
      · exact Or.inl ⟨i, by omega, h⟩
def Iv (σ : ST) : Prop :=
  (0 ≤ σ 1 0 0 ∧ σ 1 0 0 ≤ 99 ∧ -9 ≤ σ 1 0 1 ∧ σ 1 0 1 ≤ 9 ∧ 0 ≤ σ 1 0 2 ∧ σ 1 0 2 ≤ 500 ∧ 0 ≤ σ 2 0 0 ∧ σ 2 0 0 ≤ 3 ∧ 0 ≤ σ 2 0 1 ∧ σ 2 0 1 ≤ 6) ∧
  (0 ≤ σ 11 0 0 ∧ σ 11 0 0 ≤ 6 ∧ 0 ≤ σ 12 0 0 ∧ σ 12 0 0 ≤ 3 ∧ 0 ≤ σ 13 0 0 ∧ σ 13 0 0 ≤ 6 ∧ 0 ≤ σ 14 0 0 ∧ σ 14 0 0 ≤ 10 ∧ 0 ≤ σ 15 0 0 ∧ σ 15 0 0 ≤ 12) ∧
  (∀ i : Nat, (i : Int) < σ 11 0 0 → 0 ≤ σ 21 i 0 ∧ σ 21 i 0 ≤ 99 ∧ 0 ≤ σ 21 i 1 ∧ σ 21 i 1 ≤ 99) ∧
  (∀ i : Nat, (i : Int) < σ 12 0 0 → 0 ≤ σ 22 i 0 ∧ σ 22 i 0 ≤ 99 ∧ 0 ≤ σ 22 i 1 ∧ σ 22 i 1 ≤ 4) ∧
  (∀ i : Nat, (i : Int) < σ 13 0 0 → 0 ≤ σ 23 i 0 ∧ σ 23 i 0 < σ 11 0 0 ∧ 1 ≤ σ 23 i 1 ∧ σ 23 i 1 ≤ 9 ∧ (σ 23 i 2 = 0 ∨ σ 23 i 2 = 1) ∧ 0 ≤ σ 23 i 3 ∧ σ 23 i 3 ≤ 2) ∧
  (∀ i : Nat, (i : Int) < σ 14 0 0 → 1 ≤ σ 24 i 0 ∧ σ 24 i 0 ≤ 99 ∧ 0 ≤ σ 24 i 1 ∧ σ 24 i 1 ≤ 599 ∧ 0 ≤ σ 24 i 2 ∧ σ 24 i 2 ≤ σ 24 i 0) ∧
  (∀ i : Nat, (i : Int) < σ 15 0 0 → 1 ≤ σ 25 i 0 ∧ σ 25 i 0 ≤ 99999 ∧ (σ 25 i 1 = 0 ∨ σ 25 i 1 = 1) ∧ 0 ≤ σ 25 i 2 ∧ σ 25 i 2 ≤ 12) ∧
  (∀ j : Nat, -1 ≤ σ 8 0 j ∧ σ 8 0 j < σ 12 0 0 ∧ -1 ≤ σ 9 0 j ∧ σ 9 0 j < σ 12 0 0) ∧
  (∀ j : Nat, 0 ≤ σ 10 0 j ∧ σ 10 0 j < 8) ∧
  (∀ j : Nat, σ 13 0 0 ≤ j → σ 8 0 j = -1 ∧ σ 9 0 j = -1)
variable {em mi ic : Nat} {σ : ST} {A : AD} {F h : AH}
theorem iv_r (I : Iv σ) : 0 ≤ σ 1 0 0 ∧ σ 1 0 0 ≤ 99 ∧ -9 ≤ σ 1 0 1 ∧ σ 1 0 1 ≤ 9 ∧ 0 ≤ σ 1 0 2 ∧ σ 1 0 2 ≤ 500 ∧ 0 ≤ σ 2 0 0 ∧ σ 2 0 0 ≤ 3 ∧ 0 ≤ σ 2 0 1 ∧ σ 2 0 1 ≤ 6 := I.1
theorem iv_z (I : Iv σ) : 0 ≤ σ 11 0 0 ∧ σ 11 0 0 ≤ 6 ∧ 0 ≤ σ 12 0 0 ∧ σ 12 0 0 ≤ 3 ∧ 0 ≤ σ 13 0 0 ∧ σ 13 0 0 ≤ 6 ∧ 0 ≤ σ 14 0 0 ∧ σ 14 0 0 ≤ 10 ∧ 0 ≤ σ 15 0 0 ∧ σ 15 0 0 ≤ 12 := I.2.1
theorem iv_st (I : Iv σ) {i : Nat} (hi : (i : Int) < σ 11 0 0) : 0 ≤ σ 21 i 0 ∧ σ 21 i 0 ≤ 99 ∧ 0 ≤ σ 21 i 1 ∧ σ 21 i 1 ≤ 99 := I.2.2.1 i hi
theorem iv_ha (I : Iv σ) {i : Nat} (hi : (i : Int) < σ 12 0 0) : 0 ≤ σ 22 i 0 ∧ σ 22 i 0 ≤ 99 ∧ 0 ≤ σ 22 i 1 ∧ σ 22 i 1 ≤ 4 := I.2.2.2.1 i hi
theorem iv_hh (I : Iv σ) {i : Nat} (hi : (i : Int) < σ 13 0 0) : 0 ≤ σ 23 i 0 ∧ σ 23 i 0 < σ 11 0 0 ∧ 1 ≤ σ 23 i 1 ∧ σ 23 i 1 ≤ 9 ∧ (σ 23 i 2 = 0 ∨ σ 23 i 2 = 1) ∧ 0 ≤ σ 23 i 3 ∧ σ 23 i 3 ≤ 2 := I.2.2.2.2.1 i hi
theorem iv_lo (I : Iv σ) {i : Nat} (hi : (i : Int) < σ 14 0 0) : 1 ≤ σ 24 i 0 ∧ σ 24 i 0 ≤ 99 ∧ 0 ≤ σ 24 i 1 ∧ σ 24 i 1 ≤ 599 ∧ 0 ≤ σ 24 i 2 ∧ σ 24 i 2 ≤ σ 24 i 0 := I.2.2.2.2.2.1 i hi
theorem iv_na (I : Iv σ) {i : Nat} (hi : (i : Int) < σ 15 0 0) : 1 ≤ σ 25 i 0 ∧ σ 25 i 0 ≤ 99999 ∧ (σ 25 i 1 = 0 ∨ σ 25 i 1 = 1) ∧ 0 ≤ σ 25 i 2 ∧ σ 25 i 2 ≤ 12 := I.2.2.2.2.2.2.1 i hi
theorem iv_t (I : Iv σ) (j : Nat) : -1 ≤ σ 8 0 j ∧ σ 8 0 j < σ 12 0 0 ∧ -1 ≤ σ 9 0 j ∧ σ 9 0 j < σ 12 0 0 := I.2.2.2.2.2.2.2.1 j
theorem iv_a (I : Iv σ) (j : Nat) : 0 ≤ σ 10 0 j ∧ σ 10 0 j < 8 := I.2.2.2.2.2.2.2.2.1 j
theorem iv_6 (I : Iv σ) {j : Nat} (h : σ 13 0 0 ≤ j) : σ 8 0 j = -1 ∧ σ 9 0 j = -1 := I.2.2.2.2.2.2.2.2.2 j h
theorem rfo_none (A : AD) (k : Nat) (z : Int) : (rfo A k z = none) = (z < 0) := by
  unfold rfo
  split
  · simp [*]
  · simp [*]
theorem rfo_s {A : AD} {k : Nat} {z : Int} (h : 0 ≤ z) : rfo A k z = some (A k z.toNat) := if_neg (by omega)
theorem rfo_m {A : AD} {k : Nat} {z : Int} (h : z < 0) : rfo A k z = none := if_pos h
theorem rfo_n (A : AD) (k i : Nat) : rfo A k (i : Int) = some (A k i) := by rw [rfo_s (by omega), Int.toNat_natCast]
theorem rfo_eq (R : Rp σ A em F h) {z : Int} {l : Nat} (hz : z < σ 12 0 0) (hl : (l : Int) < σ 12 0 0) : (rfo A 22 z = some (A 22 l)) = (z = l) := by
  by_cases c : z < 0
  · rw [rfo_m c]
    exact propext ⟨fun q => (nomatch q), fun q => by omega⟩
  · rw [rfo_s (by omega)]
    refine propext ⟨fun q => ?_, fun q => by rw [q, Int.toNat_natCast]⟩
    have := (R.2.1 _ _ _ _ (lv_e ⟨by omega, by omega, by rw [Int.toNat_of_nonneg (by omega)]; exact hz⟩) (lv_e ⟨by omega, by omega, hl⟩) (Option.some.inj q)).2
    omega
def fld (σ : ST) (s : Nat) : Bool := decide (σ 21 s 0 ≤ σ 1 0 0)
def lim (σ : ST) (s : Nat) : Int := if σ 21 s 0 ≤ σ 1 0 0 then 0 else if σ 1 0 1 ≤ 0 then 999 else (σ 21 s 0 - σ 1 0 0 + σ 1 0 1 - 1) / σ 1 0 1
theorem floods_ok {d s : Nat} {Q : RS → AH → Prop} (hd : 1 ≤ d) (R : Rp σ A em F h) (I : Iv σ) (hs : (s : Int) < σ 11 0 0) (hQ : Q (.inl (some (.int (Int32.ofInt (b2 (fld σ s)))))) h) : cal (DD em mi ic) d 150 [.ref (A 1 0), .ref (A 21 s)] h Q := by
  have r1 := iv_r I
  have r2 := iv_st I hs
  obtain ⟨d, rfl, hd⟩ := dep hd; refine cal_go (Nat.le_of_ble_eq_true rfl) fun X hX => ?_
  simp (disch := omega) only [e_nop, e_goto, e_null, e_iconst, e_bipush, e_sipush, e_lconst, e_ldc, e_ldc_w, e_ldc2, e_iload_n, e_lload_n, e_aload_n, e_istore_n, e_lstore_n, e_astore_n, e_iload, e_lload, e_aload, e_istore, e_lstore, e_astore, e_iinc, e_iadd, e_isub, e_imul, e_iand, e_ior, e_ixor, e_ishl, e_ishr, e_iushr, e_idiv, e_irem, e_ineg, e_i2l, e_i2b, e_i2c, e_ladd, e_lmul, e_lcmp, e_dup, e_pop, e_pop2, e_dupx1, e_dup2, e_icmp, e_if, e_acmp, e_ifnull, e_ifnn, e_tsw, e_lsw, e_iret, e_lret, e_aret, e_ret, e_getf, e_putf, e_gets, e_new, e_throw, e_newa, e_anewa, e_alen, e_iald, e_bald, e_aald, e_iast, e_bast, e_aast, e_cast, e_inst, e_invv, e_invs, e_invi, e_invp, e_invp4, e_monen, e_monex, e_jsr, e_swap, nth_0, setL_0, fld_0, nth_1, setL_1, prevW_1, fld_1, nth_2, setL_2, prevW_2, fld_2, nth_3, setL_3, prevW_3, fld_3, nth_4, setL_4, prevW_4, fld_4, nth_5, setL_5, prevW_5, fld_5, nth_6, setL_6, prevW_6, fld_6, nth_7, setL_7, prevW_7, fld_7, nth_8, setL_8, prevW_8, fld_8, nth_9, setL_9, prevW_9, fld_9, nth_10, setL_10, prevW_10, fld_10, nth_11, setL_11, prevW_11, fld_11, nth_12, setL_12, prevW_12, fld_12, nth_13, setL_13, prevW_13, fld_13, prevW_0, wide_n, wide_i, wide_r, wide_u, wide_l, wide_v, mk_0, mk_1, mk_n, ax_0, ax_1, ax_2, ax_3, popI_, pop2I_, popL_, pop2L_, popR_, popA_r, popA_n, popA_v, pop2A_, pp1_i, pp1_r, pp1_n, pp1_v, popV_, popIR_, popIIR_, popAIR_r, popAIR_n, popAIR_v, popCopy_, lvI_, lvL_, lvA_r, lvA_n, lvA_v, rf_s, rf_n, aN_, aI_, aQ_, pF_, isK_, fld_o, isK_o, castS_r, storS_r, go_, qc_l, qc_r, toL_s, toL_n, hlist_0, hlist_1, catsum_0, catsum_i, catsum_r, catsum_n, catsum_l, catsum_v, cs_0, ci_0, cv_0, cs_1, ci_1, cv_1, cs_2, ci_2, cv_2, cs_3, ci_3, cv_3, cs_4, ci_4, cv_4, cs_5, ci_5, cv_5, argL_n, fillL_0, fillL_s, argL_0, argL_i, argL_r, argL_u, argL_v, hup_s, ret_i, ret_1, ret_0, rt_o, rt_a, nr_i, nr_o, nr_a, nr_z1, nr_z0, ft_i, ft_o, ft_on, ft_ov, ft_a, ft_an, ft_z1, ft_z0, cI_eq, cI_ne, cI_lt, cI_ge, cI_gt, cI_le, cA_eq, cA_ne, forall_const, and_true, true_and, not_true_eq_false, not_false_eq_true, List.nil_append, Nat.reduceAdd, Nat.reduceSub, Nat.reduceLeDiff, Nat.reduceLT, Nat.reduceEqDiff, List.length_cons, List.length_nil, List.set_cons_zero, List.set_cons_succ, reduceIte, true_implies, false_implies, imp_self, true_or, or_true, Nat.le_refl, eq_self, sg150_0, g150_0, lv150_0, sg150_1, g150_1, lv150_1, sg150_2, g150_2, lv150_2, rt_150, ml_150, bc_150, bs_150, i_add, i_sub, i_mul, i_neg, i_nat, i_zero, i_b8, i_s16, i_tnc, i_lt, i_le, i_eq, i_in, Int.reduceNeg, Int.toNat_natCast, Int.reduceLT, Int.reduceLE, Int.reduceAdd, Int.reduceSub, Int.reduceMul, Int.reduceToNat, Int.reduceEq, Int.cast_ofNat_Int, Classical.not_not, reduceCtorEq, ca_, Option.some.injEq, forall_eq', i_shr, i_shl, i_div, ft_zb, nr_zb, ret_b, rp_0 R, rp_1 R, rp_2 R, rp_3 R, rp_4 R, rp_5 R, rp_6 R, rp_7 R, rp_8 R, rp_9 R, rp_10 R, rp_11 R, rp_12 R, rp_13 R, rp_14 R, rp_15 R, rp_21 R, rp_22 R, rp_23 R, rp_24 R, rp_25 R]
  refine ⟨fun c => hX _ _ _ _ _ _ ?_, fun c => hX _ _ _ _ _ _ ?_⟩
  · simp (disch := omega) only [e_nop, e_goto, e_null, e_iconst, e_bipush, e_sipush, e_lconst, e_ldc, e_ldc_w, e_ldc2, e_iload_n, e_lload_n, e_aload_n, e_istore_n, e_lstore_n, e_astore_n, e_iload, e_lload, e_aload, e_istore, e_lstore, e_astore, e_iinc, e_iadd, e_isub, e_imul, e_iand, e_ior, e_ixor, e_ishl, e_ishr, e_iushr, e_idiv, e_irem, e_ineg, e_i2l, e_i2b, e_i2c, e_ladd, e_lmul, e_lcmp, e_dup, e_pop, e_pop2, e_dupx1, e_dup2, e_icmp, e_if, e_acmp, e_ifnull, e_ifnn, e_tsw, e_lsw, e_iret, e_lret, e_aret, e_ret, e_getf, e_putf, e_gets, e_new, e_throw, e_newa, e_anewa, e_alen, e_iald, e_bald, e_aald, e_iast, e_bast, e_aast, e_cast, e_inst, e_invv, e_invs, e_invi, e_invp, e_invp4, e_monen, e_monex, e_jsr, e_swap, nth_0, setL_0, fld_0, nth_1, setL_1, prevW_1, fld_1, nth_2, setL_2, prevW_2, fld_2, nth_3, setL_3, prevW_3, fld_3, nth_4, setL_4, prevW_4, fld_4, nth_5, setL_5, prevW_5, fld_5, nth_6, setL_6, prevW_6, fld_6, nth_7, setL_7, prevW_7, fld_7, nth_8, setL_8, prevW_8, fld_8, nth_9, setL_9, prevW_9, fld_9, nth_10, setL_10, prevW_10, fld_10, nth_11, setL_11, prevW_11, fld_11, nth_12, setL_12, prevW_12, fld_12, nth_13, setL_13, prevW_13, fld_13, prevW_0, wide_n, wide_i, wide_r, wide_u, wide_l, wide_v, mk_0, mk_1, mk_n, ax_0, ax_1, ax_2, ax_3, popI_, pop2I_, popL_, pop2L_, popR_, popA_r, popA_n, popA_v, pop2A_, pp1_i, pp1_r, pp1_n, pp1_v, popV_, popIR_, popIIR_, popAIR_r, popAIR_n, popAIR_v, popCopy_, lvI_, lvL_, lvA_r, lvA_n, lvA_v, rf_s, rf_n, aN_, aI_, aQ_, pF_, isK_, fld_o, isK_o, castS_r, storS_r, go_, qc_l, qc_r, toL_s, toL_n, hlist_0, hlist_1, catsum_0, catsum_i, catsum_r, catsum_n, catsum_l, catsum_v, cs_0, ci_0, cv_0, cs_1, ci_1, cv_1, cs_2, ci_2, cv_2, cs_3, ci_3, cv_3, cs_4, ci_4, cv_4, cs_5, ci_5, cv_5, argL_n, fillL_0, fillL_s, argL_0, argL_i, argL_r, argL_u, argL_v, hup_s, ret_i, ret_1, ret_0, rt_o, rt_a, nr_i, nr_o, nr_a, nr_z1, nr_z0, ft_i, ft_o, ft_on, ft_ov, ft_a, ft_an, ft_z1, ft_z0, cI_eq, cI_ne, cI_lt, cI_ge, cI_gt, cI_le, cA_eq, cA_ne, forall_const, and_true, true_and, not_true_eq_false, not_false_eq_true, List.nil_append, Nat.reduceAdd, Nat.reduceSub, Nat.reduceLeDiff, Nat.reduceLT, Nat.reduceEqDiff, List.length_cons, List.length_nil, List.set_cons_zero, List.set_cons_succ, reduceIte, true_implies, false_implies, imp_self, true_or, or_true, Nat.le_refl, eq_self, sg150_0, g150_0, lv150_0, sg150_1, g150_1, lv150_1, sg150_2, g150_2, lv150_2, rt_150, ml_150, bc_150, bs_150, i_add, i_sub, i_mul, i_neg, i_nat, i_zero, i_b8, i_s16, i_tnc, i_lt, i_le, i_eq, i_in, Int.reduceNeg, Int.toNat_natCast, Int.reduceLT, Int.reduceLE, Int.reduceAdd, Int.reduceSub, Int.reduceMul, Int.reduceToNat, Int.reduceEq, Int.cast_ofNat_Int, Classical.not_not, reduceCtorEq, ca_, Option.some.injEq, forall_eq', i_shr, i_shl, i_div, ft_zb, nr_zb, ret_b, rp_0 R, rp_1 R, rp_2 R, rp_3 R, rp_4 R, rp_5 R, rp_6 R, rp_7 R, rp_8 R, rp_9 R, rp_10 R, rp_11 R, rp_12 R, rp_13 R, rp_14 R, rp_15 R, rp_21 R, rp_22 R, rp_23 R, rp_24 R, rp_25 R]
    refine hX _ _ _ _ _ _ ?_
    simp (disch := omega) only [e_nop, e_goto, e_null, e_iconst, e_bipush, e_sipush, e_lconst, e_ldc, e_ldc_w, e_ldc2, e_iload_n, e_lload_n, e_aload_n, e_istore_n, e_lstore_n, e_astore_n, e_iload, e_lload, e_aload, e_istore, e_lstore, e_astore, e_iinc, e_iadd, e_isub, e_imul, e_iand, e_ior, e_ixor, e_ishl, e_ishr, e_iushr, e_idiv, e_irem, e_ineg, e_i2l, e_i2b, e_i2c, e_ladd, e_lmul, e_lcmp, e_dup, e_pop, e_pop2, e_dupx1, e_dup2, e_icmp, e_if, e_acmp, e_ifnull, e_ifnn, e_tsw, e_lsw, e_iret, e_lret, e_aret, e_ret, e_getf, e_putf, e_gets, e_new, e_throw, e_newa, e_anewa, e_alen, e_iald, e_bald, e_aald, e_iast, e_bast, e_aast, e_cast, e_inst, e_invv, e_invs, e_invi, e_invp, e_invp4, e_monen, e_monex, e_jsr, e_swap, nth_0, setL_0, fld_0, nth_1, setL_1, prevW_1, fld_1, nth_2, setL_2, prevW_2, fld_2, nth_3, setL_3, prevW_3, fld_3, nth_4, setL_4, prevW_4, fld_4, nth_5, setL_5, prevW_5, fld_5, nth_6, setL_6, prevW_6, fld_6, nth_7, setL_7, prevW_7, fld_7, nth_8, setL_8, prevW_8, fld_8, nth_9, setL_9, prevW_9, fld_9, nth_10, setL_10, prevW_10, fld_10, nth_11, setL_11, prevW_11, fld_11, nth_12, setL_12, prevW_12, fld_12, nth_13, setL_13, prevW_13, fld_13, prevW_0, wide_n, wide_i, wide_r, wide_u, wide_l, wide_v, mk_0, mk_1, mk_n, ax_0, ax_1, ax_2, ax_3, popI_, pop2I_, popL_, pop2L_, popR_, popA_r, popA_n, popA_v, pop2A_, pp1_i, pp1_r, pp1_n, pp1_v, popV_, popIR_, popIIR_, popAIR_r, popAIR_n, popAIR_v, popCopy_, lvI_, lvL_, lvA_r, lvA_n, lvA_v, rf_s, rf_n, aN_, aI_, aQ_, pF_, isK_, fld_o, isK_o, castS_r, storS_r, go_, qc_l, qc_r, toL_s, toL_n, hlist_0, hlist_1, catsum_0, catsum_i, catsum_r, catsum_n, catsum_l, catsum_v, cs_0, ci_0, cv_0, cs_1, ci_1, cv_1, cs_2, ci_2, cv_2, cs_3, ci_3, cv_3, cs_4, ci_4, cv_4, cs_5, ci_5, cv_5, argL_n, fillL_0, fillL_s, argL_0, argL_i, argL_r, argL_u, argL_v, hup_s, ret_i, ret_1, ret_0, rt_o, rt_a, nr_i, nr_o, nr_a, nr_z1, nr_z0, ft_i, ft_o, ft_on, ft_ov, ft_a, ft_an, ft_z1, ft_z0, cI_eq, cI_ne, cI_lt, cI_ge, cI_gt, cI_le, cA_eq, cA_ne, forall_const, and_true, true_and, not_true_eq_false, not_false_eq_true, List.nil_append, Nat.reduceAdd, Nat.reduceSub, Nat.reduceLeDiff, Nat.reduceLT, Nat.reduceEqDiff, List.length_cons, List.length_nil, List.set_cons_zero, List.set_cons_succ, reduceIte, true_implies, false_implies, imp_self, true_or, or_true, Nat.le_refl, eq_self, sg150_0, g150_0, lv150_0, sg150_1, g150_1, lv150_1, sg150_2, g150_2, lv150_2, rt_150, ml_150, bc_150, bs_150, i_add, i_sub, i_mul, i_neg, i_nat, i_zero, i_b8, i_s16, i_tnc, i_lt, i_le, i_eq, i_in, Int.reduceNeg, Int.toNat_natCast, Int.reduceLT, Int.reduceLE, Int.reduceAdd, Int.reduceSub, Int.reduceMul, Int.reduceToNat, Int.reduceEq, Int.cast_ofNat_Int, Classical.not_not, reduceCtorEq, ca_, Option.some.injEq, forall_eq', i_shr, i_shl, i_div, ft_zb, nr_zb, ret_b, rp_0 R, rp_1 R, rp_2 R, rp_3 R, rp_4 R, rp_5 R, rp_6 R, rp_7 R, rp_8 R, rp_9 R, rp_10 R, rp_11 R, rp_12 R, rp_13 R, rp_14 R, rp_15 R, rp_21 R, rp_22 R, rp_23 R, rp_24 R, rp_25 R]
    rw [show fld σ s = false by simp [fld]; omega] at hQ
    exact hQ
  · simp (disch := omega) only [e_nop, e_goto, e_null, e_iconst, e_bipush, e_sipush, e_lconst, e_ldc, e_ldc_w, e_ldc2, e_iload_n, e_lload_n, e_aload_n, e_istore_n, e_lstore_n, e_astore_n, e_iload, e_lload, e_aload, e_istore, e_lstore, e_astore, e_iinc, e_iadd, e_isub, e_imul, e_iand, e_ior, e_ixor, e_ishl, e_ishr, e_iushr, e_idiv, e_irem, e_ineg, e_i2l, e_i2b, e_i2c, e_ladd, e_lmul, e_lcmp, e_dup, e_pop, e_pop2, e_dupx1, e_dup2, e_icmp, e_if, e_acmp, e_ifnull, e_ifnn, e_tsw, e_lsw, e_iret, e_lret, e_aret, e_ret, e_getf, e_putf, e_gets, e_new, e_throw, e_newa, e_anewa, e_alen, e_iald, e_bald, e_aald, e_iast, e_bast, e_aast, e_cast, e_inst, e_invv, e_invs, e_invi, e_invp, e_invp4, e_monen, e_monex, e_jsr, e_swap, nth_0, setL_0, fld_0, nth_1, setL_1, prevW_1, fld_1, nth_2, setL_2, prevW_2, fld_2, nth_3, setL_3, prevW_3, fld_3, nth_4, setL_4, prevW_4, fld_4, nth_5, setL_5, prevW_5, fld_5, nth_6, setL_6, prevW_6, fld_6, nth_7, setL_7, prevW_7, fld_7, nth_8, setL_8, prevW_8, fld_8, nth_9, setL_9, prevW_9, fld_9, nth_10, setL_10, prevW_10, fld_10, nth_11, setL_11, prevW_11, fld_11, nth_12, setL_12, prevW_12, fld_12, nth_13, setL_13, prevW_13, fld_13, prevW_0, wide_n, wide_i, wide_r, wide_u, wide_l, wide_v, mk_0, mk_1, mk_n, ax_0, ax_1, ax_2, ax_3, popI_, pop2I_, popL_, pop2L_, popR_, popA_r, popA_n, popA_v, pop2A_, pp1_i, pp1_r, pp1_n, pp1_v, popV_, popIR_, popIIR_, popAIR_r, popAIR_n, popAIR_v, popCopy_, lvI_, lvL_, lvA_r, lvA_n, lvA_v, rf_s, rf_n, aN_, aI_, aQ_, pF_, isK_, fld_o, isK_o, castS_r, storS_r, go_, qc_l, qc_r, toL_s, toL_n, hlist_0, hlist_1, catsum_0, catsum_i, catsum_r, catsum_n, catsum_l, catsum_v, cs_0, ci_0, cv_0, cs_1, ci_1, cv_1, cs_2, ci_2, cv_2, cs_3, ci_3, cv_3, cs_4, ci_4, cv_4, cs_5, ci_5, cv_5, argL_n, fillL_0, fillL_s, argL_0, argL_i, argL_r, argL_u, argL_v, hup_s, ret_i, ret_1, ret_0, rt_o, rt_a, nr_i, nr_o, nr_a, nr_z1, nr_z0, ft_i, ft_o, ft_on, ft_ov, ft_a, ft_an, ft_z1, ft_z0, cI_eq, cI_ne, cI_lt, cI_ge, cI_gt, cI_le, cA_eq, cA_ne, forall_const, and_true, true_and, not_true_eq_false, not_false_eq_true, List.nil_append, Nat.reduceAdd, Nat.reduceSub, Nat.reduceLeDiff, Nat.reduceLT, Nat.reduceEqDiff, List.length_cons, List.length_nil, List.set_cons_zero, List.set_cons_succ, reduceIte, true_implies, false_implies, imp_self, true_or, or_true, Nat.le_refl, eq_self, sg150_0, g150_0, lv150_0, sg150_1, g150_1, lv150_1, sg150_2, g150_2, lv150_2, rt_150, ml_150, bc_150, bs_150, i_add, i_sub, i_mul, i_neg, i_nat, i_zero, i_b8, i_s16, i_tnc, i_lt, i_le, i_eq, i_in, Int.reduceNeg, Int.toNat_natCast, Int.reduceLT, Int.reduceLE, Int.reduceAdd, Int.reduceSub, Int.reduceMul, Int.reduceToNat, Int.reduceEq, Int.cast_ofNat_Int, Classical.not_not, reduceCtorEq, ca_, Option.some.injEq, forall_eq', i_shr, i_shl, i_div, ft_zb, nr_zb, ret_b, rp_0 R, rp_1 R, rp_2 R, rp_3 R, rp_4 R, rp_5 R, rp_6 R, rp_7 R, rp_8 R, rp_9 R, rp_10 R, rp_11 R, rp_12 R, rp_13 R, rp_14 R, rp_15 R, rp_21 R, rp_22 R, rp_23 R, rp_24 R, rp_25 R]
    rw [show fld σ s = true by simp [fld]; omega] at hQ
    exact hQ
end Small
