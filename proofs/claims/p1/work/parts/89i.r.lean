/-! WHAT IS KEPT: by both, call for call -/
section Kept
variable {em mi ic : Nat} {σ : ST} {x : Nat → Int} {A B : AD} {F G h : AH}
theorem lg_k1 : lg_cmp (Int64.ofNat 1) (Int64.ofNat ((1 : Fin 2) : Nat)) = Int32.ofInt 0 := lg_s (Int64.ofNat 1)
theorem lg_k0 : lg_cmp (Int64.ofNat 0) (Int64.ofNat ((0 : Fin 2) : Nat)) = Int32.ofInt 0 := lg_s (Int64.ofNat 0)
theorem cm_c {τ : ST} (h14 : τ 14 0 0 = σ 14 0 0) (h24 : ∀ i, τ 24 i 0 = σ 24 i 0) : cm τ = cm σ := by
  unfold cm nt
  rw [h14]
  exact sumf_e fun i _ => h24 i
theorem hrS_o (τ : ST) {k j f : Nat} (h1 : k ≠ 1) (h2 : k ≠ 2) (h6 : k ≠ 6) (h23 : k = 23 → f ≠ 3) (h24 : k = 24 → f ≠ 2) : hrS τ k j f = τ k j f := by
  unfold hrS
  rw [spb_k _ _ h6 h24, cuS_k _ h23]
  unfold ho1 flS
  rw [s3_r (by omega), s3_r (by omega), s3_r (by omega)]
theorem paS_o {k j f : Nat} (h1 : k ≠ 1) (h2 : k ≠ 2) (h6 : k ≠ 6) (h23 : k = 23 → f ≠ 3) (h24 : k = 24 → f ≠ 2) : ∀ n, paS σ n k j f = σ k j f
  | 0 => rfl
  | n + 1 => (hrS_o _ h1 h2 h6 h23 h24).trans (paS_o h1 h2 h6 h23 h24 n)
theorem hoE_h (w : Int) : hoE σ w 1 0 2 = σ 1 0 2 := hoE_k σ w (by omega) (by omega)
theorem Hb_lot (H : Hb σ) (I : Iv σ) {m a b : Int} (hb : b ≤ 99) : Hb (s2 σ 14 (σ 14 0 0).toNat m (rec3 a (σ 1 0 2 + b) a)) := fun i hi => by
  have hn := nt_e I
  have r3 := iv_z I
  have z : s2 σ 14 (σ 14 0 0).toNat m (rec3 a (σ 1 0 2 + b) a) 14 0 0 = ((σ 14 0 0).toNat : Int) + 1 := s2_z
  unfold nt at hi
  rw [z] at hi
  have e1 : s2 σ 14 (σ 14 0 0).toNat m (rec3 a (σ 1 0 2 + b) a) 1 0 2 = σ 1 0 2 := by rw [s2_o (by omega) (by omega)]
  rw [e1]
  by_cases c : i = (σ 14 0 0).toNat
  · subst c
    have e : s2 σ 14 (σ 14 0 0).toNat m (rec3 a (σ 1 0 2 + b) a) 24 (σ 14 0 0).toNat = rec3 a (σ 1 0 2 + b) a := s2_e (k := 14)
    rw [e]
    show σ 1 0 2 + b ≤ _
    omega
  · rw [s2_o (by omega) (by omega)]
    exact H i (by unfold nt; omega)
theorem Sk_list {s : Nat} (H : SkB σ s) (I : Iv σ) {m a : Int} (ha : isn a = true) : SkB (s2 σ 15 (σ 15 0 0).toNat m (rec3 a 0 0)) s := by
  have hn := nn_e I
  have r3 := iv_z I
  have z : s2 σ 15 (σ 15 0 0).toNat m (rec3 a 0 0) 15 0 0 = ((σ 15 0 0).toNat : Int) + 1 := s2_z
  have e : s2 σ 15 (σ 15 0 0).toNat m (rec3 a 0 0) 25 (σ 15 0 0).toNat = rec3 a 0 0 := s2_e (k := 15)
  have ez : nn (s2 σ 15 (σ 15 0 0).toNat m (rec3 a 0 0)) = nn σ + 1 := by
    unfold nn
    rw [z]
    omega
  have en : nn σ = (σ 15 0 0).toNat := rfl
  refine ⟨fun i => ?_, fun i hi => ?_⟩
  · rw [ez, H.1 i]
    by_cases c : i = (σ 15 0 0).toNat
    · subst c
      rw [e]
      have e0 : rec3 a 0 0 1 = 0 := rfl
      rw [e0]
      constructor
      · intro q
        omega
      · intro q
        omega
    · rw [s2_o (by omega) (by omega)]
      constructor
      · intro q
        exact ⟨by omega, q.2⟩
      · intro q
        exact ⟨by omega, q.2⟩
  · rw [ez] at hi
    by_cases c : i = (σ 15 0 0).toNat
    · subst c
      rw [e]
      exact ha
    · rw [s2_o (by omega) (by omega)]
      exact H.2 i (by omega)
theorem Sk_strike {s u : Nat} (H : SkB σ s) (hu : u < nn σ) {z : Int} (hz : z = 0 ∨ z = 1) : SkB (s3 σ 25 u 1 z) (stB s u z) := by
  have en : nn (s3 σ 25 u 1 z) = nn σ := by unfold nn; rw [s3_r (by omega)]
  refine ⟨fun i => ?_, fun i hi => ?_⟩
  · rw [en]
    unfold stB
    rcases hz with rfl | rfl
    · rw [if_pos rfl, anN_t, Nat.testBit_two_pow, Bool.and_eq_true, H.1 i]
      by_cases c : u = i
      · subst c
        rw [s3_s]
        simp
      · rw [s3_r (by omega)]
        simp [c]
    · rw [if_neg (by omega), Nat.testBit_or, Nat.testBit_two_pow, Bool.or_eq_true, H.1 i, decide_eq_true_eq]
      by_cases c : u = i
      · subst c
        rw [s3_s]
        simp [hu]
      · rw [s3_r (by omega)]
        simp [c]
  · rw [en] at hi
    have e0 : s3 σ 25 u 1 z 25 i 0 = σ 25 i 0 := by
      by_cases c : i = u
      · subst c
        simp [s3]
      · rw [s3_r (by omega)]
    rw [e0]
    exact H.2 i hi
theorem J_knock (H : J σ) (z : Int) : J (s3 σ 7 0 0 z) ∧ cm (s3 σ 7 0 0 z) = cm σ := J_same H (τ := s3 σ 7 0 0 z) H.1 (fun k i _ _ h7 _ _ => s3_r (by omega)) rfl
theorem rm_grow {q : Nat} {e : AE} (R : Rm σ x B em G h) (hq : h q = some e) (hn : ∀ k i, vm σ k i → ¬ pkm B em σ x k i = e) : Rm σ x B em (hup G q e) h ∧ ∀ a e', G a = some e' → hup G q e a = some e' := by
  have s : ∀ a e', G a = some e' → hup G q e a = some e' := fun a e' ha => by
    by_cases c : a = q
    · have r := rm_G R ha
      rw [c, hq] at r
      rw [c, hup_s]
      exact r
    · rw [hup_n c]
      exact ha
  refine ⟨⟨R.1, R.2.1, s _ _ R.2.2.1, fun a e' ha => ?_, fun k i hl => ?_, R.2.2.2.2.2⟩, s⟩
  · by_cases c : a = q
    · rw [c, hup_s] at ha
      rw [c, hq]
      exact ha
    · rw [hup_n c] at ha
      exact rm_G R ha
  · have c1 : ¬ B k i = q := fun c => by
      have r := R.1 k i hl
      rw [c, hq] at r
      exact hn k i hl (Option.some.inj r).symm
    rw [hup_n c1]
    exact R.2.2.2.2.1 k i hl
theorem rm_mono {F2 : AH} (M : Rm σ x B em G F) (s : ∀ a e, F a = some e → F2 a = some e) : Rm σ x B em G F2 := by
  refine ⟨fun k i hl => s _ _ (M.1 k i hl), M.2.1, M.2.2.1, fun a e ha => s _ _ (rm_G M ha), M.2.2.2.2.1, fun i hi => ?_⟩
  rcases rm_25 M hi with q | ⟨g, q, e⟩
  · exact Or.inl (s _ _ q)
  · exact Or.inr ⟨g, s _ _ q, e⟩
theorem pkm_st {k i vq : Nat} {a b : Value} (hl : vm σ k i) : ¬ pkm B em σ x k i = stC vq a b := by
  intro e
  unfold stC at e
  unfold vm at hl
  rcases hl with hl | hl | hl | hl
  · rw [hl.1, pkm_0] at e
    injection e with e
    injection e with e1 e2
    exact absurd e1 (by decide)
  · rw [pkm_L ⟨hl.1, hl.2.1⟩] at e
    injection e with e
    injection e with e1 e2
    exact absurd e1 (by decide)
  · rw [pkm_E ⟨hl.1, hl.2.1⟩] at e
    have : k = 21 ∨ k = 22 ∨ k = 23 ∨ k = 24 := by omega
    rcases this with rfl | rfl | rfl | rfl
    · cases e
    · cases e
    · injection e with e
      injection e with e1 e2
      exact absurd e1 (by decide)
    · cases e
  · rw [pkm_D ⟨hl.1, hl.2.1⟩] at e
    cases e
theorem pkm_by {k i n : Nat} {g : Nat → Int32} (hl : vm σ k i) : ¬ pkm B em σ x k i = byR n g := by
  intro e
  unfold byR at e
  unfold vm at hl
  rcases hl with hl | hl | hl | hl
  · rw [hl.1, pkm_0] at e
    cases e
  · rw [pkm_L ⟨hl.1, hl.2.1⟩] at e
    cases e
  · rw [pkm_E ⟨hl.1, hl.2.1⟩] at e
    have : k = 21 ∨ k = 22 ∨ k = 23 ∨ k = 24 := by omega
    rcases this with rfl | rfl | rfl | rfl
    · injection e with e
      injection e with e1 e2
      exact absurd e1 (by decide)
    · injection e with e
      injection e with e1 e2
      exact absurd e1 (by decide)
    · cases e
    · injection e with e
      injection e with e1 e2
      exact absurd e1 (by decide)
  · rw [pkm_D ⟨hl.1, hl.2.1⟩] at e
    injection e with e
    injection e with e1 e2
    exact absurd e1 (by decide)
theorem ouC_i {n : Int64} (z : Int) : ¬ inC (some (ouC n)) z := by
  rintro (e | ⟨g, e, -⟩)
  · have := Option.some.inj e
    unfold ouC at this
    injection this with this
    injection this with e1 e2
    exact absurd e1 (by decide)
  · have := Option.some.inj e
    unfold ouC at this
    cases this
theorem ou_M {F0 : AH} {o : Nat} {n m : Int64} (M : Rm σ x B em (hup F0 o (ouC n)) F) (eo : ¬ em = o) : Rm σ x B em (hup F0 o (ouC m)) (hup F o (ouC m)) := by
  have := rm_fr (e := ouC m) M (hup_s _ _ _) eo ouC_i
  rw [hup_hh] at this
  exact this
theorem thrownM_ok {d : Nat} {Q : RS → AH → Prop} (hd : 1 ≤ d) (R : Rm σ x B em G h) (hQ : Q (.inl (some (.int (Int32.ofInt (x 0))))) h) : cal (DD em mi ic) d 6 [.ref (B 0 0)] h Q := by
  obtain ⟨d, rfl, hd⟩ := dep hd; refine cal_go (Nat.le_of_ble_eq_true rfl) fun X hX => ?_
  simp (disch := omega) only [e_nop, e_goto, e_null, e_iconst, e_bipush, e_sipush, e_lconst, e_ldc, e_ldc_w, e_ldc2, e_iload_n, e_lload_n, e_aload_n, e_istore_n, e_lstore_n, e_astore_n, e_iload, e_lload, e_aload, e_istore, e_lstore, e_astore, e_iinc, e_iadd, e_isub, e_imul, e_iand, e_ior, e_ixor, e_ishl, e_ishr, e_iushr, e_idiv, e_irem, e_ineg, e_i2l, e_i2b, e_i2c, e_ladd, e_lmul, e_lcmp, e_dup, e_pop, e_pop2, e_dupx1, e_dup2, e_icmp, e_if, e_acmp, e_ifnull, e_ifnn, e_tsw, e_lsw, e_iret, e_lret, e_aret, e_ret, e_getf, e_putf, e_gets, e_new, e_throw, e_newa, e_anewa, e_alen, e_iald, e_bald, e_aald, e_iast, e_bast, e_aast, e_cast, e_inst, e_invv, e_invs, e_invi, e_invp, e_invp4, e_monen, e_monex, e_jsr, e_swap, nth_0, setL_0, fld_0, nth_1, setL_1, prevW_1, fld_1, nth_2, setL_2, prevW_2, fld_2, nth_3, setL_3, prevW_3, fld_3, nth_4, setL_4, prevW_4, fld_4, nth_5, setL_5, prevW_5, fld_5, nth_6, setL_6, prevW_6, fld_6, nth_7, setL_7, prevW_7, fld_7, nth_8, setL_8, prevW_8, fld_8, nth_9, setL_9, prevW_9, fld_9, nth_10, setL_10, prevW_10, fld_10, nth_11, setL_11, prevW_11, fld_11, nth_12, setL_12, prevW_12, fld_12, nth_13, setL_13, prevW_13, fld_13, prevW_0, wide_n, wide_i, wide_r, wide_u, wide_l, wide_v, mk_0, mk_1, mk_n, ax_0, ax_1, ax_2, ax_3, popI_, pop2I_, popL_, pop2L_, popR_, popA_r, popA_n, popA_v, pop2A_, pp1_i, pp1_r, pp1_n, pp1_v, popV_, popIR_, popIIR_, popAIR_r, popAIR_n, popAIR_v, popCopy_, lvI_, lvL_, lvA_r, lvA_n, lvA_v, rf_s, rf_n, aN_, aI_, aQ_, pF_, isK_, fld_o, isK_o, castS_r, storS_r, go_, qc_l, qc_r, toL_s, toL_n, hlist_0, hlist_1, catsum_0, catsum_i, catsum_r, catsum_n, catsum_l, catsum_v, cs_0, ci_0, cv_0, cs_1, ci_1, cv_1, cs_2, ci_2, cv_2, cs_3, ci_3, cv_3, cs_4, ci_4, cv_4, cs_5, ci_5, cv_5, argL_n, fillL_0, fillL_s, argL_0, argL_i, argL_r, argL_u, argL_v, hup_s, ret_i, ret_1, ret_0, rt_o, rt_a, nr_i, nr_o, nr_a, nr_z1, nr_z0, ft_i, ft_o, ft_on, ft_ov, ft_a, ft_an, ft_z1, ft_z0, cI_eq, cI_ne, cI_lt, cI_ge, cI_gt, cI_le, cA_eq, cA_ne, forall_const, and_true, true_and, not_true_eq_false, not_false_eq_true, List.nil_append, Nat.reduceAdd, Nat.reduceSub, Nat.reduceLeDiff, Nat.reduceLT, Nat.reduceEqDiff, List.length_cons, List.length_nil, List.set_cons_zero, List.set_cons_succ, reduceIte, true_implies, false_implies, imp_self, true_or, or_true, Nat.le_refl, eq_self, sg6_0, g6_0, lv6_0, rt_6, ml_6, bc_6, bs_6, i_add, i_sub, i_mul, i_neg, i_nat, i_zero, i_b8, i_s16, i_tnc, i_lt, i_le, i_eq, i_in, Int.reduceNeg, Int.toNat_natCast, Int.reduceLT, Int.reduceLE, Int.reduceAdd, Int.reduceSub, Int.reduceMul, Int.reduceToNat, Int.reduceEq, Int.cast_ofNat_Int, Classical.not_not, reduceCtorEq, ca_, Option.some.injEq, forall_eq', i_shr, i_shl, i_div, ft_zb, nr_zb, ret_b, rm_0 R, rm_11 R, rm_12 R, rm_13 R, rm_14 R, rm_15 R, rm_21 R, rm_22 R, rm_23 R, rm_24 R, xu_00, xu_01, xu_02, xu_03, xu_0k, fl_14, fl_15, fl_16, fl_17, ret_b2]
  exact hQ
theorem thrownE_ok {d q : Nat} {Q : RS → AH → Prop} (hd : 1 ≤ d) (R : Rm σ x B em G h) (eb : B 0 0 = q) (hQ : Q (.inl (some (.int (Int32.ofInt (x 0))))) h) : cal (DD em mi ic) d 6 [.ref q] h Q := by
  subst eb
  exact thrownM_ok hd R hQ
theorem pub_cm2 {τ : ST} (e : pub τ = pub σ) : cm τ = cm σ := cm_c (pub_i e (by omega) (by omega)) fun i => pub_i e (by omega) (by omega)
def LW (em ic b o L : Nat) (xs : Nat → Int32) (F0 : AH) : Prop := F0 em = some emR ∧ F0 b = some (.inl (8, L, .inl xs)) ∧ icOk ic F0 ∧ F0 o = none
def INV (em : Nat) (F0 : AH) (o : Nat) (σ : ST) (x : Nat → Int) (s : Nat) (A B : AD) (h : AH) : Prop :=
  J σ ∧ Hb σ ∧ SkB σ s ∧ KM σ x s ∧ Ak σ ∧ ∃ F n, Rp σ A em F h ∧ Rm σ x B em (hup F0 o (ouC n)) F
theorem inv_k {F0 : AH} {o : Nat} {n : Int64} {s : Nat} (M : Rm σ x B em (hup F0 o (ouC n)) F) (R : Rp σ A em F h) (HJ : J σ) (HB : Hb σ) (HS : SkB σ s) (HA : Ak σ) (HK : KM σ x s) : INV em F0 o σ x s A B h := ⟨HJ, HB, HS, HK, HA, F, n, R, M⟩
theorem lw_o {b o L : Nat} {xs : Nat → Int32} {F0 : AH} (W : LW em ic b o L xs F0) : ¬ em = o ∧ ¬ b = o := by
  refine ⟨?_, ?_⟩
  · rintro rfl
    have := W.1
    rw [W.2.2.2] at this
    cases this
  · rintro rfl
    have := W.2.1
    rw [W.2.2.2] at this
    cases this
theorem lw_ic {b o L : Nat} {xs : Nat → Int32} {F0 G' : AH} {n : Int64} (W : LW em ic b o L xs F0) (sub : ∀ a e, hup F0 o (ouC n) a = some e → G' a = some e) : icOk ic G' := by
  obtain ⟨f, hf, hg⟩ := W.2.2.1
  have up : ∀ a e, F0 a = some e → G' a = some e := fun a e ha => sub a e (by
    rw [hup_n]
    · exact ha
    · rintro rfl
      rw [W.2.2.2] at ha
      cases ha)
  refine ⟨f, up _ _ hf, fun j hj => ?_⟩
  rcases hg j hj with q | ⟨g, q, e⟩
  · exact Or.inl (up _ _ q)
  · exact Or.inr ⟨g, up _ _ q, e⟩
/-- the reference's answers in the class's words -/
theorem countyX_ok {d s : Nat} {w : Int} {Q : RS → AH → Prop} (hd : 11 ≤ d) (R : Rm σ x B em G h) (H : J σ) (K : KM σ x s) (S : SkB σ s) (HA : Ak σ) (hw : I32 w)
    (h0 : ¬ (0 ≤ w ∧ w ≤ 18) → ∀ h', Rm σ (xu x 0 1) B em G h' → Q (.inl (some (.int (Int32.ofInt 0)))) h')
    (hQ : (0 ≤ w ∧ w ≤ 18) → ∀ h', Rm σ (xu x 0 0) B em G h' → Q (.inl (some (.int (Int32.ofInt (cty σ w))))) h') : cal (DD em mi ic) d 40 [.ref (B 0 0), .int (Int32.ofInt w)] h Q :=
  countyM_ok hd R H K hw h0 fun c v h' hv Ry => by
    rw [cty_x hv S HA H.1]
    exact hQ c h' Ry
theorem giveX_ok {d : Nat} {a : Int} {Q : RS → AH → Prop} (hd : 5 ≤ d) (R : Rm σ x B em G h) (H : J σ) (B1 : Hb σ) (ha : I32 a)
    (h0 : ¬ (1 ≤ a ∧ a ≤ 99) → ∀ h', Rm σ (xu x 0 1) B em G h' → Q (.inl (some (.int (Int32.ofInt 0)))) h')
    (hQ : (1 ≤ a ∧ a ≤ 99) → ∀ h', Rm (hoE σ a) (xu x 0 0) B em G h' → Q (.inl (some (.int (Int32.ofInt (a - (ho σ a (nt σ)).2))))) h') : cal (DD em mi ic) d 24 [.ref (B 0 0), .int (Int32.ofInt a)] h Q :=
  giveM_ok hd R H.1 ha h0 fun c h' Ry => by
    have ge := give_eqm H B1 (w := a) (by omega)
    rw [ge.2]
    exact hQ c h' (rm_c Ry ge.1)
theorem strikeX_ok {d s : Nat} {a z : Int} {Q : RS → AH → Prop} (hd : 9 ≤ d) (R : Rm σ x B em G h) (I : Iv σ) (K : KM σ x s) (S : SkB σ s) (ha : I32 a) (hz : z = 0 ∨ z = 1)
    (h2 : ¬ (0 ≤ a ∧ a < σ 15 0 0) → ∀ h', Rm σ (xu x 0 1) B em G h' → Q (.inl (some (.int (Int32.ofInt 0)))) h')
    (hQ : (0 ≤ a ∧ a < σ 15 0 0) → ∀ (y : Nat → Int) (h' : AH), y 0 = 0 → y 1 = x 1 → y 2 = ((stB s a.toNat z : Nat) : Int) → Rm σ y B em G h' → Q (.inl (some (.int (Int32.ofInt (pers (s3 σ 25 a.toNat 1 z)))))) h') : cal (DD em mi ic) d 28 [.ref (B 0 0), .int (Int32.ofInt a), .int (Int32.ofInt z)] h Q :=
  strikeM_ok hd R I K ha hz h2 fun c v y h' y0 y1 y2 hv Ry => by
    have hn := nn_e I
    rw [hv.2 (Sk_strike S (by omega) hz)]
    exact hQ c y h' y0 y1 y2 Ry
theorem digestX_ok {d s : Nat} {Q : RS → AH → Prop} (hd : 18 ≤ d) (R : Rm σ x B em G h) (H : J σ) (K : KM σ x s) (S : SkB σ s) (HA : Ak σ)
    (hQ : ∀ (z : Int64) h', Rm σ (xS x z) B em G h' → Q (.inl (some (.long (dge σ true)))) h') : cal (DD em mi ic) d 57 [.ref (B 0 0)] h Q :=
  digestM_ok hd R H K fun f z h' hf Ry => by
    rw [dge_x fun w hw => cty_x (hf w hw) S HA H.1]
    exact hQ z h' Ry
theorem areAlikeX_ok {d : Nat} {a b : Int} {Q : RS → AH → Prop} (hd : 8 ≤ d) (R : Rm σ x B em G h) (ha : I32 a) (hb : I32 b)
    (h0 : ¬ (isn a = true ∧ isn b = true) → ∀ h', Rm σ (xu x 0 1) B em G h' → Q (.inl (some (.int (Int32.ofInt 0)))) h')
    (hQ : isn a = true → isn b = true → ∀ h', Rm σ (xu x 0 0) B em G h' → Q (.inl (some (.int (Int32.ofInt (b2 (nr a b)))))) h') : cal (DD em mi ic) d 53 [.ref (B 0 0), .int (Int32.ofInt a), .int (Int32.ofInt b)] h Q :=
  areAlikeM_ok hd R ha hb h0 fun c1 c2 h' Ry => by
    rw [lkM_nr c1 c2]
    exact hQ c1 c2 h' Ry
end Kept

