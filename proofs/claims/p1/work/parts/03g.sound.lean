
/-! SOUNDNESS, 7: a row, a stretch, a call -/
section One
theorem hl_no {D : TB} {y fl : Nat} (h : ¬ fl = 1) : hlist D y fl = [] := if_neg h
theorem hl_in {D : TB} {y fl : Nat} {q : Nat × Nat} (h : q ∈ hlist D y fl) : q ∈ mHan D y := by
  unfold hlist at h
  split at h
  · exact h
  · cases h
theorem of_static {kind n : Nat} {S : List Value} (h : (if kind = 0 then n else n + 1) ≤ S.length) (hk : kind = 0) : S = (argsOf n S []).reverse ++ S.drop n ∧ (argsOf n S []).length = n := by
  rw [if_pos hk] at h
  rw [argsOf_eq]
  simp
  omega
theorem of_recv {n : Nat} {S : List Value} {b : Nat} (hb : S[n]? = some (.ref b)) : S = (S.take n).reverse.reverse ++ .ref b :: S.drop (n + 1) ∧ (S.take n).reverse.length = n ∧ argsOf (n + 1) S [] = .ref b :: (S.take n).reverse := by
  have hl := (List.getElem?_eq_some_iff.mp hb).1
  have hg : S[n] = .ref b := (List.getElem?_eq_some_iff.mp hb).2
  refine ⟨?_, by simp; omega, ?_⟩
  · rw [List.reverse_reverse]
    conv => lhs; rw [← List.take_append_drop n S]
    rw [List.drop_eq_getElem_cons hl, hg]
  · rw [argsOf_eq, List.append_nil, List.take_succ_eq_append_getElem hl, hg]
    simp
set_option maxHeartbeats 4000000 in
theorem one_sound {p : Program} {l : Launch} {e : Env} {s : State} {m : MethodId} {args : Array Value} {below : List Frame} {meth : Method} {c : Code} {V : EV} {D : TB} {y d : Nat} {Q : RS → AH → Prop} (C0 : Cx p l s m args meth c V D y) (T0 : TV V D) (T1 : StOk V D) (hnw : NW V)
    (IH : ∀ z As h Q', cal D d z As h Q' → MetD l V D d z As h Q') {X : XT} (hX : ∀ t L S h bc bs, X t L S h bc bs → WR p l e s m args below meth c V D y (d + 1) (QN V Q) (QX V Q) (hp D y t) L S h bc bs)
    {K : KT} {npc : Nat} (hK : ∀ L S h bc bs, K L S h bc bs → WR p l e s m args below meth c V D y (d + 1) (QN V Q) (QX V Q) npc L S h bc bs)
    (pc : Nat) (ins : Instr) (aux : List Nat) (ok : okRow V D y npc pc ins aux) {L : LV} {S : List Value} {h : AH} {bc bs : Nat} (H : one D y (cal D d) X Q K (pc, ins, aux) L S h bc bs) :
    WR p l e s m args below meth c V D y (d + 1) (QN V Q) (QX V Q) pc L S h bc bs := by
  have hgo : ∀ t L S h bc bs, go D y X t L S h bc bs → WR p l e s m args below meth c V D y (d + 1) (QN V Q) (QX V Q) (hp D y t) L S h bc bs := fun t L S h bc bs q => s_mask _ (hX t _ S h bc bs q)
  cases ins with
  | nop =>
    rw [← (show hp D y (ax aux 0) = pc from ok)]
    exact hgo _ _ _ _ _ _ H
  | goto off =>
    obtain ⟨dg, hj⟩ := ok
    exact s_goto C0 hj dg (hgo _ _ _ _ _ _ H)
  | aconst_null =>
    obtain ⟨dg, rfl⟩ := ok
    exact s_null C0 dg (hK _ _ _ _ _ H)
  | iconst n =>
    obtain ⟨dg, rfl⟩ := ok
    exact s_iconst C0 dg (hK _ _ _ _ _ H)
  | bipush n =>
    obtain ⟨dg, rfl⟩ := ok
    exact s_bipush C0 dg (hK _ _ _ _ _ H)
  | sipush n =>
    obtain ⟨dg, rfl⟩ := ok
    exact s_sipush C0 dg (hK _ _ _ _ _ H)
  | lconst n =>
    obtain ⟨dg, rfl⟩ := ok
    exact s_lconst C0 dg (hK _ _ _ _ _ H)
  | ldc i =>
    obtain ⟨⟨dg, rfl⟩, hi⟩ := ok
    exact s_ldc C0 hi dg (hK _ _ _ _ _ H)
  | ldc_w i =>
    obtain ⟨⟨dg, rfl⟩, hi⟩ := ok
    exact s_ldcw C0 hi dg (hK _ _ _ _ _ H)
  | ldc2_w i =>
    obtain ⟨⟨dg, rfl⟩, hi⟩ := ok
    exact s_ldc2 C0 hi dg (hK _ _ _ _ _ H)
  | iload_n k =>
    obtain ⟨⟨dg, rfl⟩, hi⟩ := ok
    obtain ⟨x, hx, H⟩ := lvI_i H
    exact s_iload_n C0 hi hx dg (hK _ _ _ _ _ H)
  | iload i =>
    obtain ⟨⟨dg, rfl⟩, hi⟩ := ok
    subst hi
    obtain ⟨x, hx, H⟩ := lvI_i H
    exact s_iload C0 hx dg (hK _ _ _ _ _ H)
  | lload_n k =>
    obtain ⟨⟨dg, rfl⟩, hi⟩ := ok
    obtain ⟨x, hx, H⟩ := lvL_i H
    exact s_lload_n C0 hi hx dg (hK _ _ _ _ _ H)
  | lload i =>
    obtain ⟨⟨dg, rfl⟩, hi⟩ := ok
    subst hi
    obtain ⟨x, hx, H⟩ := lvL_i H
    exact s_lload C0 hx dg (hK _ _ _ _ _ H)
  | aload_n k =>
    obtain ⟨⟨dg, rfl⟩, hi⟩ := ok
    simp only [one] at H
    obtain ⟨x, hx, H⟩ := lvA_i H
    cases x with
    | none => exact s_aload_nN C0 hi hx dg (hK _ _ _ _ _ H)
    | some a => exact s_aload_nR C0 hi hx dg (hK _ _ _ _ _ H)
  | aload i =>
    obtain ⟨⟨dg, rfl⟩, hi⟩ := ok
    subst hi
    simp only [one] at H
    obtain ⟨x, hx, H⟩ := lvA_i H
    cases x with
    | none => exact s_aloadN C0 hx dg (hK _ _ _ _ _ H)
    | some a => exact s_aloadR C0 hx dg (hK _ _ _ _ _ H)
  | istore_n k =>
    obtain ⟨⟨dg, rfl⟩, hi⟩ := ok
    obtain ⟨x, S, rfl, h1, h2, H⟩ := popI_i H
    exact s_istore_n C0 hi h1 h2 dg (hK _ _ _ _ _ H)
  | istore i =>
    obtain ⟨⟨dg, rfl⟩, hi⟩ := ok
    subst hi
    obtain ⟨x, S, rfl, h1, h2, H⟩ := popI_i H
    exact s_istore C0 h1 h2 dg (hK _ _ _ _ _ H)
  | lstore_n k =>
    obtain ⟨⟨dg, rfl⟩, hi⟩ := ok
    obtain ⟨x, S, rfl, h1, h2, H⟩ := popL_i H
    exact s_lstore_n C0 hi h1 h2 dg (hK _ _ _ _ _ H)
  | lstore i =>
    obtain ⟨⟨dg, rfl⟩, hi⟩ := ok
    subst hi
    obtain ⟨x, S, rfl, h1, h2, H⟩ := popL_i H
    exact s_lstore C0 h1 h2 dg (hK _ _ _ _ _ H)
  | astore_n k =>
    obtain ⟨⟨dg, rfl⟩, hi⟩ := ok
    simp only [one] at H
    obtain ⟨x, S, rfl, h1, h2, H⟩ := popA_i H
    cases x with
    | none => exact s_astore_nN C0 hi h1 h2 dg (hK _ _ _ _ _ H)
    | some a => exact s_astore_nR C0 hi h1 h2 dg (hK _ _ _ _ _ H)
  | astore i =>
    obtain ⟨⟨dg, rfl⟩, hi⟩ := ok
    subst hi
    simp only [one] at H
    obtain ⟨x, S, rfl, h1, h2, H⟩ := popA_i H
    cases x with
    | none => exact s_astoreN C0 h1 h2 dg (hK _ _ _ _ _ H)
    | some a => exact s_astoreR C0 h1 h2 dg (hK _ _ _ _ _ H)
  | iinc i n =>
    obtain ⟨⟨dg, rfl⟩, hi⟩ := ok
    subst hi
    obtain ⟨x, hx, h1, h2, H⟩ := lvI_i H
    exact s_iinc C0 hx h1 dg (hK _ _ _ _ _ H)
  | iadd =>
    obtain ⟨dg, rfl⟩ := ok
    obtain ⟨x, y', S, rfl, H⟩ := pop2I_i H
    exact s_iadd C0 dg (hK _ _ _ _ _ H)
  | isub =>
    obtain ⟨dg, rfl⟩ := ok
    obtain ⟨x, y', S, rfl, H⟩ := pop2I_i H
    exact s_isub C0 dg (hK _ _ _ _ _ H)
  | imul =>
    obtain ⟨dg, rfl⟩ := ok
    obtain ⟨x, y', S, rfl, H⟩ := pop2I_i H
    exact s_imul C0 dg (hK _ _ _ _ _ H)
  | iand =>
    obtain ⟨dg, rfl⟩ := ok
    obtain ⟨x, y', S, rfl, H⟩ := pop2I_i H
    exact s_iand C0 dg (hK _ _ _ _ _ H)
  | ior =>
    obtain ⟨dg, rfl⟩ := ok
    obtain ⟨x, y', S, rfl, H⟩ := pop2I_i H
    exact s_ior C0 dg (hK _ _ _ _ _ H)
  | ixor =>
    obtain ⟨dg, rfl⟩ := ok
    obtain ⟨x, y', S, rfl, H⟩ := pop2I_i H
    exact s_ixor C0 dg (hK _ _ _ _ _ H)
  | ishl =>
    obtain ⟨dg, rfl⟩ := ok
    obtain ⟨x, y', S, rfl, H⟩ := pop2I_i H
    exact s_ishl C0 dg (hK _ _ _ _ _ H)
  | ishr =>
    obtain ⟨dg, rfl⟩ := ok
    obtain ⟨x, y', S, rfl, H⟩ := pop2I_i H
    exact s_ishr C0 dg (hK _ _ _ _ _ H)
  | iushr =>
    obtain ⟨dg, rfl⟩ := ok
    obtain ⟨x, y', S, rfl, H⟩ := pop2I_i H
    exact s_iushr C0 dg (hK _ _ _ _ _ H)
  | idiv =>
    obtain ⟨dg, rfl⟩ := ok
    obtain ⟨x, y', S, rfl, h1, H⟩ := pop2I_i H
    exact s_idiv C0 h1 dg (hK _ _ _ _ _ H)
  | irem =>
    obtain ⟨dg, rfl⟩ := ok
    obtain ⟨x, y', S, rfl, h1, H⟩ := pop2I_i H
    exact s_irem C0 h1 dg (hK _ _ _ _ _ H)
  | i2l =>
    obtain ⟨dg, rfl⟩ := ok
    obtain ⟨x, S, rfl, H⟩ := popI_i H
    exact s_i2l C0 dg (hK _ _ _ _ _ H)
  | i2b =>
    obtain ⟨dg, rfl⟩ := ok
    obtain ⟨x, S, rfl, H⟩ := popI_i H
    exact s_i2b C0 dg (hK _ _ _ _ _ H)
  | i2c =>
    obtain ⟨dg, rfl⟩ := ok
    obtain ⟨x, S, rfl, H⟩ := popI_i H
    exact s_i2c C0 dg (hK _ _ _ _ _ H)
  | ladd =>
    obtain ⟨dg, rfl⟩ := ok
    obtain ⟨x, y', S, rfl, H⟩ := pop2L_i H
    exact s_ladd C0 dg (hK _ _ _ _ _ H)
  | lmul =>
    obtain ⟨dg, rfl⟩ := ok
    obtain ⟨x, y', S, rfl, H⟩ := pop2L_i H
    exact s_lmul C0 dg (hK _ _ _ _ _ H)
  | lcmp =>
    obtain ⟨dg, rfl⟩ := ok
    obtain ⟨x, y', S, rfl, H⟩ := pop2L_i H
    exact s_lcmp C0 dg (hK _ _ _ _ _ H)
  | dup =>
    obtain ⟨dg, rfl⟩ := ok
    obtain ⟨v, S, rfl, h1, H⟩ := pop1_i H
    exact s_dup C0 h1 dg (hK _ _ _ _ _ H)
  | pop =>
    obtain ⟨dg, rfl⟩ := ok
    obtain ⟨v, S, rfl, h1, H⟩ := pop1_i H
    exact s_pop C0 h1 dg (hK _ _ _ _ _ H)
  | pop2 =>
    obtain ⟨dg, rfl⟩ := ok
    obtain ⟨x, S, rfl, H⟩ := popL_i H
    exact s_pop2 C0 (v := .long x) rfl dg (hK _ _ _ _ _ H)
  | dup_x1 =>
    obtain ⟨dg, rfl⟩ := ok
    obtain ⟨v, S, rfl, h1, H⟩ := pop1_i H
    obtain ⟨w, S, rfl, h2, H⟩ := pop1_i H
    exact s_dup_x1 C0 h1 h2 dg (hK _ _ _ _ _ H)
  | dup2 =>
    obtain ⟨dg, rfl⟩ := ok
    obtain ⟨v, S, rfl, h1, H⟩ := pop1_i H
    obtain ⟨w, S, rfl, h2, H⟩ := pop1_i H
    exact s_dup2 C0 h1 h2 dg (hK _ _ _ _ _ H)
  | if_icmp cn off =>
    obtain ⟨⟨dg, rfl⟩, hj⟩ := ok
    obtain ⟨x, y', S, rfl, h1, h2⟩ := pop2I_i H
    exact s_icmp C0 cn hj dg (fun q => hgo _ _ _ _ _ _ (h1 q)) (fun q => hK _ _ _ _ _ (h2 q))
  | ifCond cn off =>
    obtain ⟨⟨dg, rfl⟩, hj⟩ := ok
    obtain ⟨x, S, rfl, h1, h2⟩ := popI_i H
    exact s_if C0 cn hj dg (fun q => hgo _ _ _ _ _ _ (h1 q)) (fun q => hK _ _ _ _ _ (h2 q))
  | if_acmp cn off =>
    obtain ⟨⟨dg, rfl⟩, hj⟩ := ok
    simp only [one] at H
    obtain ⟨x, y', S, rfl, h1, h2⟩ := pop2A_i H
    exact s_acmp C0 cn hj dg (fun q => hgo _ _ _ _ _ _ (h1 q)) (fun q => hK _ _ _ _ _ (h2 q))
  | ifnull off =>
    obtain ⟨⟨dg, rfl⟩, hj⟩ := ok
    simp only [one] at H
    obtain ⟨x, S, rfl, h1, h2⟩ := popA_i H
    exact s_ifnull C0 hj dg (fun q => hgo _ _ _ _ _ _ (h1 q)) (fun q => hK _ _ _ _ _ (h2 q))
  | ifnonnull off =>
    obtain ⟨⟨dg, rfl⟩, hj⟩ := ok
    simp only [one] at H
    obtain ⟨x, S, rfl, h1, h2⟩ := popA_i H
    exact s_ifnonnull C0 hj dg (fun q => hgo _ _ _ _ _ _ (h1 q)) (fun q => hK _ _ _ _ _ (h2 q))
  | tableswitch dflt lo hi offs =>
    obtain ⟨⟨len, dg⟩, hj0, hsz, hj⟩ := ok
    obtain ⟨x, S, rfl, H⟩ := popI_i H
    have H : go D y X (tsw lo hi x aux) L S h bc bs := H
    by_cases hc : x.toInt < lo ∨ hi < x.toInt
    · rw [show tsw lo hi x aux = ax aux 0 from if_pos hc] at H
      exact s_tswOut C0 dg hc hj0 (hgo _ _ _ _ _ _ H)
    · rw [show tsw lo hi x aux = ax aux ((x.toInt - lo).toNat + 1) from if_neg hc] at H
      have h1 : ¬ x.toInt < lo := fun q => hc (Or.inl q)
      have h2 : ¬ hi < x.toInt := fun q => hc (Or.inr q)
      have hlt : (x.toInt - lo).toNat < offs.size := by omega
      exact s_tswIn C0 dg h1 h2 (off := offs.getD (x.toInt - lo).toNat 0) (by simp [Array.getD, hlt]) (hj _ hlt) (hgo _ _ _ _ _ _ H)
  | lookupswitch dflt ps =>
    obtain ⟨⟨len, dg⟩, hp0, hj⟩ := ok
    obtain ⟨x, S, rfl, H⟩ := popI_i H
    exact s_lsw C0 dg hp0 rfl (hj _) (hgo _ _ _ _ _ _ H)
  | ireturn =>
    obtain ⟨x, S, rfl, rfl, h1, h2⟩ := popI_i H
    exact s_iret C0 h1 h2 ok
  | lreturn =>
    obtain ⟨x, S, rfl, rfl, h1, h2⟩ := popL_i H
    exact s_lret C0 h1 h2 ok
  | areturn =>
    simp only [one] at H
    obtain ⟨x, S, rfl, rfl, h1, h2⟩ := popA_i H
    exact s_aret C0 h1 h2 ok
  | return_ =>
    obtain ⟨rfl, h1, h2⟩ := H
    exact s_vret C0 h1 h2 ok
  | getfield i =>
    obtain ⟨⟨dg, rfl⟩, r, hr1, hr2, ref, hs, hl⟩ := ok
    obtain ⟨a, S, rfl, H⟩ := popR_i H
    rcases gF_i H with ⟨fs, v, h1, h2, H⟩ | ⟨g, h1, hk0, H⟩
    · rcases hl with hl | ⟨host, hl⟩
      · exact s_getf C0 T0 h1 h2 hr1 hr2 hl hs dg (hK _ _ _ _ _ H)
      · exact s_getfN C0 T0 h1 h2 hr1 hr2 hl hs dg (hK _ _ _ _ _ H)
    · rw [hk0] at hr2 hs hl
      rcases hl with hl | ⟨host, hl⟩
      · exact s_getfO C0 T0 h1 hr1 hr2 hl hs dg (hK _ _ _ _ _ H)
      · exact s_getfON C0 T0 h1 hr1 hr2 hl hs dg (hK _ _ _ _ _ H)
  | putfield i =>
    obtain ⟨⟨dg, rfl⟩, r, hr1, hr2, ref, hs, hl⟩ := ok
    obtain ⟨v, a, S, rfl, h3, h4, H⟩ := popV_i H
    obtain ⟨fs, h1, h2, H⟩ := pF_i H
    rcases hl with ⟨hl, hf⟩ | ⟨host, hl, hf⟩
    · exact s_putf C0 T0 h1 h2 hr1 hr2 h3 h4 hl hs hf dg (hK _ _ _ _ _ H)
    · exact s_putfN C0 T0 h1 h2 hr1 hr2 h3 h4 hl hs hf dg (hK _ _ _ _ _ H)
  | getstatic i =>
    obtain ⟨⟨dg, rfl⟩, q, ref, h1, h2, h3⟩ := ok
    exact s_gets C0 h1 h2 h3 dg (hK _ _ _ _ _ H)
  | new i =>
    obtain ⟨⟨dg, rfl⟩, r, h1, h2, h3, h4⟩ := ok
    obtain ⟨b1, b2, H⟩ := H
    exact s_new C0 T0 h1 h2 h3 h4 b1 b2 dg (fun a ha => hK _ _ _ _ _ (H a ha))
  | athrow =>
    obtain ⟨ik, is, ic, text, names, t1, t2, t3, t4, t5, t6, t7, t8, t9⟩ := ok
    obtain ⟨b1, b2, b3, H⟩ := H
    exact s_throw C0 T0 t1 t2 t3 t4 t5 t6 t7 t8 t9 (by rw [← catsum_eq]; exact b3) b1 b2 H
  | newarray at_ =>
    obtain ⟨⟨dg, rfl⟩, ha⟩ := ok
    obtain ⟨n, S, rfl, h1, h2, h3, h4, H⟩ := popI_i H
    rcases ha with ⟨rfl, ht, hw⟩ | ⟨rfl, ht, hw⟩
    · have ht' : ax aux 0 = 0 := ht
      exact s_newa C0 T0 (t := ax aux 0) (at_ := .int) (by rw [ht']; exact T0.2.1.1) (by omega) (fun _ _ => rfl) (by decide) (fun U a b ha hb => Option.some.inj ((va_nm_int ha).symm.trans (va_nm_int hb))) hw h1 h2 h3 h4 dg (fun a ha => hK _ _ _ _ _ (H a ha))
    · have ht' : ax aux 0 = 1 := ht
      exact s_newa C0 T0 (t := ax aux 0) (at_ := .byte) (by rw [ht']; exact T0.2.1.2.1) (by omega) (fun _ _ => rfl) (by decide) (fun U a b ha hb => Option.some.inj ((va_nm_byte ha).symm.trans (va_nm_byte hb))) hw h1 h2 h3 h4 dg (fun a ha => hK _ _ _ _ _ (H a ha))
  | anewarray i =>
    obtain ⟨⟨dg, rfl⟩, C, t1, t2, t3⟩ := ok
    obtain ⟨n, S, rfl, h1, h2, h3, h4, H⟩ := popI_i H
    exact s_newq C0 T0 t1 t2 t3 h1 h2 h3 h4 dg (fun a ha => hK _ _ _ _ _ (H a ha))
  | arraylength =>
    obtain ⟨dg, rfl⟩ := ok
    obtain ⟨a, S, rfl, H⟩ := popR_i H
    obtain ⟨t, n, g, h1, h2, H⟩ := aN_i H
    exact s_alen C0 T0 h1 h2 dg (hK _ _ _ _ _ H)
  | iaload =>
    obtain ⟨dg, rfl⟩ := ok
    obtain ⟨i, a, S, rfl, H⟩ := popIR_i H
    obtain ⟨t, n, g, h1, h2, h3, H⟩ := aI_i H
    exact s_iald C0 T0 h1 h2 h3 dg (hK _ _ _ _ _ H)
  | baload =>
    obtain ⟨dg, rfl⟩ := ok
    obtain ⟨i, a, S, rfl, H⟩ := popIR_i H
    obtain ⟨t, n, g, h1, rfl, h3, H⟩ := aI_i H
    exact s_bald C0 T0 h1 h3 dg (hK _ _ _ _ _ H)
  | aaload =>
    obtain ⟨dg, rfl⟩ := ok
    obtain ⟨i, a, S, rfl, H⟩ := popIR_i H
    obtain ⟨t, n, g, h1, h2, h3, H⟩ := aQ_i H
    exact s_aald C0 T0 h1 h2 h3 dg (hK _ _ _ _ _ H)
  | iastore =>
    obtain ⟨dg, rfl⟩ := ok
    obtain ⟨x, i, a, S, rfl, H⟩ := popIIR_i H
    obtain ⟨t, n, g, h1, rfl, h3, H⟩ := aI_i H
    exact s_iast C0 T0 h1 h3 dg (hK _ _ _ _ _ H)
  | bastore =>
    obtain ⟨dg, rfl⟩ := ok
    obtain ⟨x, i, a, S, rfl, H⟩ := popIIR_i H
    obtain ⟨t, n, g, h1, rfl, h3, H⟩ := aI_i H
    exact s_bast C0 T0 h1 h3 dg (hK _ _ _ _ _ H)
  | aastore =>
    obtain ⟨dg, rfl⟩ := ok
    simp only [one] at H
    obtain ⟨v, i, a, S, rfl, H2⟩ := popAIR_i H
    obtain ⟨t, n, g, h1, h2, h3, h4, H3⟩ := aQ_i H2
    exact s_aast C0 T0 T1 h1 h2 h3 h4 dg (hK _ _ _ _ _ H3)
  | checkcast i =>
    obtain ⟨⟨dg, rfl⟩, nm, hn, ho, ha⟩ := ok
    simp only [one] at H
    obtain ⟨x, S, rfl, h1, H⟩ := popA_i H
    cases x with
    | none => exact s_castN C0 hn dg (hK _ _ _ _ _ H)
    | some a =>
      have h2 := h1 a rfl
      cases hh : h a with
      | none => rw [hh] at h2; exact h2.elim
      | some e2 =>
        rw [hh] at h2
        rcases e2 with ⟨t, n, g⟩ | ⟨ci, fs⟩
        · rcases h2 with ⟨rfl, h2⟩ | ⟨-, h2⟩
          · obtain ⟨r, hr1, rfl⟩ := ho n h2
            exact s_castO C0 (by rw [hh]; exact ⟨rfl, rfl⟩) hr1 hn dg (hK _ _ _ _ _ H)
          · obtain ⟨rfl, rfl⟩ := ha t h2
            exact s_castA C0 T0 hh hn dg (hK _ _ _ _ _ H)
        · obtain ⟨r, hr1, rfl⟩ := ho ci h2
          exact s_castE C0 T0 hh hr1 hn dg (hK _ _ _ _ _ H)
  | instanceof i =>
    obtain ⟨⟨dg, rfl⟩, r, hr1, hn⟩ := ok
    obtain ⟨a, S, rfl, h1, H⟩ := popR_i H
    exact s_instO C0 h1 hr1 hn dg (hK _ _ _ _ _ H)
  | invokestatic i =>
    obtain ⟨⟨dg, rfl⟩, okc, hst, hl⟩ := ok
    obtain ⟨c1, c2, c3, c4, c5, H⟩ := H
    obtain ⟨e1, e2⟩ := of_static c1 rfl
    have e1' : S = (argsOf (ax aux 1) S []).reverse ++ S.drop (ax aux 1) := e1
    have H : cal D d (ax aux 0) (argsOf (ax aux 1) S []) h (qc (hlist D y (ax aux 2)) X K L (S.drop (ax aux 1)) (bc - mBc D (ax aux 0)) (bs - mBs D (ax aux 0))) := H
    have c3 : catsum (S.drop (ax aux 1)) ≤ 8 := c3
    have e2 : (argsOf (ax aux 1) S []).length = ax aux 1 := e2
    generalize hA : argsOf (ax aux 1) S [] = As at e1' H e2
    generalize hR : S.drop (ax aux 1) = rest at e1' H c3
    have hM := IH _ _ _ _ H
    have c4 : mBc D (ax aux 0) ≤ bc := c4
    have c5 : mBs D (ax aux 0) ≤ bs := c5
    intro Hp locs cells slots ls hl2 hO hX2 hS hc hs
    rw [e1']
    rcases hl with ⟨hh, hl⟩ | ⟨hh, hz, host, hl⟩ | ⟨hh, hz, hl⟩
    · by_cases hz : mHH D (ax aux 0) = []
      · exact s_run C0 (h := h) hl2 hS hc hs c4 c5 (w_static C0 T0 hnw hO hX2 hS hl2 okc hz hM (fun k h' q => by have q2 : hand (hlist D y _) k _ := q; rw [hl_no hh] at q2; exact q2) e2 c3 hl hst dg (by omega) (by omega)) (fun v h' q => hK _ _ _ _ _ q)
      · exact s_run C0 (h := h) hl2 hS hc hs c4 c5 (w_staticT C0 T0 hnw hO hX2 hS hl2 okc hz hM (fun k h' q => by have q2 : hand (hlist D y _) k _ := q; rw [hl_no hh] at q2; exact q2) e2 c3 hl hst dg (by omega) (by omega)) (fun v h' q => hK _ _ _ _ _ q)
    · exact s_run C0 (h := h) hl2 hS hc hs c4 c5 (w_statN C0 T0 hnw hO hX2 hS hl2 okc hz hM (fun k h' q => by have q2 : hand (hlist D y _) k _ := q; rw [hl_no hh] at q2; exact q2) e2 c3 hl hst dg (by omega) (by omega)) (fun v h' q => hK _ _ _ _ _ q)
    · exact s_runX C0 (h := h) hl2 hS hc hs c4 c5 (w_staticX C0 T0 hnw hO hX2 hS hl2 okc hz hM e2 c3 hl hst dg (by omega) (by omega)) (fun v h' q => hK _ _ _ _ _ q) (fun k h' q => by
        obtain ⟨t, q1, q2⟩ := hand_i q
        exact ⟨hp D y t, fun a => hX _ _ _ _ _ _ (q2 a), hh k t (hl_in q1)⟩) T0
  | invokevirtual i =>
    obtain ⟨⟨dg, rfl⟩, ok⟩ := ok
    obtain ⟨c1, ⟨b, hb1, hb2⟩, c3, c4, c5, H⟩ := H
    obtain ⟨e1, e2, e3⟩ := of_recv hb1
    have e3' : argsOf (if (2 : Nat) = 0 then ax aux 1 else ax aux 1 + 1) S [] = .ref b :: (S.take (ax aux 1)).reverse := e3
    rw [e3'] at H
    have hR' : S.drop (if (2 : Nat) = 0 then ax aux 1 else ax aux 1 + 1) = S.drop (ax aux 1 + 1) := rfl
    rw [hR'] at H c3
    generalize hA : (S.take (ax aux 1)).reverse = As at e1 H e2
    generalize hR : S.drop (ax aux 1 + 1) = rest at e1 H c3
    have hM := IH _ _ _ _ H
    have c4 : mBc D (ax aux 0) ≤ bc := c4
    have c5 : mBs D (ax aux 0) ≤ bs := c5
    intro Hp locs cells slots ls hl2 hO hX2 hS hc hs
    rw [e1]
    rcases ok with ⟨okc, hz, hin, hse, ⟨r, hr1, hr2⟩, hl⟩ | ⟨okc, hz, hh, hin, r, x, hr1, hl, hsel, ⟨hsm, hyx⟩ | ⟨owner, b0, m0, r0, o1, o2, o3, o4, o5, o6⟩⟩
    · rcases hl with ⟨hh, hl⟩ | ⟨hh, host, hl⟩ | ⟨hh, hl⟩
      · exact s_run C0 (h := h) hl2 hS hc hs c4 c5 (w_virt C0 T0 hnw hO hX2 hS hl2 okc hz hM (fun k h' q => by have q2 : hand (hlist D y _) k _ := q; rw [hl_no hh] at q2; exact q2) e2 c3 hr1 hb2 hr2 hl hin hse dg (by omega) (by omega)) (fun v h' q => hK _ _ _ _ _ q)
      · exact s_run C0 (h := h) hl2 hS hc hs c4 c5 (w_virtN C0 T0 hnw hO hX2 hS hl2 okc hz hM (fun k h' q => by have q2 : hand (hlist D y _) k _ := q; rw [hl_no hh] at q2; exact q2) e2 c3 hr1 hb2 hr2 hl hin hse dg (by omega) (by omega)) (fun v h' q => hK _ _ _ _ _ q)
      · exact s_runX C0 (h := h) hl2 hS hc hs c4 c5 (w_virtX C0 T0 hnw hO hX2 hS hl2 okc hz hM e2 c3 hr1 hb2 hr2 hl hin hse dg (by omega) (by omega)) (fun v h' q => hK _ _ _ _ _ q) (fun k h' q => by
          obtain ⟨t, q1, q2⟩ := hand_i q
          exact ⟨hp D y t, fun a => hX _ _ _ _ _ _ (q2 a), hh k t (hl_in q1)⟩) T0
    · exact s_run C0 (h := h) hl2 hS hc hs c4 c5 (w_virtU C0 T0 hnw hO hX2 hS hl2 okc hz hM (fun k h' q => by have q2 : hand (hlist D y _) k _ := q; rw [hl_no hh] at q2; exact q2) e2 c3 hr1 hb2 hl hsm hsel hin hyx dg (by omega) (by omega)) (fun v h' q => hK _ _ _ _ _ q)
    · exact s_run C0 (h := h) hl2 hS hc hs c4 c5 (w_virtO C0 T0 hnw hO hX2 hS hl2 okc hz hM (fun k h' q => by have q2 : hand (hlist D y _) k _ := q; rw [hl_no hh] at q2; exact q2) e2 c3 hr1 hb2 o1 o2 o3 hl o4 o5 hsel hin o6 dg (by omega) (by omega)) (fun v h' q => hK _ _ _ _ _ q)
  | invokespecial i =>
    obtain ⟨⟨dg, rfl⟩, ok⟩ := ok
    by_cases h7 : ax aux 2 = 7
    · rw [if_pos h7] at ok
      obtain ⟨o1, o2, o3⟩ := ok
      have H' : popR S fun _ S => catsum S ≤ 8 ∧ K L S h bc bs := by
        have := H
        simp only [one, h7, if_true] at this
        exact this
      obtain ⟨a, S, rfl, h1, H⟩ := popR_i H'
      exact s_objInit C0 o1 o2 o3 (by rw [← catsum_eq]; exact h1) dg (hK _ _ _ _ _ H)
    · rw [if_neg h7] at ok
      by_cases h8 : ax aux 2 = 8
      · rw [if_pos h8] at ok
        have H' : callK D [] (cal D d) X K (ax aux 0) (ax aux 1) 2 (ax aux 3) L S h bc bs := by
          have := H
          simp only [one, if_neg h7, if_pos h8] at this
          exact this
        clear H
        obtain ⟨okc, hz, hin, ⟨r, hr1⟩, hl, hsm, hsu, hne⟩ := ok
        obtain ⟨c1, ⟨b, hb1, hb2⟩, c3, c4, c5, H⟩ := H'
        obtain ⟨e1, e2, e3⟩ := of_recv hb1
        have e3' : argsOf (if (2 : Nat) = 0 then ax aux 1 else ax aux 1 + 1) S [] = .ref b :: (S.take (ax aux 1)).reverse := e3
        rw [e3'] at H
        have hR' : S.drop (if (2 : Nat) = 0 then ax aux 1 else ax aux 1 + 1) = S.drop (ax aux 1 + 1) := rfl
        rw [hR'] at H c3
        generalize hA : (S.take (ax aux 1)).reverse = As at e1 H e2
        generalize hR : S.drop (ax aux 1 + 1) = rest at e1 H c3
        have hM := IH _ _ _ _ H
        intro Hp locs cells slots ls hl2 hO hX2 hS hc hs
        rw [e1]
        exact s_run C0 (h := h) hl2 hS hc hs c4 c5 (w_super C0 T0 hnw hO hX2 hS hl2 okc hz hM (fun k h' q => q) e2 c3 hr1 hb2 hl hsm hsu hin hne dg (by omega) (by omega)) (fun v h' q => hK _ _ _ _ _ q)
      rw [if_neg h8] at ok
      have H' : callK D [] (cal D d) X K (ax aux 0) (ax aux 1) 1 0 L S h bc bs := by
        have := H
        simp only [one, if_neg h7, if_neg h8] at this
        exact this
      clear H
      obtain ⟨okc, hz, hre, hna, hin, hl⟩ := ok
      obtain ⟨c1, ⟨b, hb1⟩, c3, c4, c5, H⟩ := H'
      obtain ⟨e1, e2, e3⟩ := of_recv hb1
      have e3' : argsOf (if (1 : Nat) = 0 then ax aux 1 else ax aux 1 + 1) S [] = .ref b :: (S.take (ax aux 1)).reverse := e3
      rw [e3'] at H
      have hR' : S.drop (if (1 : Nat) = 0 then ax aux 1 else ax aux 1 + 1) = S.drop (ax aux 1 + 1) := rfl
      rw [hR'] at H c3
      generalize hA : (S.take (ax aux 1)).reverse = As at e1 H e2
      generalize hR : S.drop (ax aux 1 + 1) = rest at e1 H c3
      have hM := IH _ _ _ _ H
      have c4 : mBc D (ax aux 0) ≤ bc := c4
      have c5 : mBs D (ax aux 0) ≤ bs := c5
      intro Hp locs cells slots ls hl2 hO hX2 hS hc hs
      rw [e1]
      rcases hl with hl | ⟨host, hl⟩
      · exact s_run C0 (h := h) hl2 hS hc hs c4 c5 (w_init C0 T0 hnw hO hX2 hS hl2 okc hz hM (fun k h' q => q) e2 c3 hre hna hl hin dg (by omega) (by omega)) (fun v h' q => hK _ _ _ _ _ q)
      · exact s_run C0 (h := h) hl2 hS hc hs c4 c5 (w_initN C0 T0 hnw hO hX2 hS hl2 okc hz hM (fun k h' q => q) e2 c3 hre hna hl hin dg (by omega) (by omega)) (fun v h' q => hK _ _ _ _ _ q)
  | invokeinterface i cnt =>
    obtain ⟨⟨dg, rfl⟩, ok⟩ := ok
    obtain ⟨c1, ⟨b, hb1, hb2⟩, c3, c4, c5, H⟩ := H
    obtain ⟨e1, e2, e3⟩ := of_recv hb1
    have e3' : argsOf (if (2 : Nat) = 0 then ax aux 1 else ax aux 1 + 1) S [] = .ref b :: (S.take (ax aux 1)).reverse := e3
    rw [e3'] at H
    have hR' : S.drop (if (2 : Nat) = 0 then ax aux 1 else ax aux 1 + 1) = S.drop (ax aux 1 + 1) := rfl
    rw [hR'] at H c3
    generalize hA : (S.take (ax aux 1)).reverse = As at e1 H e2
    generalize hR : S.drop (ax aux 1 + 1) = rest at e1 H c3
    have hM := IH _ _ _ _ H
    have c4 : mBc D (ax aux 0) ≤ bc := c4
    have c5 : mBs D (ax aux 0) ≤ bs := c5
    intro Hp locs cells slots ls hl2 hO hX2 hS hc hs
    rw [e1]
    obtain ⟨okc, hz, hin, r, x, hr1, hl, hse, x1, x2, x3, f1, f2, f3, f4, f5⟩ := ok
    exact s_run5 C0 (h := h) hl2 hS hc hs c4 c5 (w_face C0 T0 hnw hO hX2 hS hl2 okc hz hM (fun k h' q => q) e2 c3 hr1 hb2 hl hse hin x1 x2 x3 f1 f2 f3 f4 f5 dg (by omega) (by omega)) (fun v h' q => hK _ _ _ _ _ q)
  | monitorenter =>
    obtain ⟨idx, dg, rfl, w1, w2, w3, w4, w5⟩ := ok
    simp only [one] at H
    obtain ⟨a, S, rfl, H2⟩ := popR_i H
    obtain ⟨t, n, g, h1, rfl, h3, H3⟩ := aQ_i H2
    exact s_getC C0 T0 h1 (by rw [← catsum_eq]; exact h3) (Or.inl w1) w2 w3 w4 w5 dg (hK _ _ _ _ _ H3)
  | monitorexit =>
    obtain ⟨idx, dg, rfl, w1⟩ := ok
    exact s_ldcM C0 w1 dg (hK _ _ _ _ _ H)
  | ineg =>
    obtain ⟨dg, rfl⟩ := ok
    obtain ⟨x, S, rfl, H⟩ := popI_i H
    exact s_ineg C0 dg (hK _ _ _ _ _ H)
  | jsr off =>
    obtain ⟨idx, dg, rfl, w1, w2, w3, w4⟩ := ok
    simp only [one] at H
    obtain ⟨n, dp, a2, sp, a, S, rfl, H2⟩ := popCopy_i H
    obtain ⟨t0, n0, f, h1, H3⟩ := aI_i H2
    obtain ⟨t1, n1, g, h2, rfl, rfl, h3, h4, h5, h6, h7, h8, h9, H4⟩ := aI_i H3
    exact s_copyb C0 T0 h1 h2 (by rw [← catsum_eq]; exact h3) h4 h5 h6 h7 h8 h9 (Or.inl w1) w2 w3 w4 dg (hK _ _ _ _ _ H4)
  | swap =>
    obtain ⟨idx, dg, rfl, w1, w2, w3, w4⟩ := ok
    simp only [one] at H
    obtain ⟨n, dp, a2, sp, a, S, rfl, H2⟩ := popCopy_i H
    obtain ⟨t0, n0, f, h1, H3⟩ := aQ_i H2
    obtain ⟨t1, n1, g, h2, rfl, rfl, h3, h4, h5, h6, h7, h8, ⟨ci, h9, h10⟩, H4⟩ := aQ_i H3
    exact s_copyq C0 T0 T1 h1 h2 (by rw [← catsum_eq]; exact h3) h4 h5 h6 h7 h8 h9 h10 (Or.inl w1) w2 w3 w4 dg (hK _ _ _ _ _ H4)
  | _ => exact False.elim H
theorem ex_sound {p : Program} {l : Launch} {e : Env} {s : State} {m : MethodId} {args : Array Value} {below : List Frame} {meth : Method} {c : Code} {V : EV} {D : TB} {y d : Nat} {Q : RS → AH → Prop} (C0 : Cx p l s m args meth c V D y) (T0 : TV V D) (T1 : StOk V D) (hnw : NW V)
    (IH : ∀ z As h Q', cal D d z As h Q' → MetD l V D d z As h Q') {X : XT} (hX : ∀ t L S h bc bs, X t L S h bc bs → WR p l e s m args below meth c V D y (d + 1) (QN V Q) (QX V Q) (hp D y t) L S h bc bs) :
    ∀ (seg : List AI), okSeg V D y seg → ∀ (L : LV) (S : List Value) (h : AH) (bc bs : Nat), ex D y (cal D d) X Q seg L S h bc bs → WR p l e s m args below meth c V D y (d + 1) (QN V Q) (QX V Q) (hd0 seg) L S h bc bs
  | [], _, _, _, _, _, _, H => H.elim
  | (pc, ins, aux) :: rest, ok, L, S, h, bc, bs, H => by
    have IH2 := ex_sound C0 T0 T1 hnw IH hX rest ok.2
    exact one_sound C0 T0 T1 hnw IH hX (K := ex D y (cal D d) X Q rest) (npc := hd0 rest) (fun L S h bc bs q => IH2 L S h bc bs q) pc ins aux ok.1 H
end One
