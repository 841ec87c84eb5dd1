theorem castO (j : Nat) {nm : String} (hj : (vwCl[j]?.map (·.1)) = some nm) : ∀ c, DDc j c = true → ∃ r : vw_C, vwCl[c]? = some r ∧ r.1 = nm := by
  intro c hc
  simp only [DDc, Bool.and_eq_true, beq_iff_eq] at hc
  obtain ⟨rfl, -⟩ := hc
  cases h : vwCl[j]? with
  | none => rw [h] at hj; cases hj
  | some r => rw [h] at hj; exact ⟨r, rfl, Option.some.inj hj⟩
theorem castA (j : Nat) {nm : String} (hj : (j == 100) = false) : ∀ t, DDa j t = true → t = 0 ∧ nm = "[I" := by
  intro t ht
  simp [DDa, hj] at ht
theorem cast100a : ∀ c, DDc 100 c = true → ∃ r : vw_C, vwCl[c]? = some r ∧ r.1 = "[I" := by
  intro c h
  simp only [DDc, Bool.and_eq_true, beq_iff_eq, decide_eq_true_eq] at h
  obtain ⟨rfl, h⟩ := h
  omega
theorem cast100b : ∀ t, DDa 100 t = true → t = 0 ∧ "[I" = "[I" := by
  intro t h
  simp only [DDa, Bool.and_eq_true, beq_iff_eq] at h
  exact ⟨h.2, rfl⟩
theorem mq_0 (em mi ic : Nat) : (DD em mi ic).1 0 = mt0 := rfl
theorem mb0 (em mi ic : Nat) : mBytes (DD em mi ic) 0 = cL_law := congrArg (fun x : MI => x.1.2.1) (mq_0 em mi ic)
theorem mo0 (em mi ic : Nat) : mOwn (DD em mi ic) 0 = "TwelvehundredLaw" := congrArg (fun x : MI => x.1.1.cls) (mq_0 em mi ic)
theorem mn0 (em mi ic : Nat) : mName (DD em mi ic) 0 = yL_law := congrArg (fun x : MI => x.1.1) (mq_0 em mi ic)
theorem rt_0 (em mi ic : Nat) : mRet (DD em mi ic) 0 = some .boolean := congrArg (fun x : MI => x.1.2.2.2) (mq_0 em mi ic)
theorem ml_0 (em mi ic : Nat) : mMaxL (DD em mi ic) 0 = 7 := congrArg (fun x : MI => x.1.2.2.1) (mq_0 em mi ic)
theorem hh0 (em mi ic : Nat) : mHH (DD em mi ic) 0 = [] := congrArg (fun x : MI => x.2.2.2.2) (mq_0 em mi ic)
theorem hp0_0 (em mi ic : Nat) : hp (DD em mi ic) 0 0 = 0 := congrArg (fun x : MI => hd0 (x.2.2.1 0).1) (mq_0 em mi ic)
theorem hp0_1 (em mi ic : Nat) : hp (DD em mi ic) 0 1 = 27 := congrArg (fun x : MI => hd0 (x.2.2.1 1).1) (mq_0 em mi ic)
theorem hp0_6 (em mi ic : Nat) : hp (DD em mi ic) 0 6 = 306 := congrArg (fun x : MI => hd0 (x.2.2.1 6).1) (mq_0 em mi ic)
theorem hp0_7 (em mi ic : Nat) : hp (DD em mi ic) 0 7 = 307 := congrArg (fun x : MI => hd0 (x.2.2.1 7).1) (mq_0 em mi ic)
theorem hp0_8 (em mi ic : Nat) : hp (DD em mi ic) 0 8 = 339 := congrArg (fun x : MI => hd0 (x.2.2.1 8).1) (mq_0 em mi ic)
theorem hp0_9 (em mi ic : Nat) : hp (DD em mi ic) 0 9 = 340 := congrArg (fun x : MI => hd0 (x.2.2.1 9).1) (mq_0 em mi ic)
theorem hp0_14 (em mi ic : Nat) : hp (DD em mi ic) 0 14 = 480 := congrArg (fun x : MI => hd0 (x.2.2.1 14).1) (mq_0 em mi ic)
theorem hp0_15 (em mi ic : Nat) : hp (DD em mi ic) 0 15 = 498 := congrArg (fun x : MI => hd0 (x.2.2.1 15).1) (mq_0 em mi ic)
theorem hp0_20 (em mi ic : Nat) : hp (DD em mi ic) 0 20 = 617 := congrArg (fun x : MI => hd0 (x.2.2.1 20).1) (mq_0 em mi ic)
theorem hp0_21 (em mi ic : Nat) : hp (DD em mi ic) 0 21 = 618 := congrArg (fun x : MI => hd0 (x.2.2.1 21).1) (mq_0 em mi ic)
theorem hp0_22 (em mi ic : Nat) : hp (DD em mi ic) 0 22 = 644 := congrArg (fun x : MI => hd0 (x.2.2.1 22).1) (mq_0 em mi ic)
theorem hp0_23 (em mi ic : Nat) : hp (DD em mi ic) 0 23 = 645 := congrArg (fun x : MI => hd0 (x.2.2.1 23).1) (mq_0 em mi ic)
theorem hp0_38 (em mi ic : Nat) : hp (DD em mi ic) 0 38 = 1039 := congrArg (fun x : MI => hd0 (x.2.2.1 38).1) (mq_0 em mi ic)
theorem hp0_39 (em mi ic : Nat) : hp (DD em mi ic) 0 39 = 1045 := congrArg (fun x : MI => hd0 (x.2.2.1 39).1) (mq_0 em mi ic)
theorem mq_1 (em mi ic : Nat) : (DD em mi ic).1 1 = mt1 := rfl
theorem mb1 (em mi ic : Nat) : mBytes (DD em mi ic) 1 = cX11_init := congrArg (fun x : MI => x.1.2.1) (mq_1 em mi ic)
theorem mo1 (em mi ic : Nat) : mOwn (DD em mi ic) 1 = "Twelvehundred" := congrArg (fun x : MI => x.1.1.cls) (mq_1 em mi ic)
theorem mn1 (em mi ic : Nat) : mName (DD em mi ic) 1 = yX11_init := congrArg (fun x : MI => x.1.1) (mq_1 em mi ic)
theorem rt_1 (em mi ic : Nat) : mRet (DD em mi ic) 1 = none := congrArg (fun x : MI => x.1.2.2.2) (mq_1 em mi ic)
theorem ml_1 (em mi ic : Nat) : mMaxL (DD em mi ic) 1 = 5 := congrArg (fun x : MI => x.1.2.2.1) (mq_1 em mi ic)
theorem hh1 (em mi ic : Nat) : mHH (DD em mi ic) 1 = [] := congrArg (fun x : MI => x.2.2.2.2) (mq_1 em mi ic)
theorem hp1_0 (em mi ic : Nat) : hp (DD em mi ic) 1 0 = 0 := congrArg (fun x : MI => hd0 (x.2.2.1 0).1) (mq_1 em mi ic)
theorem mq_2 (em mi ic : Nat) : (DD em mi ic).1 2 = mt2 := rfl
theorem mb2 (em mi ic : Nat) : mBytes (DD em mi ic) 2 = cX14_init := congrArg (fun x : MI => x.1.2.1) (mq_2 em mi ic)
theorem mo2 (em mi ic : Nat) : mOwn (DD em mi ic) 2 = "TwelvehundredModel" := congrArg (fun x : MI => x.1.1.cls) (mq_2 em mi ic)
theorem mn2 (em mi ic : Nat) : mName (DD em mi ic) 2 = yX14_init := congrArg (fun x : MI => x.1.1) (mq_2 em mi ic)
theorem rt_2 (em mi ic : Nat) : mRet (DD em mi ic) 2 = none := congrArg (fun x : MI => x.1.2.2.2) (mq_2 em mi ic)
theorem ml_2 (em mi ic : Nat) : mMaxL (DD em mi ic) 2 = 1 := congrArg (fun x : MI => x.1.2.2.1) (mq_2 em mi ic)
theorem hh2 (em mi ic : Nat) : mHH (DD em mi ic) 2 = [] := congrArg (fun x : MI => x.2.2.2.2) (mq_2 em mi ic)
theorem hp2_0 (em mi ic : Nat) : hp (DD em mi ic) 2 0 = 0 := congrArg (fun x : MI => hd0 (x.2.2.1 0).1) (mq_2 em mi ic)
theorem mq_3 (em mi ic : Nat) : (DD em mi ic).1 3 = mt3 := rfl
theorem mb3 (em mi ic : Nat) : mBytes (DD em mi ic) 3 = cX12_init := congrArg (fun x : MI => x.1.2.1) (mq_3 em mi ic)
theorem mo3 (em mi ic : Nat) : mOwn (DD em mi ic) 3 = "TwelvehundredLaw$Out" := congrArg (fun x : MI => x.1.1.cls) (mq_3 em mi ic)
theorem mn3 (em mi ic : Nat) : mName (DD em mi ic) 3 = yX12_init := congrArg (fun x : MI => x.1.1) (mq_3 em mi ic)
theorem rt_3 (em mi ic : Nat) : mRet (DD em mi ic) 3 = none := congrArg (fun x : MI => x.1.2.2.2) (mq_3 em mi ic)
theorem ml_3 (em mi ic : Nat) : mMaxL (DD em mi ic) 3 = 1 := congrArg (fun x : MI => x.1.2.2.1) (mq_3 em mi ic)
theorem hh3 (em mi ic : Nat) : mHH (DD em mi ic) 3 = [] := congrArg (fun x : MI => x.2.2.2.2) (mq_3 em mi ic)
theorem hp3_0 (em mi ic : Nat) : hp (DD em mi ic) 3 0 = 0 := congrArg (fun x : MI => hd0 (x.2.2.1 0).1) (mq_3 em mi ic)
theorem mq_4 (em mi ic : Nat) : (DD em mi ic).1 4 = mt4 := rfl
theorem mb4 (em mi ic : Nat) : mBytes (DD em mi ic) 4 = cL_street := congrArg (fun x : MI => x.1.2.1) (mq_4 em mi ic)
theorem mo4 (em mi ic : Nat) : mOwn (DD em mi ic) 4 = "TwelvehundredLaw" := congrArg (fun x : MI => x.1.1.cls) (mq_4 em mi ic)
theorem mn4 (em mi ic : Nat) : mName (DD em mi ic) 4 = yL_street := congrArg (fun x : MI => x.1.1) (mq_4 em mi ic)
theorem rt_4 (em mi ic : Nat) : mRet (DD em mi ic) 4 = some .int := congrArg (fun x : MI => x.1.2.2.2) (mq_4 em mi ic)
theorem ml_4 (em mi ic : Nat) : mMaxL (DD em mi ic) 4 = 5 := congrArg (fun x : MI => x.1.2.2.1) (mq_4 em mi ic)
theorem hp4_0 (em mi ic : Nat) : hp (DD em mi ic) 4 0 = 0 := congrArg (fun x : MI => hd0 (x.2.2.1 0).1) (mq_4 em mi ic)
theorem hp4_3 (em mi ic : Nat) : hp (DD em mi ic) 4 3 = 22 := congrArg (fun x : MI => hd0 (x.2.2.1 3).1) (mq_4 em mi ic)
theorem mq_5 (em mi ic : Nat) : (DD em mi ic).1 5 = mt5 := rfl
theorem mb5 (em mi ic : Nat) : mBytes (DD em mi ic) 5 = cX14_street := congrArg (fun x : MI => x.1.2.1) (mq_5 em mi ic)
theorem mo5 (em mi ic : Nat) : mOwn (DD em mi ic) 5 = "TwelvehundredModel" := congrArg (fun x : MI => x.1.1.cls) (mq_5 em mi ic)
theorem mn5 (em mi ic : Nat) : mName (DD em mi ic) 5 = yX14_street := congrArg (fun x : MI => x.1.1) (mq_5 em mi ic)
theorem rt_5 (em mi ic : Nat) : mRet (DD em mi ic) 5 = some .int := congrArg (fun x : MI => x.1.2.2.2) (mq_5 em mi ic)
theorem ml_5 (em mi ic : Nat) : mMaxL (DD em mi ic) 5 = 3 := congrArg (fun x : MI => x.1.2.2.1) (mq_5 em mi ic)
theorem hh5 (em mi ic : Nat) : mHH (DD em mi ic) 5 = [] := congrArg (fun x : MI => x.2.2.2.2) (mq_5 em mi ic)
theorem hp5_0 (em mi ic : Nat) : hp (DD em mi ic) 5 0 = 0 := congrArg (fun x : MI => hd0 (x.2.2.1 0).1) (mq_5 em mi ic)
theorem hp5_1 (em mi ic : Nat) : hp (DD em mi ic) 5 1 = 25 := congrArg (fun x : MI => hd0 (x.2.2.1 1).1) (mq_5 em mi ic)
theorem hp5_2 (em mi ic : Nat) : hp (DD em mi ic) 5 2 = 31 := congrArg (fun x : MI => hd0 (x.2.2.1 2).1) (mq_5 em mi ic)
theorem hp5_3 (em mi ic : Nat) : hp (DD em mi ic) 5 3 = 49 := congrArg (fun x : MI => hd0 (x.2.2.1 3).1) (mq_5 em mi ic)
theorem mq_6 (em mi ic : Nat) : (DD em mi ic).1 6 = mt6 := rfl
theorem mb6 (em mi ic : Nat) : mBytes (DD em mi ic) 6 = cL_hall := congrArg (fun x : MI => x.1.2.1) (mq_6 em mi ic)
theorem mo6 (em mi ic : Nat) : mOwn (DD em mi ic) 6 = "TwelvehundredLaw" := congrArg (fun x : MI => x.1.1.cls) (mq_6 em mi ic)
theorem mn6 (em mi ic : Nat) : mName (DD em mi ic) 6 = yL_hall := congrArg (fun x : MI => x.1.1) (mq_6 em mi ic)
theorem rt_6 (em mi ic : Nat) : mRet (DD em mi ic) 6 = some .int := congrArg (fun x : MI => x.1.2.2.2) (mq_6 em mi ic)
theorem ml_6 (em mi ic : Nat) : mMaxL (DD em mi ic) 6 = 5 := congrArg (fun x : MI => x.1.2.2.1) (mq_6 em mi ic)
theorem hp6_0 (em mi ic : Nat) : hp (DD em mi ic) 6 0 = 0 := congrArg (fun x : MI => hd0 (x.2.2.1 0).1) (mq_6 em mi ic)
theorem hp6_3 (em mi ic : Nat) : hp (DD em mi ic) 6 3 = 22 := congrArg (fun x : MI => hd0 (x.2.2.1 3).1) (mq_6 em mi ic)
theorem mq_7 (em mi ic : Nat) : (DD em mi ic).1 7 = mt7 := rfl
theorem mb7 (em mi ic : Nat) : mBytes (DD em mi ic) 7 = cX14_hall := congrArg (fun x : MI => x.1.2.1) (mq_7 em mi ic)
theorem mo7 (em mi ic : Nat) : mOwn (DD em mi ic) 7 = "TwelvehundredModel" := congrArg (fun x : MI => x.1.1.cls) (mq_7 em mi ic)
theorem mn7 (em mi ic : Nat) : mName (DD em mi ic) 7 = yX14_hall := congrArg (fun x : MI => x.1.1) (mq_7 em mi ic)
theorem rt_7 (em mi ic : Nat) : mRet (DD em mi ic) 7 = some .int := congrArg (fun x : MI => x.1.2.2.2) (mq_7 em mi ic)
theorem ml_7 (em mi ic : Nat) : mMaxL (DD em mi ic) 7 = 3 := congrArg (fun x : MI => x.1.2.2.1) (mq_7 em mi ic)
theorem hh7 (em mi ic : Nat) : mHH (DD em mi ic) 7 = [] := congrArg (fun x : MI => x.2.2.2.2) (mq_7 em mi ic)
theorem hp7_0 (em mi ic : Nat) : hp (DD em mi ic) 7 0 = 0 := congrArg (fun x : MI => hd0 (x.2.2.1 0).1) (mq_7 em mi ic)
theorem hp7_1 (em mi ic : Nat) : hp (DD em mi ic) 7 1 = 24 := congrArg (fun x : MI => hd0 (x.2.2.1 1).1) (mq_7 em mi ic)
theorem hp7_2 (em mi ic : Nat) : hp (DD em mi ic) 7 2 = 30 := congrArg (fun x : MI => hd0 (x.2.2.1 2).1) (mq_7 em mi ic)
theorem hp7_3 (em mi ic : Nat) : hp (DD em mi ic) 7 3 = 47 := congrArg (fun x : MI => hd0 (x.2.2.1 3).1) (mq_7 em mi ic)
theorem mq_8 (em mi ic : Nat) : (DD em mi ic).1 8 = mt8 := rfl
theorem mb8 (em mi ic : Nat) : mBytes (DD em mi ic) 8 = cL_rooms := congrArg (fun x : MI => x.1.2.1) (mq_8 em mi ic)
theorem mo8 (em mi ic : Nat) : mOwn (DD em mi ic) 8 = "TwelvehundredLaw" := congrArg (fun x : MI => x.1.1.cls) (mq_8 em mi ic)
theorem mn8 (em mi ic : Nat) : mName (DD em mi ic) 8 = yL_rooms := congrArg (fun x : MI => x.1.1) (mq_8 em mi ic)
theorem rt_8 (em mi ic : Nat) : mRet (DD em mi ic) 8 = some .int := congrArg (fun x : MI => x.1.2.2.2) (mq_8 em mi ic)
theorem ml_8 (em mi ic : Nat) : mMaxL (DD em mi ic) 8 = 5 := congrArg (fun x : MI => x.1.2.2.1) (mq_8 em mi ic)
theorem hp8_0 (em mi ic : Nat) : hp (DD em mi ic) 8 0 = 0 := congrArg (fun x : MI => hd0 (x.2.2.1 0).1) (mq_8 em mi ic)
theorem hp8_3 (em mi ic : Nat) : hp (DD em mi ic) 8 3 = 22 := congrArg (fun x : MI => hd0 (x.2.2.1 3).1) (mq_8 em mi ic)
theorem mq_9 (em mi ic : Nat) : (DD em mi ic).1 9 = mt9 := rfl
theorem mb9 (em mi ic : Nat) : mBytes (DD em mi ic) 9 = cX14_rooms := congrArg (fun x : MI => x.1.2.1) (mq_9 em mi ic)
theorem mo9 (em mi ic : Nat) : mOwn (DD em mi ic) 9 = "TwelvehundredModel" := congrArg (fun x : MI => x.1.1.cls) (mq_9 em mi ic)
theorem mn9 (em mi ic : Nat) : mName (DD em mi ic) 9 = yX14_rooms := congrArg (fun x : MI => x.1.1) (mq_9 em mi ic)
theorem rt_9 (em mi ic : Nat) : mRet (DD em mi ic) 9 = some .int := congrArg (fun x : MI => x.1.2.2.2) (mq_9 em mi ic)
theorem ml_9 (em mi ic : Nat) : mMaxL (DD em mi ic) 9 = 4 := congrArg (fun x : MI => x.1.2.2.1) (mq_9 em mi ic)
theorem hh9 (em mi ic : Nat) : mHH (DD em mi ic) 9 = [] := congrArg (fun x : MI => x.2.2.2.2) (mq_9 em mi ic)
theorem hp9_0 (em mi ic : Nat) : hp (DD em mi ic) 9 0 = 0 := congrArg (fun x : MI => hd0 (x.2.2.1 0).1) (mq_9 em mi ic)
theorem hp9_1 (em mi ic : Nat) : hp (DD em mi ic) 9 1 = 19 := congrArg (fun x : MI => hd0 (x.2.2.1 1).1) (mq_9 em mi ic)
theorem hp9_2 (em mi ic : Nat) : hp (DD em mi ic) 9 2 = 34 := congrArg (fun x : MI => hd0 (x.2.2.1 2).1) (mq_9 em mi ic)
theorem mq_10 (em mi ic : Nat) : (DD em mi ic).1 10 = mt10 := rfl
theorem mb10 (em mi ic : Nat) : mBytes (DD em mi ic) 10 = cL_household := congrArg (fun x : MI => x.1.2.1) (mq_10 em mi ic)
theorem mo10 (em mi ic : Nat) : mOwn (DD em mi ic) 10 = "TwelvehundredLaw" := congrArg (fun x : MI => x.1.1.cls) (mq_10 em mi ic)
theorem mn10 (em mi ic : Nat) : mName (DD em mi ic) 10 = yL_household := congrArg (fun x : MI => x.1.1) (mq_10 em mi ic)
theorem rt_10 (em mi ic : Nat) : mRet (DD em mi ic) 10 = some .int := congrArg (fun x : MI => x.1.2.2.2) (mq_10 em mi ic)
theorem ml_10 (em mi ic : Nat) : mMaxL (DD em mi ic) 10 = 6 := congrArg (fun x : MI => x.1.2.2.1) (mq_10 em mi ic)
theorem hp10_0 (em mi ic : Nat) : hp (DD em mi ic) 10 0 = 0 := congrArg (fun x : MI => hd0 (x.2.2.1 0).1) (mq_10 em mi ic)
theorem hp10_4 (em mi ic : Nat) : hp (DD em mi ic) 10 4 = 28 := congrArg (fun x : MI => hd0 (x.2.2.1 4).1) (mq_10 em mi ic)
theorem mq_11 (em mi ic : Nat) : (DD em mi ic).1 11 = mt11 := rfl
theorem mb11 (em mi ic : Nat) : mBytes (DD em mi ic) 11 = cX14_household := congrArg (fun x : MI => x.1.2.1) (mq_11 em mi ic)
theorem mo11 (em mi ic : Nat) : mOwn (DD em mi ic) 11 = "TwelvehundredModel" := congrArg (fun x : MI => x.1.1.cls) (mq_11 em mi ic)
theorem mn11 (em mi ic : Nat) : mName (DD em mi ic) 11 = yX14_household := congrArg (fun x : MI => x.1.1) (mq_11 em mi ic)
theorem rt_11 (em mi ic : Nat) : mRet (DD em mi ic) 11 = some .int := congrArg (fun x : MI => x.1.2.2.2) (mq_11 em mi ic)
theorem ml_11 (em mi ic : Nat) : mMaxL (DD em mi ic) 11 = 5 := congrArg (fun x : MI => x.1.2.2.1) (mq_11 em mi ic)
theorem hh11 (em mi ic : Nat) : mHH (DD em mi ic) 11 = [] := congrArg (fun x : MI => x.2.2.2.2) (mq_11 em mi ic)
theorem hp11_0 (em mi ic : Nat) : hp (DD em mi ic) 11 0 = 0 := congrArg (fun x : MI => hd0 (x.2.2.1 0).1) (mq_11 em mi ic)
theorem hp11_1 (em mi ic : Nat) : hp (DD em mi ic) 11 1 = 19 := congrArg (fun x : MI => hd0 (x.2.2.1 1).1) (mq_11 em mi ic)
theorem hp11_2 (em mi ic : Nat) : hp (DD em mi ic) 11 2 = 35 := congrArg (fun x : MI => hd0 (x.2.2.1 2).1) (mq_11 em mi ic)
theorem hp11_3 (em mi ic : Nat) : hp (DD em mi ic) 11 3 = 53 := congrArg (fun x : MI => hd0 (x.2.2.1 3).1) (mq_11 em mi ic)
theorem hp11_4 (em mi ic : Nat) : hp (DD em mi ic) 11 4 = 94 := congrArg (fun x : MI => hd0 (x.2.2.1 4).1) (mq_11 em mi ic)
theorem hp11_5 (em mi ic : Nat) : hp (DD em mi ic) 11 5 = 95 := congrArg (fun x : MI => hd0 (x.2.2.1 5).1) (mq_11 em mi ic)
theorem mq_12 (em mi ic : Nat) : (DD em mi ic).1 12 = mt12 := rfl
theorem mb12 (em mi ic : Nat) : mBytes (DD em mi ic) 12 = cL_river := congrArg (fun x : MI => x.1.2.1) (mq_12 em mi ic)
theorem mo12 (em mi ic : Nat) : mOwn (DD em mi ic) 12 = "TwelvehundredLaw" := congrArg (fun x : MI => x.1.1.cls) (mq_12 em mi ic)
theorem mn12 (em mi ic : Nat) : mName (DD em mi ic) 12 = yL_river := congrArg (fun x : MI => x.1.1) (mq_12 em mi ic)
theorem rt_12 (em mi ic : Nat) : mRet (DD em mi ic) 12 = some .int := congrArg (fun x : MI => x.1.2.2.2) (mq_12 em mi ic)
theorem ml_12 (em mi ic : Nat) : mMaxL (DD em mi ic) 12 = 5 := congrArg (fun x : MI => x.1.2.2.1) (mq_12 em mi ic)
theorem hp12_0 (em mi ic : Nat) : hp (DD em mi ic) 12 0 = 0 := congrArg (fun x : MI => hd0 (x.2.2.1 0).1) (mq_12 em mi ic)
theorem hp12_2 (em mi ic : Nat) : hp (DD em mi ic) 12 2 = 18 := congrArg (fun x : MI => hd0 (x.2.2.1 2).1) (mq_12 em mi ic)
theorem mq_13 (em mi ic : Nat) : (DD em mi ic).1 13 = mt13 := rfl
theorem mb13 (em mi ic : Nat) : mBytes (DD em mi ic) 13 = cX14_river := congrArg (fun x : MI => x.1.2.1) (mq_13 em mi ic)
theorem mo13 (em mi ic : Nat) : mOwn (DD em mi ic) 13 = "TwelvehundredModel" := congrArg (fun x : MI => x.1.1.cls) (mq_13 em mi ic)
theorem mn13 (em mi ic : Nat) : mName (DD em mi ic) 13 = yX14_river := congrArg (fun x : MI => x.1.1) (mq_13 em mi ic)
theorem rt_13 (em mi ic : Nat) : mRet (DD em mi ic) 13 = some .int := congrArg (fun x : MI => x.1.2.2.2) (mq_13 em mi ic)
theorem ml_13 (em mi ic : Nat) : mMaxL (DD em mi ic) 13 = 4 := congrArg (fun x : MI => x.1.2.2.1) (mq_13 em mi ic)
theorem hh13 (em mi ic : Nat) : mHH (DD em mi ic) 13 = [] := congrArg (fun x : MI => x.2.2.2.2) (mq_13 em mi ic)
theorem hp13_0 (em mi ic : Nat) : hp (DD em mi ic) 13 0 = 0 := congrArg (fun x : MI => hd0 (x.2.2.1 0).1) (mq_13 em mi ic)
theorem hp13_1 (em mi ic : Nat) : hp (DD em mi ic) 13 1 = 26 := congrArg (fun x : MI => hd0 (x.2.2.1 1).1) (mq_13 em mi ic)
theorem hp13_2 (em mi ic : Nat) : hp (DD em mi ic) 13 2 = 32 := congrArg (fun x : MI => hd0 (x.2.2.1 2).1) (mq_13 em mi ic)
theorem mq_14 (em mi ic : Nat) : (DD em mi ic).1 14 = mt14 := rfl
theorem mb14 (em mi ic : Nat) : mBytes (DD em mi ic) 14 = cL_buses := congrArg (fun x : MI => x.1.2.1) (mq_14 em mi ic)
theorem mo14 (em mi ic : Nat) : mOwn (DD em mi ic) 14 = "TwelvehundredLaw" := congrArg (fun x : MI => x.1.1.cls) (mq_14 em mi ic)
theorem mn14 (em mi ic : Nat) : mName (DD em mi ic) 14 = yL_buses := congrArg (fun x : MI => x.1.1) (mq_14 em mi ic)
theorem rt_14 (em mi ic : Nat) : mRet (DD em mi ic) 14 = some .int := congrArg (fun x : MI => x.1.2.2.2) (mq_14 em mi ic)
theorem ml_14 (em mi ic : Nat) : mMaxL (DD em mi ic) 14 = 4 := congrArg (fun x : MI => x.1.2.2.1) (mq_14 em mi ic)
theorem hp14_0 (em mi ic : Nat) : hp (DD em mi ic) 14 0 = 0 := congrArg (fun x : MI => hd0 (x.2.2.1 0).1) (mq_14 em mi ic)
theorem hp14_2 (em mi ic : Nat) : hp (DD em mi ic) 14 2 = 16 := congrArg (fun x : MI => hd0 (x.2.2.1 2).1) (mq_14 em mi ic)
theorem mq_15 (em mi ic : Nat) : (DD em mi ic).1 15 = mt15 := rfl
theorem mb15 (em mi ic : Nat) : mBytes (DD em mi ic) 15 = cX14_buses := congrArg (fun x : MI => x.1.2.1) (mq_15 em mi ic)
theorem mo15 (em mi ic : Nat) : mOwn (DD em mi ic) 15 = "TwelvehundredModel" := congrArg (fun x : MI => x.1.1.cls) (mq_15 em mi ic)
theorem mn15 (em mi ic : Nat) : mName (DD em mi ic) 15 = yX14_buses := congrArg (fun x : MI => x.1.1) (mq_15 em mi ic)
theorem rt_15 (em mi ic : Nat) : mRet (DD em mi ic) 15 = some .int := congrArg (fun x : MI => x.1.2.2.2) (mq_15 em mi ic)
theorem ml_15 (em mi ic : Nat) : mMaxL (DD em mi ic) 15 = 3 := congrArg (fun x : MI => x.1.2.2.1) (mq_15 em mi ic)
theorem hh15 (em mi ic : Nat) : mHH (DD em mi ic) 15 = [] := congrArg (fun x : MI => x.2.2.2.2) (mq_15 em mi ic)
theorem hp15_0 (em mi ic : Nat) : hp (DD em mi ic) 15 0 = 0 := congrArg (fun x : MI => hd0 (x.2.2.1 0).1) (mq_15 em mi ic)
theorem hp15_1 (em mi ic : Nat) : hp (DD em mi ic) 15 1 = 20 := congrArg (fun x : MI => hd0 (x.2.2.1 1).1) (mq_15 em mi ic)
theorem mq_16 (em mi ic : Nat) : (DD em mi ic).1 16 = mt16 := rfl
theorem mb16 (em mi ic : Nat) : mBytes (DD em mi ic) 16 = cL_fetch := congrArg (fun x : MI => x.1.2.1) (mq_16 em mi ic)
theorem mo16 (em mi ic : Nat) : mOwn (DD em mi ic) 16 = "TwelvehundredLaw" := congrArg (fun x : MI => x.1.1.cls) (mq_16 em mi ic)
theorem mn16 (em mi ic : Nat) : mName (DD em mi ic) 16 = yL_fetch := congrArg (fun x : MI => x.1.1) (mq_16 em mi ic)
theorem rt_16 (em mi ic : Nat) : mRet (DD em mi ic) 16 = some .int := congrArg (fun x : MI => x.1.2.2.2) (mq_16 em mi ic)
theorem ml_16 (em mi ic : Nat) : mMaxL (DD em mi ic) 16 = 4 := congrArg (fun x : MI => x.1.2.2.1) (mq_16 em mi ic)
theorem hp16_0 (em mi ic : Nat) : hp (DD em mi ic) 16 0 = 0 := congrArg (fun x : MI => hd0 (x.2.2.1 0).1) (mq_16 em mi ic)
theorem hp16_3 (em mi ic : Nat) : hp (DD em mi ic) 16 3 = 19 := congrArg (fun x : MI => hd0 (x.2.2.1 3).1) (mq_16 em mi ic)
theorem mq_17 (em mi ic : Nat) : (DD em mi ic).1 17 = mt17 := rfl
theorem mb17 (em mi ic : Nat) : mBytes (DD em mi ic) 17 = cX14_fetch := congrArg (fun x : MI => x.1.2.1) (mq_17 em mi ic)
theorem mo17 (em mi ic : Nat) : mOwn (DD em mi ic) 17 = "TwelvehundredModel" := congrArg (fun x : MI => x.1.1.cls) (mq_17 em mi ic)
theorem mn17 (em mi ic : Nat) : mName (DD em mi ic) 17 = yX14_fetch := congrArg (fun x : MI => x.1.1) (mq_17 em mi ic)
theorem rt_17 (em mi ic : Nat) : mRet (DD em mi ic) 17 = some .int := congrArg (fun x : MI => x.1.2.2.2) (mq_17 em mi ic)
theorem ml_17 (em mi ic : Nat) : mMaxL (DD em mi ic) 17 = 2 := congrArg (fun x : MI => x.1.2.2.1) (mq_17 em mi ic)
theorem hh17 (em mi ic : Nat) : mHH (DD em mi ic) 17 = [] := congrArg (fun x : MI => x.2.2.2.2) (mq_17 em mi ic)
theorem hp17_0 (em mi ic : Nat) : hp (DD em mi ic) 17 0 = 0 := congrArg (fun x : MI => hd0 (x.2.2.1 0).1) (mq_17 em mi ic)
theorem hp17_1 (em mi ic : Nat) : hp (DD em mi ic) 17 1 = 19 := congrArg (fun x : MI => hd0 (x.2.2.1 1).1) (mq_17 em mi ic)
theorem hp17_2 (em mi ic : Nat) : hp (DD em mi ic) 17 2 = 47 := congrArg (fun x : MI => hd0 (x.2.2.1 2).1) (mq_17 em mi ic)
theorem hp17_3 (em mi ic : Nat) : hp (DD em mi ic) 17 3 = 53 := congrArg (fun x : MI => hd0 (x.2.2.1 3).1) (mq_17 em mi ic)
theorem mq_18 (em mi ic : Nat) : (DD em mi ic).1 18 = mt18 := rfl
theorem mb18 (em mi ic : Nat) : mBytes (DD em mi ic) 18 = cL_pass := congrArg (fun x : MI => x.1.2.1) (mq_18 em mi ic)
theorem mo18 (em mi ic : Nat) : mOwn (DD em mi ic) 18 = "TwelvehundredLaw" := congrArg (fun x : MI => x.1.1.cls) (mq_18 em mi ic)
theorem mn18 (em mi ic : Nat) : mName (DD em mi ic) 18 = yL_pass := congrArg (fun x : MI => x.1.1) (mq_18 em mi ic)
theorem rt_18 (em mi ic : Nat) : mRet (DD em mi ic) 18 = some .int := congrArg (fun x : MI => x.1.2.2.2) (mq_18 em mi ic)
theorem ml_18 (em mi ic : Nat) : mMaxL (DD em mi ic) 18 = 4 := congrArg (fun x : MI => x.1.2.2.1) (mq_18 em mi ic)
theorem hp18_0 (em mi ic : Nat) : hp (DD em mi ic) 18 0 = 0 := congrArg (fun x : MI => hd0 (x.2.2.1 0).1) (mq_18 em mi ic)
theorem hp18_3 (em mi ic : Nat) : hp (DD em mi ic) 18 3 = 19 := congrArg (fun x : MI => hd0 (x.2.2.1 3).1) (mq_18 em mi ic)
theorem mq_19 (em mi ic : Nat) : (DD em mi ic).1 19 = mt19 := rfl
theorem mb19 (em mi ic : Nat) : mBytes (DD em mi ic) 19 = cX14_pass := congrArg (fun x : MI => x.1.2.1) (mq_19 em mi ic)
theorem mo19 (em mi ic : Nat) : mOwn (DD em mi ic) 19 = "TwelvehundredModel" := congrArg (fun x : MI => x.1.1.cls) (mq_19 em mi ic)
theorem mn19 (em mi ic : Nat) : mName (DD em mi ic) 19 = yX14_pass := congrArg (fun x : MI => x.1.1) (mq_19 em mi ic)
theorem rt_19 (em mi ic : Nat) : mRet (DD em mi ic) 19 = some .int := congrArg (fun x : MI => x.1.2.2.2) (mq_19 em mi ic)
theorem ml_19 (em mi ic : Nat) : mMaxL (DD em mi ic) 19 = 4 := congrArg (fun x : MI => x.1.2.2.1) (mq_19 em mi ic)
theorem hh19 (em mi ic : Nat) : mHH (DD em mi ic) 19 = [] := congrArg (fun x : MI => x.2.2.2.2) (mq_19 em mi ic)
theorem hp19_0 (em mi ic : Nat) : hp (DD em mi ic) 19 0 = 0 := congrArg (fun x : MI => hd0 (x.2.2.1 0).1) (mq_19 em mi ic)
theorem hp19_1 (em mi ic : Nat) : hp (DD em mi ic) 19 1 = 21 := congrArg (fun x : MI => hd0 (x.2.2.1 1).1) (mq_19 em mi ic)
theorem hp19_2 (em mi ic : Nat) : hp (DD em mi ic) 19 2 = 39 := congrArg (fun x : MI => hd0 (x.2.2.1 2).1) (mq_19 em mi ic)
theorem hp19_3 (em mi ic : Nat) : hp (DD em mi ic) 19 3 = 43 := congrArg (fun x : MI => hd0 (x.2.2.1 3).1) (mq_19 em mi ic)
theorem hp19_4 (em mi ic : Nat) : hp (DD em mi ic) 19 4 = 61 := congrArg (fun x : MI => hd0 (x.2.2.1 4).1) (mq_19 em mi ic)
theorem mq_20 (em mi ic : Nat) : (DD em mi ic).1 20 = mt20 := rfl
theorem mb20 (em mi ic : Nat) : mBytes (DD em mi ic) 20 = cX14_thrown := congrArg (fun x : MI => x.1.2.1) (mq_20 em mi ic)
theorem mo20 (em mi ic : Nat) : mOwn (DD em mi ic) 20 = "TwelvehundredModel" := congrArg (fun x : MI => x.1.1.cls) (mq_20 em mi ic)
theorem mn20 (em mi ic : Nat) : mName (DD em mi ic) 20 = yX14_thrown := congrArg (fun x : MI => x.1.1) (mq_20 em mi ic)
theorem rt_20 (em mi ic : Nat) : mRet (DD em mi ic) 20 = some .int := congrArg (fun x : MI => x.1.2.2.2) (mq_20 em mi ic)
theorem ml_20 (em mi ic : Nat) : mMaxL (DD em mi ic) 20 = 1 := congrArg (fun x : MI => x.1.2.2.1) (mq_20 em mi ic)
theorem hh20 (em mi ic : Nat) : mHH (DD em mi ic) 20 = [] := congrArg (fun x : MI => x.2.2.2.2) (mq_20 em mi ic)
theorem hp20_0 (em mi ic : Nat) : hp (DD em mi ic) 20 0 = 0 := congrArg (fun x : MI => hd0 (x.2.2.1 0).1) (mq_20 em mi ic)
theorem mq_21 (em mi ic : Nat) : (DD em mi ic).1 21 = mt21 := rfl
theorem mb21 (em mi ic : Nat) : mBytes (DD em mi ic) 21 = cL_lot := congrArg (fun x : MI => x.1.2.1) (mq_21 em mi ic)
theorem mo21 (em mi ic : Nat) : mOwn (DD em mi ic) 21 = "TwelvehundredLaw" := congrArg (fun x : MI => x.1.1.cls) (mq_21 em mi ic)
theorem mn21 (em mi ic : Nat) : mName (DD em mi ic) 21 = yL_lot := congrArg (fun x : MI => x.1.1) (mq_21 em mi ic)
theorem rt_21 (em mi ic : Nat) : mRet (DD em mi ic) 21 = some .int := congrArg (fun x : MI => x.1.2.2.2) (mq_21 em mi ic)
theorem ml_21 (em mi ic : Nat) : mMaxL (DD em mi ic) 21 = 5 := congrArg (fun x : MI => x.1.2.2.1) (mq_21 em mi ic)
theorem hp21_0 (em mi ic : Nat) : hp (DD em mi ic) 21 0 = 0 := congrArg (fun x : MI => hd0 (x.2.2.1 0).1) (mq_21 em mi ic)
theorem hp21_3 (em mi ic : Nat) : hp (DD em mi ic) 21 3 = 22 := congrArg (fun x : MI => hd0 (x.2.2.1 3).1) (mq_21 em mi ic)
theorem mq_22 (em mi ic : Nat) : (DD em mi ic).1 22 = mt22 := rfl
theorem mb22 (em mi ic : Nat) : mBytes (DD em mi ic) 22 = cX14_lot := congrArg (fun x : MI => x.1.2.1) (mq_22 em mi ic)
theorem mo22 (em mi ic : Nat) : mOwn (DD em mi ic) 22 = "TwelvehundredModel" := congrArg (fun x : MI => x.1.1.cls) (mq_22 em mi ic)
theorem mn22 (em mi ic : Nat) : mName (DD em mi ic) 22 = yX14_lot := congrArg (fun x : MI => x.1.1) (mq_22 em mi ic)
theorem rt_22 (em mi ic : Nat) : mRet (DD em mi ic) 22 = some .int := congrArg (fun x : MI => x.1.2.2.2) (mq_22 em mi ic)
theorem ml_22 (em mi ic : Nat) : mMaxL (DD em mi ic) 22 = 3 := congrArg (fun x : MI => x.1.2.2.1) (mq_22 em mi ic)
theorem hh22 (em mi ic : Nat) : mHH (DD em mi ic) 22 = [] := congrArg (fun x : MI => x.2.2.2.2) (mq_22 em mi ic)
theorem hp22_0 (em mi ic : Nat) : hp (DD em mi ic) 22 0 = 0 := congrArg (fun x : MI => hd0 (x.2.2.1 0).1) (mq_22 em mi ic)
theorem hp22_1 (em mi ic : Nat) : hp (DD em mi ic) 22 1 = 25 := congrArg (fun x : MI => hd0 (x.2.2.1 1).1) (mq_22 em mi ic)
theorem hp22_2 (em mi ic : Nat) : hp (DD em mi ic) 22 2 = 31 := congrArg (fun x : MI => hd0 (x.2.2.1 2).1) (mq_22 em mi ic)
theorem hp22_3 (em mi ic : Nat) : hp (DD em mi ic) 22 3 = 49 := congrArg (fun x : MI => hd0 (x.2.2.1 3).1) (mq_22 em mi ic)
theorem mq_23 (em mi ic : Nat) : (DD em mi ic).1 23 = mt23 := rfl
theorem mb23 (em mi ic : Nat) : mBytes (DD em mi ic) 23 = cL_give := congrArg (fun x : MI => x.1.2.1) (mq_23 em mi ic)
theorem mo23 (em mi ic : Nat) : mOwn (DD em mi ic) 23 = "TwelvehundredLaw" := congrArg (fun x : MI => x.1.1.cls) (mq_23 em mi ic)
theorem mn23 (em mi ic : Nat) : mName (DD em mi ic) 23 = yL_give := congrArg (fun x : MI => x.1.1) (mq_23 em mi ic)
theorem rt_23 (em mi ic : Nat) : mRet (DD em mi ic) 23 = some .int := congrArg (fun x : MI => x.1.2.2.2) (mq_23 em mi ic)
theorem ml_23 (em mi ic : Nat) : mMaxL (DD em mi ic) 23 = 4 := congrArg (fun x : MI => x.1.2.2.1) (mq_23 em mi ic)
theorem hp23_0 (em mi ic : Nat) : hp (DD em mi ic) 23 0 = 0 := congrArg (fun x : MI => hd0 (x.2.2.1 0).1) (mq_23 em mi ic)
theorem hp23_2 (em mi ic : Nat) : hp (DD em mi ic) 23 2 = 16 := congrArg (fun x : MI => hd0 (x.2.2.1 2).1) (mq_23 em mi ic)
theorem mq_24 (em mi ic : Nat) : (DD em mi ic).1 24 = mt24 := rfl
theorem mb24 (em mi ic : Nat) : mBytes (DD em mi ic) 24 = cX14_give := congrArg (fun x : MI => x.1.2.1) (mq_24 em mi ic)
theorem mo24 (em mi ic : Nat) : mOwn (DD em mi ic) 24 = "TwelvehundredModel" := congrArg (fun x : MI => x.1.1.cls) (mq_24 em mi ic)
theorem mn24 (em mi ic : Nat) : mName (DD em mi ic) 24 = yX14_give := congrArg (fun x : MI => x.1.1) (mq_24 em mi ic)
theorem rt_24 (em mi ic : Nat) : mRet (DD em mi ic) 24 = some .int := congrArg (fun x : MI => x.1.2.2.2) (mq_24 em mi ic)
theorem ml_24 (em mi ic : Nat) : mMaxL (DD em mi ic) 24 = 7 := congrArg (fun x : MI => x.1.2.2.1) (mq_24 em mi ic)
theorem hh24 (em mi ic : Nat) : mHH (DD em mi ic) 24 = [] := congrArg (fun x : MI => x.2.2.2.2) (mq_24 em mi ic)
theorem hp24_0 (em mi ic : Nat) : hp (DD em mi ic) 24 0 = 0 := congrArg (fun x : MI => hd0 (x.2.2.1 0).1) (mq_24 em mi ic)
theorem hp24_1 (em mi ic : Nat) : hp (DD em mi ic) 24 1 = 21 := congrArg (fun x : MI => hd0 (x.2.2.1 1).1) (mq_24 em mi ic)
theorem hp24_2 (em mi ic : Nat) : hp (DD em mi ic) 24 2 = 28 := congrArg (fun x : MI => hd0 (x.2.2.1 2).1) (mq_24 em mi ic)
theorem hp24_3 (em mi ic : Nat) : hp (DD em mi ic) 24 3 = 48 := congrArg (fun x : MI => hd0 (x.2.2.1 3).1) (mq_24 em mi ic)
theorem hp24_4 (em mi ic : Nat) : hp (DD em mi ic) 24 4 = 81 := congrArg (fun x : MI => hd0 (x.2.2.1 4).1) (mq_24 em mi ic)
theorem hp24_5 (em mi ic : Nat) : hp (DD em mi ic) 24 5 = 108 := congrArg (fun x : MI => hd0 (x.2.2.1 5).1) (mq_24 em mi ic)
theorem hp24_6 (em mi ic : Nat) : hp (DD em mi ic) 24 6 = 114 := congrArg (fun x : MI => hd0 (x.2.2.1 6).1) (mq_24 em mi ic)
theorem mq_25 (em mi ic : Nat) : (DD em mi ic).1 25 = mt25 := rfl
theorem mb25 (em mi ic : Nat) : mBytes (DD em mi ic) 25 = cL_list := congrArg (fun x : MI => x.1.2.1) (mq_25 em mi ic)
theorem mo25 (em mi ic : Nat) : mOwn (DD em mi ic) 25 = "TwelvehundredLaw" := congrArg (fun x : MI => x.1.1.cls) (mq_25 em mi ic)
theorem mn25 (em mi ic : Nat) : mName (DD em mi ic) 25 = yL_list := congrArg (fun x : MI => x.1.1) (mq_25 em mi ic)
theorem rt_25 (em mi ic : Nat) : mRet (DD em mi ic) 25 = some .int := congrArg (fun x : MI => x.1.2.2.2) (mq_25 em mi ic)
theorem ml_25 (em mi ic : Nat) : mMaxL (DD em mi ic) 25 = 4 := congrArg (fun x : MI => x.1.2.2.1) (mq_25 em mi ic)
theorem hp25_0 (em mi ic : Nat) : hp (DD em mi ic) 25 0 = 0 := congrArg (fun x : MI => hd0 (x.2.2.1 0).1) (mq_25 em mi ic)
theorem hp25_3 (em mi ic : Nat) : hp (DD em mi ic) 25 3 = 19 := congrArg (fun x : MI => hd0 (x.2.2.1 3).1) (mq_25 em mi ic)
theorem mq_26 (em mi ic : Nat) : (DD em mi ic).1 26 = mt26 := rfl
theorem mb26 (em mi ic : Nat) : mBytes (DD em mi ic) 26 = cX14_list := congrArg (fun x : MI => x.1.2.1) (mq_26 em mi ic)
theorem mo26 (em mi ic : Nat) : mOwn (DD em mi ic) 26 = "TwelvehundredModel" := congrArg (fun x : MI => x.1.1.cls) (mq_26 em mi ic)
theorem mn26 (em mi ic : Nat) : mName (DD em mi ic) 26 = yX14_list := congrArg (fun x : MI => x.1.1) (mq_26 em mi ic)
theorem rt_26 (em mi ic : Nat) : mRet (DD em mi ic) 26 = some .int := congrArg (fun x : MI => x.1.2.2.2) (mq_26 em mi ic)
theorem ml_26 (em mi ic : Nat) : mMaxL (DD em mi ic) 26 = 2 := congrArg (fun x : MI => x.1.2.2.1) (mq_26 em mi ic)
theorem hh26 (em mi ic : Nat) : mHH (DD em mi ic) 26 = [] := congrArg (fun x : MI => x.2.2.2.2) (mq_26 em mi ic)
theorem hp26_0 (em mi ic : Nat) : hp (DD em mi ic) 26 0 = 0 := congrArg (fun x : MI => hd0 (x.2.2.1 0).1) (mq_26 em mi ic)
theorem hp26_1 (em mi ic : Nat) : hp (DD em mi ic) 26 1 = 18 := congrArg (fun x : MI => hd0 (x.2.2.1 1).1) (mq_26 em mi ic)
theorem hp26_2 (em mi ic : Nat) : hp (DD em mi ic) 26 2 = 36 := congrArg (fun x : MI => hd0 (x.2.2.1 2).1) (mq_26 em mi ic)
theorem mq_27 (em mi ic : Nat) : (DD em mi ic).1 27 = mt27 := rfl
theorem mb27 (em mi ic : Nat) : mBytes (DD em mi ic) 27 = cL_strike := congrArg (fun x : MI => x.1.2.1) (mq_27 em mi ic)
theorem mo27 (em mi ic : Nat) : mOwn (DD em mi ic) 27 = "TwelvehundredLaw" := congrArg (fun x : MI => x.1.1.cls) (mq_27 em mi ic)
theorem mn27 (em mi ic : Nat) : mName (DD em mi ic) 27 = yL_strike := congrArg (fun x : MI => x.1.1) (mq_27 em mi ic)
theorem rt_27 (em mi ic : Nat) : mRet (DD em mi ic) 27 = some .int := congrArg (fun x : MI => x.1.2.2.2) (mq_27 em mi ic)
theorem ml_27 (em mi ic : Nat) : mMaxL (DD em mi ic) 27 = 5 := congrArg (fun x : MI => x.1.2.2.1) (mq_27 em mi ic)
theorem hp27_0 (em mi ic : Nat) : hp (DD em mi ic) 27 0 = 0 := congrArg (fun x : MI => hd0 (x.2.2.1 0).1) (mq_27 em mi ic)
theorem hp27_2 (em mi ic : Nat) : hp (DD em mi ic) 27 2 = 18 := congrArg (fun x : MI => hd0 (x.2.2.1 2).1) (mq_27 em mi ic)
theorem mq_28 (em mi ic : Nat) : (DD em mi ic).1 28 = mt28 := rfl
theorem mb28 (em mi ic : Nat) : mBytes (DD em mi ic) 28 = cX14_strike := congrArg (fun x : MI => x.1.2.1) (mq_28 em mi ic)
theorem mo28 (em mi ic : Nat) : mOwn (DD em mi ic) 28 = "TwelvehundredModel" := congrArg (fun x : MI => x.1.1.cls) (mq_28 em mi ic)
theorem mn28 (em mi ic : Nat) : mName (DD em mi ic) 28 = yX14_strike := congrArg (fun x : MI => x.1.1) (mq_28 em mi ic)
theorem rt_28 (em mi ic : Nat) : mRet (DD em mi ic) 28 = some .int := congrArg (fun x : MI => x.1.2.2.2) (mq_28 em mi ic)
theorem ml_28 (em mi ic : Nat) : mMaxL (DD em mi ic) 28 = 3 := congrArg (fun x : MI => x.1.2.2.1) (mq_28 em mi ic)
theorem hh28 (em mi ic : Nat) : mHH (DD em mi ic) 28 = [] := congrArg (fun x : MI => x.2.2.2.2) (mq_28 em mi ic)
theorem hp28_0 (em mi ic : Nat) : hp (DD em mi ic) 28 0 = 0 := congrArg (fun x : MI => hd0 (x.2.2.1 0).1) (mq_28 em mi ic)
theorem hp28_1 (em mi ic : Nat) : hp (DD em mi ic) 28 1 = 28 := congrArg (fun x : MI => hd0 (x.2.2.1 1).1) (mq_28 em mi ic)
theorem hp28_2 (em mi ic : Nat) : hp (DD em mi ic) 28 2 = 44 := congrArg (fun x : MI => hd0 (x.2.2.1 2).1) (mq_28 em mi ic)
theorem hp28_3 (em mi ic : Nat) : hp (DD em mi ic) 28 3 = 54 := congrArg (fun x : MI => hd0 (x.2.2.1 3).1) (mq_28 em mi ic)
theorem mq_29 (em mi ic : Nat) : (DD em mi ic).1 29 = mt29 := rfl
theorem mb29 (em mi ic : Nat) : mBytes (DD em mi ic) 29 = cX11_knock := congrArg (fun x : MI => x.1.2.1) (mq_29 em mi ic)
theorem mo29 (em mi ic : Nat) : mOwn (DD em mi ic) 29 = "Twelvehundred" := congrArg (fun x : MI => x.1.1.cls) (mq_29 em mi ic)
theorem mn29 (em mi ic : Nat) : mName (DD em mi ic) 29 = yX11_knock := congrArg (fun x : MI => x.1.1) (mq_29 em mi ic)
theorem rt_29 (em mi ic : Nat) : mRet (DD em mi ic) 29 = some .int := congrArg (fun x : MI => x.1.2.2.2) (mq_29 em mi ic)
theorem ml_29 (em mi ic : Nat) : mMaxL (DD em mi ic) 29 = 1 := congrArg (fun x : MI => x.1.2.2.1) (mq_29 em mi ic)
theorem hh29 (em mi ic : Nat) : mHH (DD em mi ic) 29 = [] := congrArg (fun x : MI => x.2.2.2.2) (mq_29 em mi ic)
theorem hp29_0 (em mi ic : Nat) : hp (DD em mi ic) 29 0 = 0 := congrArg (fun x : MI => hd0 (x.2.2.1 0).1) (mq_29 em mi ic)
theorem mq_30 (em mi ic : Nat) : (DD em mi ic).1 30 = mt30 := rfl
theorem mb30 (em mi ic : Nat) : mBytes (DD em mi ic) 30 = cX14_knock := congrArg (fun x : MI => x.1.2.1) (mq_30 em mi ic)
theorem mo30 (em mi ic : Nat) : mOwn (DD em mi ic) 30 = "TwelvehundredModel" := congrArg (fun x : MI => x.1.1.cls) (mq_30 em mi ic)
theorem mn30 (em mi ic : Nat) : mName (DD em mi ic) 30 = yX14_knock := congrArg (fun x : MI => x.1.1) (mq_30 em mi ic)
theorem rt_30 (em mi ic : Nat) : mRet (DD em mi ic) 30 = some .int := congrArg (fun x : MI => x.1.2.2.2) (mq_30 em mi ic)
theorem ml_30 (em mi ic : Nat) : mMaxL (DD em mi ic) 30 = 1 := congrArg (fun x : MI => x.1.2.2.1) (mq_30 em mi ic)
theorem hh30 (em mi ic : Nat) : mHH (DD em mi ic) 30 = [] := congrArg (fun x : MI => x.2.2.2.2) (mq_30 em mi ic)
theorem hp30_0 (em mi ic : Nat) : hp (DD em mi ic) 30 0 = 0 := congrArg (fun x : MI => hd0 (x.2.2.1 0).1) (mq_30 em mi ic)
theorem mq_31 (em mi ic : Nat) : (DD em mi ic).1 31 = mt31 := rfl
theorem mb31 (em mi ic : Nat) : mBytes (DD em mi ic) 31 = cL_ofStreet := congrArg (fun x : MI => x.1.2.1) (mq_31 em mi ic)
theorem mo31 (em mi ic : Nat) : mOwn (DD em mi ic) 31 = "TwelvehundredLaw" := congrArg (fun x : MI => x.1.1.cls) (mq_31 em mi ic)
theorem mn31 (em mi ic : Nat) : mName (DD em mi ic) 31 = yL_ofStreet := congrArg (fun x : MI => x.1.1) (mq_31 em mi ic)
theorem rt_31 (em mi ic : Nat) : mRet (DD em mi ic) 31 = some .int := congrArg (fun x : MI => x.1.2.2.2) (mq_31 em mi ic)
theorem ml_31 (em mi ic : Nat) : mMaxL (DD em mi ic) 31 = 5 := congrArg (fun x : MI => x.1.2.2.1) (mq_31 em mi ic)
theorem hp31_0 (em mi ic : Nat) : hp (DD em mi ic) 31 0 = 0 := congrArg (fun x : MI => hd0 (x.2.2.1 0).1) (mq_31 em mi ic)
theorem hp31_3 (em mi ic : Nat) : hp (DD em mi ic) 31 3 = 22 := congrArg (fun x : MI => hd0 (x.2.2.1 3).1) (mq_31 em mi ic)
theorem mq_32 (em mi ic : Nat) : (DD em mi ic).1 32 = mt32 := rfl
theorem mb32 (em mi ic : Nat) : mBytes (DD em mi ic) 32 = cX14_ofStreet := congrArg (fun x : MI => x.1.2.1) (mq_32 em mi ic)
theorem mo32 (em mi ic : Nat) : mOwn (DD em mi ic) 32 = "TwelvehundredModel" := congrArg (fun x : MI => x.1.1.cls) (mq_32 em mi ic)
theorem mn32 (em mi ic : Nat) : mName (DD em mi ic) 32 = yX14_ofStreet := congrArg (fun x : MI => x.1.1) (mq_32 em mi ic)
theorem rt_32 (em mi ic : Nat) : mRet (DD em mi ic) 32 = some .int := congrArg (fun x : MI => x.1.2.2.2) (mq_32 em mi ic)
theorem ml_32 (em mi ic : Nat) : mMaxL (DD em mi ic) 32 = 3 := congrArg (fun x : MI => x.1.2.2.1) (mq_32 em mi ic)
theorem hh32 (em mi ic : Nat) : mHH (DD em mi ic) 32 = [] := congrArg (fun x : MI => x.2.2.2.2) (mq_32 em mi ic)
theorem hp32_0 (em mi ic : Nat) : hp (DD em mi ic) 32 0 = 0 := congrArg (fun x : MI => hd0 (x.2.2.1 0).1) (mq_32 em mi ic)
theorem hp32_1 (em mi ic : Nat) : hp (DD em mi ic) 32 1 = 19 := congrArg (fun x : MI => hd0 (x.2.2.1 1).1) (mq_32 em mi ic)
theorem hp32_2 (em mi ic : Nat) : hp (DD em mi ic) 32 2 = 37 := congrArg (fun x : MI => hd0 (x.2.2.1 2).1) (mq_32 em mi ic)
theorem hp32_3 (em mi ic : Nat) : hp (DD em mi ic) 32 3 = 42 := congrArg (fun x : MI => hd0 (x.2.2.1 3).1) (mq_32 em mi ic)
theorem mq_33 (em mi ic : Nat) : (DD em mi ic).1 33 = mt33 := rfl
theorem mb33 (em mi ic : Nat) : mBytes (DD em mi ic) 33 = cL_ofHousehold := congrArg (fun x : MI => x.1.2.1) (mq_33 em mi ic)
theorem mo33 (em mi ic : Nat) : mOwn (DD em mi ic) 33 = "TwelvehundredLaw" := congrArg (fun x : MI => x.1.1.cls) (mq_33 em mi ic)
theorem mn33 (em mi ic : Nat) : mName (DD em mi ic) 33 = yL_ofHousehold := congrArg (fun x : MI => x.1.1) (mq_33 em mi ic)
theorem rt_33 (em mi ic : Nat) : mRet (DD em mi ic) 33 = some .int := congrArg (fun x : MI => x.1.2.2.2) (mq_33 em mi ic)
theorem ml_33 (em mi ic : Nat) : mMaxL (DD em mi ic) 33 = 5 := congrArg (fun x : MI => x.1.2.2.1) (mq_33 em mi ic)
theorem hp33_0 (em mi ic : Nat) : hp (DD em mi ic) 33 0 = 0 := congrArg (fun x : MI => hd0 (x.2.2.1 0).1) (mq_33 em mi ic)
theorem hp33_3 (em mi ic : Nat) : hp (DD em mi ic) 33 3 = 22 := congrArg (fun x : MI => hd0 (x.2.2.1 3).1) (mq_33 em mi ic)
theorem mq_34 (em mi ic : Nat) : (DD em mi ic).1 34 = mt34 := rfl
theorem mb34 (em mi ic : Nat) : mBytes (DD em mi ic) 34 = cX14_ofHousehold := congrArg (fun x : MI => x.1.2.1) (mq_34 em mi ic)
theorem mo34 (em mi ic : Nat) : mOwn (DD em mi ic) 34 = "TwelvehundredModel" := congrArg (fun x : MI => x.1.1.cls) (mq_34 em mi ic)
theorem mn34 (em mi ic : Nat) : mName (DD em mi ic) 34 = yX14_ofHousehold := congrArg (fun x : MI => x.1.1) (mq_34 em mi ic)
theorem rt_34 (em mi ic : Nat) : mRet (DD em mi ic) 34 = some .int := congrArg (fun x : MI => x.1.2.2.2) (mq_34 em mi ic)
theorem ml_34 (em mi ic : Nat) : mMaxL (DD em mi ic) 34 = 3 := congrArg (fun x : MI => x.1.2.2.1) (mq_34 em mi ic)
theorem hh34 (em mi ic : Nat) : mHH (DD em mi ic) 34 = [] := congrArg (fun x : MI => x.2.2.2.2) (mq_34 em mi ic)
theorem hp34_0 (em mi ic : Nat) : hp (DD em mi ic) 34 0 = 0 := congrArg (fun x : MI => hd0 (x.2.2.1 0).1) (mq_34 em mi ic)
theorem hp34_1 (em mi ic : Nat) : hp (DD em mi ic) 34 1 = 19 := congrArg (fun x : MI => hd0 (x.2.2.1 1).1) (mq_34 em mi ic)
theorem hp34_2 (em mi ic : Nat) : hp (DD em mi ic) 34 2 = 37 := congrArg (fun x : MI => hd0 (x.2.2.1 2).1) (mq_34 em mi ic)
theorem hp34_3 (em mi ic : Nat) : hp (DD em mi ic) 34 3 = 42 := congrArg (fun x : MI => hd0 (x.2.2.1 3).1) (mq_34 em mi ic)
theorem mq_35 (em mi ic : Nat) : (DD em mi ic).1 35 = mt35 := rfl
theorem mb35 (em mi ic : Nat) : mBytes (DD em mi ic) 35 = cL_ofHall := congrArg (fun x : MI => x.1.2.1) (mq_35 em mi ic)
theorem mo35 (em mi ic : Nat) : mOwn (DD em mi ic) 35 = "TwelvehundredLaw" := congrArg (fun x : MI => x.1.1.cls) (mq_35 em mi ic)
theorem mn35 (em mi ic : Nat) : mName (DD em mi ic) 35 = yL_ofHall := congrArg (fun x : MI => x.1.1) (mq_35 em mi ic)
theorem rt_35 (em mi ic : Nat) : mRet (DD em mi ic) 35 = some .int := congrArg (fun x : MI => x.1.2.2.2) (mq_35 em mi ic)
theorem ml_35 (em mi ic : Nat) : mMaxL (DD em mi ic) 35 = 5 := congrArg (fun x : MI => x.1.2.2.1) (mq_35 em mi ic)
theorem hp35_0 (em mi ic : Nat) : hp (DD em mi ic) 35 0 = 0 := congrArg (fun x : MI => hd0 (x.2.2.1 0).1) (mq_35 em mi ic)
theorem hp35_3 (em mi ic : Nat) : hp (DD em mi ic) 35 3 = 22 := congrArg (fun x : MI => hd0 (x.2.2.1 3).1) (mq_35 em mi ic)
theorem mq_36 (em mi ic : Nat) : (DD em mi ic).1 36 = mt36 := rfl
theorem mb36 (em mi ic : Nat) : mBytes (DD em mi ic) 36 = cX14_ofHall := congrArg (fun x : MI => x.1.2.1) (mq_36 em mi ic)
theorem mo36 (em mi ic : Nat) : mOwn (DD em mi ic) 36 = "TwelvehundredModel" := congrArg (fun x : MI => x.1.1.cls) (mq_36 em mi ic)
theorem mn36 (em mi ic : Nat) : mName (DD em mi ic) 36 = yX14_ofHall := congrArg (fun x : MI => x.1.1) (mq_36 em mi ic)
theorem rt_36 (em mi ic : Nat) : mRet (DD em mi ic) 36 = some .int := congrArg (fun x : MI => x.1.2.2.2) (mq_36 em mi ic)
theorem ml_36 (em mi ic : Nat) : mMaxL (DD em mi ic) 36 = 3 := congrArg (fun x : MI => x.1.2.2.1) (mq_36 em mi ic)
theorem hh36 (em mi ic : Nat) : mHH (DD em mi ic) 36 = [] := congrArg (fun x : MI => x.2.2.2.2) (mq_36 em mi ic)
theorem hp36_0 (em mi ic : Nat) : hp (DD em mi ic) 36 0 = 0 := congrArg (fun x : MI => hd0 (x.2.2.1 0).1) (mq_36 em mi ic)
theorem hp36_1 (em mi ic : Nat) : hp (DD em mi ic) 36 1 = 19 := congrArg (fun x : MI => hd0 (x.2.2.1 1).1) (mq_36 em mi ic)
theorem hp36_2 (em mi ic : Nat) : hp (DD em mi ic) 36 2 = 37 := congrArg (fun x : MI => hd0 (x.2.2.1 2).1) (mq_36 em mi ic)
theorem hp36_3 (em mi ic : Nat) : hp (DD em mi ic) 36 3 = 42 := congrArg (fun x : MI => hd0 (x.2.2.1 3).1) (mq_36 em mi ic)
theorem mq_37 (em mi ic : Nat) : (DD em mi ic).1 37 = mt37 := rfl
theorem mb37 (em mi ic : Nat) : mBytes (DD em mi ic) 37 = cL_ofLot := congrArg (fun x : MI => x.1.2.1) (mq_37 em mi ic)
theorem mo37 (em mi ic : Nat) : mOwn (DD em mi ic) 37 = "TwelvehundredLaw" := congrArg (fun x : MI => x.1.1.cls) (mq_37 em mi ic)
theorem mn37 (em mi ic : Nat) : mName (DD em mi ic) 37 = yL_ofLot := congrArg (fun x : MI => x.1.1) (mq_37 em mi ic)
theorem rt_37 (em mi ic : Nat) : mRet (DD em mi ic) 37 = some .int := congrArg (fun x : MI => x.1.2.2.2) (mq_37 em mi ic)
theorem ml_37 (em mi ic : Nat) : mMaxL (DD em mi ic) 37 = 5 := congrArg (fun x : MI => x.1.2.2.1) (mq_37 em mi ic)
theorem hp37_0 (em mi ic : Nat) : hp (DD em mi ic) 37 0 = 0 := congrArg (fun x : MI => hd0 (x.2.2.1 0).1) (mq_37 em mi ic)
theorem hp37_3 (em mi ic : Nat) : hp (DD em mi ic) 37 3 = 22 := congrArg (fun x : MI => hd0 (x.2.2.1 3).1) (mq_37 em mi ic)
theorem mq_38 (em mi ic : Nat) : (DD em mi ic).1 38 = mt38 := rfl
theorem mb38 (em mi ic : Nat) : mBytes (DD em mi ic) 38 = cX14_ofLot := congrArg (fun x : MI => x.1.2.1) (mq_38 em mi ic)
theorem mo38 (em mi ic : Nat) : mOwn (DD em mi ic) 38 = "TwelvehundredModel" := congrArg (fun x : MI => x.1.1.cls) (mq_38 em mi ic)
theorem mn38 (em mi ic : Nat) : mName (DD em mi ic) 38 = yX14_ofLot := congrArg (fun x : MI => x.1.1) (mq_38 em mi ic)
theorem rt_38 (em mi ic : Nat) : mRet (DD em mi ic) 38 = some .int := congrArg (fun x : MI => x.1.2.2.2) (mq_38 em mi ic)
theorem ml_38 (em mi ic : Nat) : mMaxL (DD em mi ic) 38 = 3 := congrArg (fun x : MI => x.1.2.2.1) (mq_38 em mi ic)
theorem hh38 (em mi ic : Nat) : mHH (DD em mi ic) 38 = [] := congrArg (fun x : MI => x.2.2.2.2) (mq_38 em mi ic)
theorem hp38_0 (em mi ic : Nat) : hp (DD em mi ic) 38 0 = 0 := congrArg (fun x : MI => hd0 (x.2.2.1 0).1) (mq_38 em mi ic)
theorem hp38_1 (em mi ic : Nat) : hp (DD em mi ic) 38 1 = 28 := congrArg (fun x : MI => hd0 (x.2.2.1 1).1) (mq_38 em mi ic)
theorem hp38_2 (em mi ic : Nat) : hp (DD em mi ic) 38 2 = 37 := congrArg (fun x : MI => hd0 (x.2.2.1 2).1) (mq_38 em mi ic)
theorem hp38_3 (em mi ic : Nat) : hp (DD em mi ic) 38 3 = 53 := congrArg (fun x : MI => hd0 (x.2.2.1 3).1) (mq_38 em mi ic)
theorem hp38_4 (em mi ic : Nat) : hp (DD em mi ic) 38 4 = 58 := congrArg (fun x : MI => hd0 (x.2.2.1 4).1) (mq_38 em mi ic)
theorem mq_39 (em mi ic : Nat) : (DD em mi ic).1 39 = mt39 := rfl
theorem mb39 (em mi ic : Nat) : mBytes (DD em mi ic) 39 = cL_county := congrArg (fun x : MI => x.1.2.1) (mq_39 em mi ic)
theorem mo39 (em mi ic : Nat) : mOwn (DD em mi ic) 39 = "TwelvehundredLaw" := congrArg (fun x : MI => x.1.1.cls) (mq_39 em mi ic)
theorem mn39 (em mi ic : Nat) : mName (DD em mi ic) 39 = yL_county := congrArg (fun x : MI => x.1.1) (mq_39 em mi ic)
theorem rt_39 (em mi ic : Nat) : mRet (DD em mi ic) 39 = some .int := congrArg (fun x : MI => x.1.2.2.2) (mq_39 em mi ic)
theorem ml_39 (em mi ic : Nat) : mMaxL (DD em mi ic) 39 = 4 := congrArg (fun x : MI => x.1.2.2.1) (mq_39 em mi ic)
theorem hp39_0 (em mi ic : Nat) : hp (DD em mi ic) 39 0 = 0 := congrArg (fun x : MI => hd0 (x.2.2.1 0).1) (mq_39 em mi ic)
theorem hp39_2 (em mi ic : Nat) : hp (DD em mi ic) 39 2 = 16 := congrArg (fun x : MI => hd0 (x.2.2.1 2).1) (mq_39 em mi ic)
theorem mq_40 (em mi ic : Nat) : (DD em mi ic).1 40 = mt40 := rfl
theorem mb40 (em mi ic : Nat) : mBytes (DD em mi ic) 40 = cX14_county := congrArg (fun x : MI => x.1.2.1) (mq_40 em mi ic)
theorem mo40 (em mi ic : Nat) : mOwn (DD em mi ic) 40 = "TwelvehundredModel" := congrArg (fun x : MI => x.1.1.cls) (mq_40 em mi ic)
theorem mn40 (em mi ic : Nat) : mName (DD em mi ic) 40 = yX14_county := congrArg (fun x : MI => x.1.1) (mq_40 em mi ic)
theorem rt_40 (em mi ic : Nat) : mRet (DD em mi ic) 40 = some .int := congrArg (fun x : MI => x.1.2.2.2) (mq_40 em mi ic)
theorem ml_40 (em mi ic : Nat) : mMaxL (DD em mi ic) 40 = 2 := congrArg (fun x : MI => x.1.2.2.1) (mq_40 em mi ic)
theorem hh40 (em mi ic : Nat) : mHH (DD em mi ic) 40 = [] := congrArg (fun x : MI => x.2.2.2.2) (mq_40 em mi ic)
theorem hp40_0 (em mi ic : Nat) : hp (DD em mi ic) 40 0 = 0 := congrArg (fun x : MI => hd0 (x.2.2.1 0).1) (mq_40 em mi ic)
theorem hp40_1 (em mi ic : Nat) : hp (DD em mi ic) 40 1 = 23 := congrArg (fun x : MI => hd0 (x.2.2.1 1).1) (mq_40 em mi ic)
theorem hp40_2 (em mi ic : Nat) : hp (DD em mi ic) 40 2 = 28 := congrArg (fun x : MI => hd0 (x.2.2.1 2).1) (mq_40 em mi ic)
theorem mq_41 (em mi ic : Nat) : (DD em mi ic).1 41 = mt41 := rfl
theorem mb41 (em mi ic : Nat) : mBytes (DD em mi ic) 41 = cX11_signs := congrArg (fun x : MI => x.1.2.1) (mq_41 em mi ic)
theorem mo41 (em mi ic : Nat) : mOwn (DD em mi ic) 41 = "Twelvehundred" := congrArg (fun x : MI => x.1.1.cls) (mq_41 em mi ic)
theorem mn41 (em mi ic : Nat) : mName (DD em mi ic) 41 = yX11_signs := congrArg (fun x : MI => x.1.1) (mq_41 em mi ic)
theorem rt_41 (em mi ic : Nat) : mRet (DD em mi ic) 41 = some (.object "java/lang/String") := congrArg (fun x : MI => x.1.2.2.2) (mq_41 em mi ic)
theorem ml_41 (em mi ic : Nat) : mMaxL (DD em mi ic) 41 = 3 := congrArg (fun x : MI => x.1.2.2.1) (mq_41 em mi ic)
theorem hh41 (em mi ic : Nat) : mHH (DD em mi ic) 41 = [] := congrArg (fun x : MI => x.2.2.2.2) (mq_41 em mi ic)
theorem hp41_0 (em mi ic : Nat) : hp (DD em mi ic) 41 0 = 0 := congrArg (fun x : MI => hd0 (x.2.2.1 0).1) (mq_41 em mi ic)
theorem hp41_1 (em mi ic : Nat) : hp (DD em mi ic) 41 1 = 10 := congrArg (fun x : MI => hd0 (x.2.2.1 1).1) (mq_41 em mi ic)
theorem hp41_2 (em mi ic : Nat) : hp (DD em mi ic) 41 2 = 47 := congrArg (fun x : MI => hd0 (x.2.2.1 2).1) (mq_41 em mi ic)
theorem mq_42 (em mi ic : Nat) : (DD em mi ic).1 42 = mt42 := rfl
theorem mb42 (em mi ic : Nat) : mBytes (DD em mi ic) 42 = cX14_signs := congrArg (fun x : MI => x.1.2.1) (mq_42 em mi ic)
theorem mo42 (em mi ic : Nat) : mOwn (DD em mi ic) 42 = "TwelvehundredModel" := congrArg (fun x : MI => x.1.1.cls) (mq_42 em mi ic)
theorem mn42 (em mi ic : Nat) : mName (DD em mi ic) 42 = yX14_signs := congrArg (fun x : MI => x.1.1) (mq_42 em mi ic)
theorem rt_42 (em mi ic : Nat) : mRet (DD em mi ic) 42 = some (.object "java/lang/String") := congrArg (fun x : MI => x.1.2.2.2) (mq_42 em mi ic)
theorem ml_42 (em mi ic : Nat) : mMaxL (DD em mi ic) 42 = 1 := congrArg (fun x : MI => x.1.2.2.1) (mq_42 em mi ic)
theorem hh42 (em mi ic : Nat) : mHH (DD em mi ic) 42 = [] := congrArg (fun x : MI => x.2.2.2.2) (mq_42 em mi ic)
theorem hp42_0 (em mi ic : Nat) : hp (DD em mi ic) 42 0 = 0 := congrArg (fun x : MI => hd0 (x.2.2.1 0).1) (mq_42 em mi ic)
theorem mq_43 (em mi ic : Nat) : (DD em mi ic).1 43 = mt43 := rfl
theorem mb43 (em mi ic : Nat) : mBytes (DD em mi ic) 43 = cL_can := congrArg (fun x : MI => x.1.2.1) (mq_43 em mi ic)
theorem mo43 (em mi ic : Nat) : mOwn (DD em mi ic) 43 = "TwelvehundredLaw" := congrArg (fun x : MI => x.1.1.cls) (mq_43 em mi ic)
theorem mn43 (em mi ic : Nat) : mName (DD em mi ic) 43 = yL_can := congrArg (fun x : MI => x.1.1) (mq_43 em mi ic)
theorem rt_43 (em mi ic : Nat) : mRet (DD em mi ic) 43 = some .int := congrArg (fun x : MI => x.1.2.2.2) (mq_43 em mi ic)
theorem ml_43 (em mi ic : Nat) : mMaxL (DD em mi ic) 43 = 4 := congrArg (fun x : MI => x.1.2.2.1) (mq_43 em mi ic)
theorem hp43_0 (em mi ic : Nat) : hp (DD em mi ic) 43 0 = 0 := congrArg (fun x : MI => hd0 (x.2.2.1 0).1) (mq_43 em mi ic)
theorem hp43_1 (em mi ic : Nat) : hp (DD em mi ic) 43 1 = 13 := congrArg (fun x : MI => hd0 (x.2.2.1 1).1) (mq_43 em mi ic)
theorem hp43_2 (em mi ic : Nat) : hp (DD em mi ic) 43 2 = 14 := congrArg (fun x : MI => hd0 (x.2.2.1 2).1) (mq_43 em mi ic)
theorem hp43_4 (em mi ic : Nat) : hp (DD em mi ic) 43 4 = 23 := congrArg (fun x : MI => hd0 (x.2.2.1 4).1) (mq_43 em mi ic)
theorem mq_44 (em mi ic : Nat) : (DD em mi ic).1 44 = mt44 := rfl
theorem mb44 (em mi ic : Nat) : mBytes (DD em mi ic) 44 = cX14_can := congrArg (fun x : MI => x.1.2.1) (mq_44 em mi ic)
theorem mo44 (em mi ic : Nat) : mOwn (DD em mi ic) 44 = "TwelvehundredModel" := congrArg (fun x : MI => x.1.1.cls) (mq_44 em mi ic)
theorem mn44 (em mi ic : Nat) : mName (DD em mi ic) 44 = yX14_can := congrArg (fun x : MI => x.1.1) (mq_44 em mi ic)
theorem rt_44 (em mi ic : Nat) : mRet (DD em mi ic) 44 = some .boolean := congrArg (fun x : MI => x.1.2.2.2) (mq_44 em mi ic)
theorem ml_44 (em mi ic : Nat) : mMaxL (DD em mi ic) 44 = 2 := congrArg (fun x : MI => x.1.2.2.1) (mq_44 em mi ic)
theorem hh44 (em mi ic : Nat) : mHH (DD em mi ic) 44 = [] := congrArg (fun x : MI => x.2.2.2.2) (mq_44 em mi ic)
theorem hp44_0 (em mi ic : Nat) : hp (DD em mi ic) 44 0 = 0 := congrArg (fun x : MI => hd0 (x.2.2.1 0).1) (mq_44 em mi ic)
theorem hp44_1 (em mi ic : Nat) : hp (DD em mi ic) 44 1 = 24 := congrArg (fun x : MI => hd0 (x.2.2.1 1).1) (mq_44 em mi ic)
theorem hp44_2 (em mi ic : Nat) : hp (DD em mi ic) 44 2 = 25 := congrArg (fun x : MI => hd0 (x.2.2.1 2).1) (mq_44 em mi ic)
theorem hp44_3 (em mi ic : Nat) : hp (DD em mi ic) 44 3 = 47 := congrArg (fun x : MI => hd0 (x.2.2.1 3).1) (mq_44 em mi ic)
theorem hp44_4 (em mi ic : Nat) : hp (DD em mi ic) 44 4 = 48 := congrArg (fun x : MI => hd0 (x.2.2.1 4).1) (mq_44 em mi ic)
theorem mq_45 (em mi ic : Nat) : (DD em mi ic).1 45 = mt45 := rfl
theorem mb45 (em mi ic : Nat) : mBytes (DD em mi ic) 45 = cX11_chosen := congrArg (fun x : MI => x.1.2.1) (mq_45 em mi ic)
theorem mo45 (em mi ic : Nat) : mOwn (DD em mi ic) 45 = "Twelvehundred" := congrArg (fun x : MI => x.1.1.cls) (mq_45 em mi ic)
theorem mn45 (em mi ic : Nat) : mName (DD em mi ic) 45 = yX11_chosen := congrArg (fun x : MI => x.1.1) (mq_45 em mi ic)
theorem rt_45 (em mi ic : Nat) : mRet (DD em mi ic) 45 = some .int := congrArg (fun x : MI => x.1.2.2.2) (mq_45 em mi ic)
theorem ml_45 (em mi ic : Nat) : mMaxL (DD em mi ic) 45 = 1 := congrArg (fun x : MI => x.1.2.2.1) (mq_45 em mi ic)
theorem hh45 (em mi ic : Nat) : mHH (DD em mi ic) 45 = [] := congrArg (fun x : MI => x.2.2.2.2) (mq_45 em mi ic)
theorem hp45_0 (em mi ic : Nat) : hp (DD em mi ic) 45 0 = 0 := congrArg (fun x : MI => hd0 (x.2.2.1 0).1) (mq_45 em mi ic)
theorem mq_46 (em mi ic : Nat) : (DD em mi ic).1 46 = mt46 := rfl
theorem mb46 (em mi ic : Nat) : mBytes (DD em mi ic) 46 = cX14_chosen := congrArg (fun x : MI => x.1.2.1) (mq_46 em mi ic)
theorem mo46 (em mi ic : Nat) : mOwn (DD em mi ic) 46 = "TwelvehundredModel" := congrArg (fun x : MI => x.1.1.cls) (mq_46 em mi ic)
theorem mn46 (em mi ic : Nat) : mName (DD em mi ic) 46 = yX14_chosen := congrArg (fun x : MI => x.1.1) (mq_46 em mi ic)
theorem rt_46 (em mi ic : Nat) : mRet (DD em mi ic) 46 = some .int := congrArg (fun x : MI => x.1.2.2.2) (mq_46 em mi ic)
theorem ml_46 (em mi ic : Nat) : mMaxL (DD em mi ic) 46 = 1 := congrArg (fun x : MI => x.1.2.2.1) (mq_46 em mi ic)
theorem hh46 (em mi ic : Nat) : mHH (DD em mi ic) 46 = [] := congrArg (fun x : MI => x.2.2.2.2) (mq_46 em mi ic)
theorem hp46_0 (em mi ic : Nat) : hp (DD em mi ic) 46 0 = 0 := congrArg (fun x : MI => hd0 (x.2.2.1 0).1) (mq_46 em mi ic)
theorem mq_47 (em mi ic : Nat) : (DD em mi ic).1 47 = mt47 := rfl
theorem mb47 (em mi ic : Nat) : mBytes (DD em mi ic) 47 = cX11_isStable := congrArg (fun x : MI => x.1.2.1) (mq_47 em mi ic)
theorem mo47 (em mi ic : Nat) : mOwn (DD em mi ic) 47 = "Twelvehundred" := congrArg (fun x : MI => x.1.1.cls) (mq_47 em mi ic)
theorem mn47 (em mi ic : Nat) : mName (DD em mi ic) 47 = yX11_isStable := congrArg (fun x : MI => x.1.1) (mq_47 em mi ic)
theorem rt_47 (em mi ic : Nat) : mRet (DD em mi ic) 47 = some .boolean := congrArg (fun x : MI => x.1.2.2.2) (mq_47 em mi ic)
theorem ml_47 (em mi ic : Nat) : mMaxL (DD em mi ic) 47 = 2 := congrArg (fun x : MI => x.1.2.2.1) (mq_47 em mi ic)
theorem hh47 (em mi ic : Nat) : mHH (DD em mi ic) 47 = [] := congrArg (fun x : MI => x.2.2.2.2) (mq_47 em mi ic)
theorem hp47_0 (em mi ic : Nat) : hp (DD em mi ic) 47 0 = 0 := congrArg (fun x : MI => hd0 (x.2.2.1 0).1) (mq_47 em mi ic)
theorem hp47_1 (em mi ic : Nat) : hp (DD em mi ic) 47 1 = 35 := congrArg (fun x : MI => hd0 (x.2.2.1 1).1) (mq_47 em mi ic)
theorem hp47_2 (em mi ic : Nat) : hp (DD em mi ic) 47 2 = 36 := congrArg (fun x : MI => hd0 (x.2.2.1 2).1) (mq_47 em mi ic)
theorem mq_48 (em mi ic : Nat) : (DD em mi ic).1 48 = mt48 := rfl
theorem mb48 (em mi ic : Nat) : mBytes (DD em mi ic) 48 = cX14_isStable := congrArg (fun x : MI => x.1.2.1) (mq_48 em mi ic)
theorem mo48 (em mi ic : Nat) : mOwn (DD em mi ic) 48 = "TwelvehundredModel" := congrArg (fun x : MI => x.1.1.cls) (mq_48 em mi ic)
theorem mn48 (em mi ic : Nat) : mName (DD em mi ic) 48 = yX14_isStable := congrArg (fun x : MI => x.1.1) (mq_48 em mi ic)
theorem rt_48 (em mi ic : Nat) : mRet (DD em mi ic) 48 = some .boolean := congrArg (fun x : MI => x.1.2.2.2) (mq_48 em mi ic)
theorem ml_48 (em mi ic : Nat) : mMaxL (DD em mi ic) 48 = 5 := congrArg (fun x : MI => x.1.2.2.1) (mq_48 em mi ic)
theorem hh48 (em mi ic : Nat) : mHH (DD em mi ic) 48 = [] := congrArg (fun x : MI => x.2.2.2.2) (mq_48 em mi ic)
theorem hp48_0 (em mi ic : Nat) : hp (DD em mi ic) 48 0 = 0 := congrArg (fun x : MI => hd0 (x.2.2.1 0).1) (mq_48 em mi ic)
theorem hp48_1 (em mi ic : Nat) : hp (DD em mi ic) 48 1 = 23 := congrArg (fun x : MI => hd0 (x.2.2.1 1).1) (mq_48 em mi ic)
theorem hp48_2 (em mi ic : Nat) : hp (DD em mi ic) 48 2 = 48 := congrArg (fun x : MI => hd0 (x.2.2.1 2).1) (mq_48 em mi ic)
theorem hp48_3 (em mi ic : Nat) : hp (DD em mi ic) 48 3 = 85 := congrArg (fun x : MI => hd0 (x.2.2.1 3).1) (mq_48 em mi ic)
theorem hp48_4 (em mi ic : Nat) : hp (DD em mi ic) 48 4 = 91 := congrArg (fun x : MI => hd0 (x.2.2.1 4).1) (mq_48 em mi ic)
theorem hp48_5 (em mi ic : Nat) : hp (DD em mi ic) 48 5 = 111 := congrArg (fun x : MI => hd0 (x.2.2.1 5).1) (mq_48 em mi ic)
theorem hp48_6 (em mi ic : Nat) : hp (DD em mi ic) 48 6 = 112 := congrArg (fun x : MI => hd0 (x.2.2.1 6).1) (mq_48 em mi ic)
theorem mq_49 (em mi ic : Nat) : (DD em mi ic).1 49 = mt49 := rfl
theorem mb49 (em mi ic : Nat) : mBytes (DD em mi ic) 49 = cL_would := congrArg (fun x : MI => x.1.2.1) (mq_49 em mi ic)
theorem mo49 (em mi ic : Nat) : mOwn (DD em mi ic) 49 = "TwelvehundredLaw" := congrArg (fun x : MI => x.1.1.cls) (mq_49 em mi ic)
theorem mn49 (em mi ic : Nat) : mName (DD em mi ic) 49 = yL_would := congrArg (fun x : MI => x.1.1) (mq_49 em mi ic)
theorem rt_49 (em mi ic : Nat) : mRet (DD em mi ic) 49 = some .int := congrArg (fun x : MI => x.1.2.2.2) (mq_49 em mi ic)
theorem ml_49 (em mi ic : Nat) : mMaxL (DD em mi ic) 49 = 5 := congrArg (fun x : MI => x.1.2.2.1) (mq_49 em mi ic)
theorem hp49_0 (em mi ic : Nat) : hp (DD em mi ic) 49 0 = 0 := congrArg (fun x : MI => hd0 (x.2.2.1 0).1) (mq_49 em mi ic)
theorem hp49_2 (em mi ic : Nat) : hp (DD em mi ic) 49 2 = 18 := congrArg (fun x : MI => hd0 (x.2.2.1 2).1) (mq_49 em mi ic)
theorem mq_50 (em mi ic : Nat) : (DD em mi ic).1 50 = mt50 := rfl
theorem mb50 (em mi ic : Nat) : mBytes (DD em mi ic) 50 = cX14_would := congrArg (fun x : MI => x.1.2.1) (mq_50 em mi ic)
theorem mo50 (em mi ic : Nat) : mOwn (DD em mi ic) 50 = "TwelvehundredModel" := congrArg (fun x : MI => x.1.1.cls) (mq_50 em mi ic)
theorem mn50 (em mi ic : Nat) : mName (DD em mi ic) 50 = yX14_would := congrArg (fun x : MI => x.1.1) (mq_50 em mi ic)
theorem rt_50 (em mi ic : Nat) : mRet (DD em mi ic) 50 = some .int := congrArg (fun x : MI => x.1.2.2.2) (mq_50 em mi ic)
theorem ml_50 (em mi ic : Nat) : mMaxL (DD em mi ic) 50 = 3 := congrArg (fun x : MI => x.1.2.2.1) (mq_50 em mi ic)
theorem hh50 (em mi ic : Nat) : mHH (DD em mi ic) 50 = [] := congrArg (fun x : MI => x.2.2.2.2) (mq_50 em mi ic)
theorem hp50_0 (em mi ic : Nat) : hp (DD em mi ic) 50 0 = 0 := congrArg (fun x : MI => hd0 (x.2.2.1 0).1) (mq_50 em mi ic)
theorem hp50_1 (em mi ic : Nat) : hp (DD em mi ic) 50 1 = 34 := congrArg (fun x : MI => hd0 (x.2.2.1 1).1) (mq_50 em mi ic)
theorem hp50_2 (em mi ic : Nat) : hp (DD em mi ic) 50 2 = 39 := congrArg (fun x : MI => hd0 (x.2.2.1 2).1) (mq_50 em mi ic)
theorem mq_51 (em mi ic : Nat) : (DD em mi ic).1 51 = mt51 := rfl
theorem mb51 (em mi ic : Nat) : mBytes (DD em mi ic) 51 = cL_areAlike := congrArg (fun x : MI => x.1.2.1) (mq_51 em mi ic)
theorem mo51 (em mi ic : Nat) : mOwn (DD em mi ic) 51 = "TwelvehundredLaw" := congrArg (fun x : MI => x.1.1.cls) (mq_51 em mi ic)
theorem mn51 (em mi ic : Nat) : mName (DD em mi ic) 51 = yL_areAlike := congrArg (fun x : MI => x.1.1) (mq_51 em mi ic)
theorem rt_51 (em mi ic : Nat) : mRet (DD em mi ic) 51 = some .int := congrArg (fun x : MI => x.1.2.2.2) (mq_51 em mi ic)
theorem ml_51 (em mi ic : Nat) : mMaxL (DD em mi ic) 51 = 5 := congrArg (fun x : MI => x.1.2.2.1) (mq_51 em mi ic)
theorem hp51_0 (em mi ic : Nat) : hp (DD em mi ic) 51 0 = 0 := congrArg (fun x : MI => hd0 (x.2.2.1 0).1) (mq_51 em mi ic)
theorem hp51_1 (em mi ic : Nat) : hp (DD em mi ic) 51 1 = 14 := congrArg (fun x : MI => hd0 (x.2.2.1 1).1) (mq_51 em mi ic)
theorem hp51_2 (em mi ic : Nat) : hp (DD em mi ic) 51 2 = 15 := congrArg (fun x : MI => hd0 (x.2.2.1 2).1) (mq_51 em mi ic)
theorem hp51_4 (em mi ic : Nat) : hp (DD em mi ic) 51 4 = 25 := congrArg (fun x : MI => hd0 (x.2.2.1 4).1) (mq_51 em mi ic)
theorem mq_52 (em mi ic : Nat) : (DD em mi ic).1 52 = mt52 := rfl
theorem mb52 (em mi ic : Nat) : mBytes (DD em mi ic) 52 = cX14_areAlike := congrArg (fun x : MI => x.1.2.1) (mq_52 em mi ic)
theorem mo52 (em mi ic : Nat) : mOwn (DD em mi ic) 52 = "TwelvehundredModel" := congrArg (fun x : MI => x.1.1.cls) (mq_52 em mi ic)
theorem mn52 (em mi ic : Nat) : mName (DD em mi ic) 52 = yX14_areAlike := congrArg (fun x : MI => x.1.1) (mq_52 em mi ic)
theorem rt_52 (em mi ic : Nat) : mRet (DD em mi ic) 52 = some .boolean := congrArg (fun x : MI => x.1.2.2.2) (mq_52 em mi ic)
theorem ml_52 (em mi ic : Nat) : mMaxL (DD em mi ic) 52 = 3 := congrArg (fun x : MI => x.1.2.2.1) (mq_52 em mi ic)
theorem hh52 (em mi ic : Nat) : mHH (DD em mi ic) 52 = [] := congrArg (fun x : MI => x.2.2.2.2) (mq_52 em mi ic)
theorem hp52_0 (em mi ic : Nat) : hp (DD em mi ic) 52 0 = 0 := congrArg (fun x : MI => hd0 (x.2.2.1 0).1) (mq_52 em mi ic)
theorem hp52_1 (em mi ic : Nat) : hp (DD em mi ic) 52 1 = 19 := congrArg (fun x : MI => hd0 (x.2.2.1 1).1) (mq_52 em mi ic)
theorem hp52_2 (em mi ic : Nat) : hp (DD em mi ic) 52 2 = 20 := congrArg (fun x : MI => hd0 (x.2.2.1 2).1) (mq_52 em mi ic)
theorem hp52_3 (em mi ic : Nat) : hp (DD em mi ic) 52 3 = 42 := congrArg (fun x : MI => hd0 (x.2.2.1 3).1) (mq_52 em mi ic)
theorem hp52_4 (em mi ic : Nat) : hp (DD em mi ic) 52 4 = 43 := congrArg (fun x : MI => hd0 (x.2.2.1 4).1) (mq_52 em mi ic)
theorem mq_53 (em mi ic : Nat) : (DD em mi ic).1 53 = mt53 := rfl
theorem mb53 (em mi ic : Nat) : mBytes (DD em mi ic) 53 = cX11_isSound := congrArg (fun x : MI => x.1.2.1) (mq_53 em mi ic)
theorem mo53 (em mi ic : Nat) : mOwn (DD em mi ic) 53 = "Twelvehundred" := congrArg (fun x : MI => x.1.1.cls) (mq_53 em mi ic)
theorem mn53 (em mi ic : Nat) : mName (DD em mi ic) 53 = yX11_isSound := congrArg (fun x : MI => x.1.1) (mq_53 em mi ic)
theorem rt_53 (em mi ic : Nat) : mRet (DD em mi ic) 53 = some .boolean := congrArg (fun x : MI => x.1.2.2.2) (mq_53 em mi ic)
theorem ml_53 (em mi ic : Nat) : mMaxL (DD em mi ic) 53 = 1 := congrArg (fun x : MI => x.1.2.2.1) (mq_53 em mi ic)
theorem hh53 (em mi ic : Nat) : mHH (DD em mi ic) 53 = [] := congrArg (fun x : MI => x.2.2.2.2) (mq_53 em mi ic)
theorem hp53_0 (em mi ic : Nat) : hp (DD em mi ic) 53 0 = 0 := congrArg (fun x : MI => hd0 (x.2.2.1 0).1) (mq_53 em mi ic)
theorem hp53_1 (em mi ic : Nat) : hp (DD em mi ic) 53 1 = 20 := congrArg (fun x : MI => hd0 (x.2.2.1 1).1) (mq_53 em mi ic)
theorem hp53_2 (em mi ic : Nat) : hp (DD em mi ic) 53 2 = 22 := congrArg (fun x : MI => hd0 (x.2.2.1 2).1) (mq_53 em mi ic)
theorem hp53_3 (em mi ic : Nat) : hp (DD em mi ic) 53 3 = 102 := congrArg (fun x : MI => hd0 (x.2.2.1 3).1) (mq_53 em mi ic)
theorem hp53_4 (em mi ic : Nat) : hp (DD em mi ic) 53 4 = 103 := congrArg (fun x : MI => hd0 (x.2.2.1 4).1) (mq_53 em mi ic)
theorem mq_54 (em mi ic : Nat) : (DD em mi ic).1 54 = mt54 := rfl
theorem mb54 (em mi ic : Nat) : mBytes (DD em mi ic) 54 = cX14_isSound := congrArg (fun x : MI => x.1.2.1) (mq_54 em mi ic)
theorem mo54 (em mi ic : Nat) : mOwn (DD em mi ic) 54 = "TwelvehundredModel" := congrArg (fun x : MI => x.1.1.cls) (mq_54 em mi ic)
theorem mn54 (em mi ic : Nat) : mName (DD em mi ic) 54 = yX14_isSound := congrArg (fun x : MI => x.1.1) (mq_54 em mi ic)
theorem rt_54 (em mi ic : Nat) : mRet (DD em mi ic) 54 = some .boolean := congrArg (fun x : MI => x.1.2.2.2) (mq_54 em mi ic)
theorem ml_54 (em mi ic : Nat) : mMaxL (DD em mi ic) 54 = 1 := congrArg (fun x : MI => x.1.2.2.1) (mq_54 em mi ic)
theorem hh54 (em mi ic : Nat) : mHH (DD em mi ic) 54 = [] := congrArg (fun x : MI => x.2.2.2.2) (mq_54 em mi ic)
theorem hp54_0 (em mi ic : Nat) : hp (DD em mi ic) 54 0 = 0 := congrArg (fun x : MI => hd0 (x.2.2.1 0).1) (mq_54 em mi ic)
theorem mq_55 (em mi ic : Nat) : (DD em mi ic).1 55 = mt55 := rfl
theorem mb55 (em mi ic : Nat) : mBytes (DD em mi ic) 55 = cX11_digest := congrArg (fun x : MI => x.1.2.1) (mq_55 em mi ic)
theorem mo55 (em mi ic : Nat) : mOwn (DD em mi ic) 55 = "Twelvehundred" := congrArg (fun x : MI => x.1.1.cls) (mq_55 em mi ic)
theorem mn55 (em mi ic : Nat) : mName (DD em mi ic) 55 = yX11_digest := congrArg (fun x : MI => x.1.1) (mq_55 em mi ic)
theorem rt_55 (em mi ic : Nat) : mRet (DD em mi ic) 55 = some .long := congrArg (fun x : MI => x.1.2.2.2) (mq_55 em mi ic)
theorem ml_55 (em mi ic : Nat) : mMaxL (DD em mi ic) 55 = 5 := congrArg (fun x : MI => x.1.2.2.1) (mq_55 em mi ic)
theorem hh55 (em mi ic : Nat) : mHH (DD em mi ic) 55 = [] := congrArg (fun x : MI => x.2.2.2.2) (mq_55 em mi ic)
theorem hp55_0 (em mi ic : Nat) : hp (DD em mi ic) 55 0 = 0 := congrArg (fun x : MI => hd0 (x.2.2.1 0).1) (mq_55 em mi ic)
theorem hp55_1 (em mi ic : Nat) : hp (DD em mi ic) 55 1 = 6 := congrArg (fun x : MI => hd0 (x.2.2.1 1).1) (mq_55 em mi ic)
theorem hp55_2 (em mi ic : Nat) : hp (DD em mi ic) 55 2 = 31 := congrArg (fun x : MI => hd0 (x.2.2.1 2).1) (mq_55 em mi ic)
theorem hp55_3 (em mi ic : Nat) : hp (DD em mi ic) 55 3 = 33 := congrArg (fun x : MI => hd0 (x.2.2.1 3).1) (mq_55 em mi ic)
theorem hp55_4 (em mi ic : Nat) : hp (DD em mi ic) 55 4 = 47 := congrArg (fun x : MI => hd0 (x.2.2.1 4).1) (mq_55 em mi ic)
theorem hp55_5 (em mi ic : Nat) : hp (DD em mi ic) 55 5 = 74 := congrArg (fun x : MI => hd0 (x.2.2.1 5).1) (mq_55 em mi ic)
theorem hp55_6 (em mi ic : Nat) : hp (DD em mi ic) 55 6 = 80 := congrArg (fun x : MI => hd0 (x.2.2.1 6).1) (mq_55 em mi ic)
theorem hp55_7 (em mi ic : Nat) : hp (DD em mi ic) 55 7 = 82 := congrArg (fun x : MI => hd0 (x.2.2.1 7).1) (mq_55 em mi ic)
theorem hp55_8 (em mi ic : Nat) : hp (DD em mi ic) 55 8 = 96 := congrArg (fun x : MI => hd0 (x.2.2.1 8).1) (mq_55 em mi ic)
theorem hp55_9 (em mi ic : Nat) : hp (DD em mi ic) 55 9 = 124 := congrArg (fun x : MI => hd0 (x.2.2.1 9).1) (mq_55 em mi ic)
theorem hp55_10 (em mi ic : Nat) : hp (DD em mi ic) 55 10 = 130 := congrArg (fun x : MI => hd0 (x.2.2.1 10).1) (mq_55 em mi ic)
theorem hp55_11 (em mi ic : Nat) : hp (DD em mi ic) 55 11 = 132 := congrArg (fun x : MI => hd0 (x.2.2.1 11).1) (mq_55 em mi ic)
theorem hp55_12 (em mi ic : Nat) : hp (DD em mi ic) 55 12 = 146 := congrArg (fun x : MI => hd0 (x.2.2.1 12).1) (mq_55 em mi ic)
theorem hp55_13 (em mi ic : Nat) : hp (DD em mi ic) 55 13 = 173 := congrArg (fun x : MI => hd0 (x.2.2.1 13).1) (mq_55 em mi ic)
theorem hp55_14 (em mi ic : Nat) : hp (DD em mi ic) 55 14 = 179 := congrArg (fun x : MI => hd0 (x.2.2.1 14).1) (mq_55 em mi ic)
theorem hp55_15 (em mi ic : Nat) : hp (DD em mi ic) 55 15 = 181 := congrArg (fun x : MI => hd0 (x.2.2.1 15).1) (mq_55 em mi ic)
theorem hp55_16 (em mi ic : Nat) : hp (DD em mi ic) 55 16 = 198 := congrArg (fun x : MI => hd0 (x.2.2.1 16).1) (mq_55 em mi ic)
theorem hp55_17 (em mi ic : Nat) : hp (DD em mi ic) 55 17 = 225 := congrArg (fun x : MI => hd0 (x.2.2.1 17).1) (mq_55 em mi ic)
theorem hp55_18 (em mi ic : Nat) : hp (DD em mi ic) 55 18 = 231 := congrArg (fun x : MI => hd0 (x.2.2.1 18).1) (mq_55 em mi ic)
theorem mq_56 (em mi ic : Nat) : (DD em mi ic).1 56 = mt56 := rfl
theorem mb56 (em mi ic : Nat) : mBytes (DD em mi ic) 56 = cX14_digest := congrArg (fun x : MI => x.1.2.1) (mq_56 em mi ic)
theorem mo56 (em mi ic : Nat) : mOwn (DD em mi ic) 56 = "TwelvehundredModel" := congrArg (fun x : MI => x.1.1.cls) (mq_56 em mi ic)
theorem mn56 (em mi ic : Nat) : mName (DD em mi ic) 56 = yX14_digest := congrArg (fun x : MI => x.1.1) (mq_56 em mi ic)
theorem rt_56 (em mi ic : Nat) : mRet (DD em mi ic) 56 = some .long := congrArg (fun x : MI => x.1.2.2.2) (mq_56 em mi ic)
theorem ml_56 (em mi ic : Nat) : mMaxL (DD em mi ic) 56 = 3 := congrArg (fun x : MI => x.1.2.2.1) (mq_56 em mi ic)
theorem hh56 (em mi ic : Nat) : mHH (DD em mi ic) 56 = [] := congrArg (fun x : MI => x.2.2.2.2) (mq_56 em mi ic)
theorem hp56_0 (em mi ic : Nat) : hp (DD em mi ic) 56 0 = 0 := congrArg (fun x : MI => hd0 (x.2.2.1 0).1) (mq_56 em mi ic)
theorem hp56_1 (em mi ic : Nat) : hp (DD em mi ic) 56 1 = 14 := congrArg (fun x : MI => hd0 (x.2.2.1 1).1) (mq_56 em mi ic)
theorem hp56_2 (em mi ic : Nat) : hp (DD em mi ic) 56 2 = 36 := congrArg (fun x : MI => hd0 (x.2.2.1 2).1) (mq_56 em mi ic)
theorem hp56_3 (em mi ic : Nat) : hp (DD em mi ic) 56 3 = 38 := congrArg (fun x : MI => hd0 (x.2.2.1 3).1) (mq_56 em mi ic)
theorem hp56_4 (em mi ic : Nat) : hp (DD em mi ic) 56 4 = 51 := congrArg (fun x : MI => hd0 (x.2.2.1 4).1) (mq_56 em mi ic)
theorem hp56_5 (em mi ic : Nat) : hp (DD em mi ic) 56 5 = 73 := congrArg (fun x : MI => hd0 (x.2.2.1 5).1) (mq_56 em mi ic)
theorem hp56_6 (em mi ic : Nat) : hp (DD em mi ic) 56 6 = 79 := congrArg (fun x : MI => hd0 (x.2.2.1 6).1) (mq_56 em mi ic)
theorem hp56_7 (em mi ic : Nat) : hp (DD em mi ic) 56 7 = 81 := congrArg (fun x : MI => hd0 (x.2.2.1 7).1) (mq_56 em mi ic)
theorem hp56_8 (em mi ic : Nat) : hp (DD em mi ic) 56 8 = 94 := congrArg (fun x : MI => hd0 (x.2.2.1 8).1) (mq_56 em mi ic)
theorem hp56_9 (em mi ic : Nat) : hp (DD em mi ic) 56 9 = 117 := congrArg (fun x : MI => hd0 (x.2.2.1 9).1) (mq_56 em mi ic)
theorem hp56_10 (em mi ic : Nat) : hp (DD em mi ic) 56 10 = 123 := congrArg (fun x : MI => hd0 (x.2.2.1 10).1) (mq_56 em mi ic)
theorem hp56_11 (em mi ic : Nat) : hp (DD em mi ic) 56 11 = 125 := congrArg (fun x : MI => hd0 (x.2.2.1 11).1) (mq_56 em mi ic)
theorem hp56_12 (em mi ic : Nat) : hp (DD em mi ic) 56 12 = 138 := congrArg (fun x : MI => hd0 (x.2.2.1 12).1) (mq_56 em mi ic)
theorem hp56_13 (em mi ic : Nat) : hp (DD em mi ic) 56 13 = 160 := congrArg (fun x : MI => hd0 (x.2.2.1 13).1) (mq_56 em mi ic)
theorem hp56_14 (em mi ic : Nat) : hp (DD em mi ic) 56 14 = 166 := congrArg (fun x : MI => hd0 (x.2.2.1 14).1) (mq_56 em mi ic)
theorem hp56_15 (em mi ic : Nat) : hp (DD em mi ic) 56 15 = 174 := congrArg (fun x : MI => hd0 (x.2.2.1 15).1) (mq_56 em mi ic)
theorem hp56_16 (em mi ic : Nat) : hp (DD em mi ic) 56 16 = 212 := congrArg (fun x : MI => hd0 (x.2.2.1 16).1) (mq_56 em mi ic)
theorem hp56_17 (em mi ic : Nat) : hp (DD em mi ic) 56 17 = 261 := congrArg (fun x : MI => hd0 (x.2.2.1 17).1) (mq_56 em mi ic)
theorem hp56_18 (em mi ic : Nat) : hp (DD em mi ic) 56 18 = 262 := congrArg (fun x : MI => hd0 (x.2.2.1 18).1) (mq_56 em mi ic)
theorem mq_57 (em mi ic : Nat) : (DD em mi ic).1 57 = mt57 := rfl
theorem mb57 (em mi ic : Nat) : mBytes (DD em mi ic) 57 = cX9_init := congrArg (fun x : MI => x.1.2.1) (mq_57 em mi ic)
theorem mo57 (em mi ic : Nat) : mOwn (DD em mi ic) 57 = "Twelvehundred$River" := congrArg (fun x : MI => x.1.1.cls) (mq_57 em mi ic)
theorem mn57 (em mi ic : Nat) : mName (DD em mi ic) 57 = yX9_init := congrArg (fun x : MI => x.1.1) (mq_57 em mi ic)
theorem rt_57 (em mi ic : Nat) : mRet (DD em mi ic) 57 = none := congrArg (fun x : MI => x.1.2.2.2) (mq_57 em mi ic)
theorem ml_57 (em mi ic : Nat) : mMaxL (DD em mi ic) 57 = 1 := congrArg (fun x : MI => x.1.2.2.1) (mq_57 em mi ic)
theorem hh57 (em mi ic : Nat) : mHH (DD em mi ic) 57 = [] := congrArg (fun x : MI => x.2.2.2.2) (mq_57 em mi ic)
theorem hp57_0 (em mi ic : Nat) : hp (DD em mi ic) 57 0 = 0 := congrArg (fun x : MI => hd0 (x.2.2.1 0).1) (mq_57 em mi ic)
theorem mq_58 (em mi ic : Nat) : (DD em mi ic).1 58 = mt58 := rfl
theorem mb58 (em mi ic : Nat) : mBytes (DD em mi ic) 58 = cJx4a65c_init_da8c8 := congrArg (fun x : MI => x.1.2.1) (mq_58 em mi ic)
theorem mo58 (em mi ic : Nat) : mOwn (DD em mi ic) 58 = "java/util/ArrayList" := congrArg (fun x : MI => x.1.1.cls) (mq_58 em mi ic)
theorem mn58 (em mi ic : Nat) : mName (DD em mi ic) 58 = yJx4a65c_init_da8c8 := congrArg (fun x : MI => x.1.1) (mq_58 em mi ic)
theorem rt_58 (em mi ic : Nat) : mRet (DD em mi ic) 58 = none := congrArg (fun x : MI => x.1.2.2.2) (mq_58 em mi ic)
theorem ml_58 (em mi ic : Nat) : mMaxL (DD em mi ic) 58 = 1 := congrArg (fun x : MI => x.1.2.2.1) (mq_58 em mi ic)
theorem hh58 (em mi ic : Nat) : mHH (DD em mi ic) 58 = [] := congrArg (fun x : MI => x.2.2.2.2) (mq_58 em mi ic)
theorem hp58_0 (em mi ic : Nat) : hp (DD em mi ic) 58 0 = 0 := congrArg (fun x : MI => hd0 (x.2.2.1 0).1) (mq_58 em mi ic)
theorem mq_59 (em mi ic : Nat) : (DD em mi ic).1 59 = mt59 := rfl
theorem mb59 (em mi ic : Nat) : mBytes (DD em mi ic) 59 = cX7_init := congrArg (fun x : MI => x.1.2.1) (mq_59 em mi ic)
theorem mo59 (em mi ic : Nat) : mOwn (DD em mi ic) 59 = "Twelvehundred$Placing" := congrArg (fun x : MI => x.1.1.cls) (mq_59 em mi ic)
theorem mn59 (em mi ic : Nat) : mName (DD em mi ic) 59 = yX7_init := congrArg (fun x : MI => x.1.1) (mq_59 em mi ic)
theorem rt_59 (em mi ic : Nat) : mRet (DD em mi ic) 59 = none := congrArg (fun x : MI => x.1.2.2.2) (mq_59 em mi ic)
theorem ml_59 (em mi ic : Nat) : mMaxL (DD em mi ic) 59 = 3 := congrArg (fun x : MI => x.1.2.2.1) (mq_59 em mi ic)
theorem hh59 (em mi ic : Nat) : mHH (DD em mi ic) 59 = [] := congrArg (fun x : MI => x.2.2.2.2) (mq_59 em mi ic)
theorem hp59_0 (em mi ic : Nat) : hp (DD em mi ic) 59 0 = 0 := congrArg (fun x : MI => hd0 (x.2.2.1 0).1) (mq_59 em mi ic)
theorem mq_60 (em mi ic : Nat) : (DD em mi ic).1 60 = mt60 := rfl
theorem mb60 (em mi ic : Nat) : mBytes (DD em mi ic) 60 = cX8_init := congrArg (fun x : MI => x.1.2.1) (mq_60 em mi ic)
theorem mo60 (em mi ic : Nat) : mOwn (DD em mi ic) 60 = "Twelvehundred$Rescue" := congrArg (fun x : MI => x.1.1.cls) (mq_60 em mi ic)
theorem mn60 (em mi ic : Nat) : mName (DD em mi ic) 60 = yX8_init := congrArg (fun x : MI => x.1.1) (mq_60 em mi ic)
theorem rt_60 (em mi ic : Nat) : mRet (DD em mi ic) 60 = none := congrArg (fun x : MI => x.1.2.2.2) (mq_60 em mi ic)
theorem ml_60 (em mi ic : Nat) : mMaxL (DD em mi ic) 60 = 3 := congrArg (fun x : MI => x.1.2.2.1) (mq_60 em mi ic)
theorem hh60 (em mi ic : Nat) : mHH (DD em mi ic) 60 = [] := congrArg (fun x : MI => x.2.2.2.2) (mq_60 em mi ic)
theorem hp60_0 (em mi ic : Nat) : hp (DD em mi ic) 60 0 = 0 := congrArg (fun x : MI => hd0 (x.2.2.1 0).1) (mq_60 em mi ic)
theorem mq_61 (em mi ic : Nat) : (DD em mi ic).1 61 = mt61 := rfl
theorem mb61 (em mi ic : Nat) : mBytes (DD em mi ic) 61 = cX0_init := congrArg (fun x : MI => x.1.2.1) (mq_61 em mi ic)
theorem mo61 (em mi ic : Nat) : mOwn (DD em mi ic) 61 = "Twelvehundred$Asking" := congrArg (fun x : MI => x.1.1.cls) (mq_61 em mi ic)
theorem mn61 (em mi ic : Nat) : mName (DD em mi ic) 61 = yX0_init := congrArg (fun x : MI => x.1.1) (mq_61 em mi ic)
theorem rt_61 (em mi ic : Nat) : mRet (DD em mi ic) 61 = none := congrArg (fun x : MI => x.1.2.2.2) (mq_61 em mi ic)
theorem ml_61 (em mi ic : Nat) : mMaxL (DD em mi ic) 61 = 4 := congrArg (fun x : MI => x.1.2.2.1) (mq_61 em mi ic)
theorem hh61 (em mi ic : Nat) : mHH (DD em mi ic) 61 = [] := congrArg (fun x : MI => x.2.2.2.2) (mq_61 em mi ic)
theorem hp61_0 (em mi ic : Nat) : hp (DD em mi ic) 61 0 = 0 := congrArg (fun x : MI => hd0 (x.2.2.1 0).1) (mq_61 em mi ic)
theorem mq_62 (em mi ic : Nat) : (DD em mi ic).1 62 = mt62 := rfl
theorem mb62 (em mi ic : Nat) : mBytes (DD em mi ic) 62 = cX4_init := congrArg (fun x : MI => x.1.2.1) (mq_62 em mi ic)
theorem mo62 (em mi ic : Nat) : mOwn (DD em mi ic) 62 = "Twelvehundred$Larder" := congrArg (fun x : MI => x.1.1.cls) (mq_62 em mi ic)
theorem mn62 (em mi ic : Nat) : mName (DD em mi ic) 62 = yX4_init := congrArg (fun x : MI => x.1.1) (mq_62 em mi ic)
theorem rt_62 (em mi ic : Nat) : mRet (DD em mi ic) 62 = none := congrArg (fun x : MI => x.1.2.2.2) (mq_62 em mi ic)
theorem ml_62 (em mi ic : Nat) : mMaxL (DD em mi ic) 62 = 1 := congrArg (fun x : MI => x.1.2.2.1) (mq_62 em mi ic)
theorem hh62 (em mi ic : Nat) : mHH (DD em mi ic) 62 = [] := congrArg (fun x : MI => x.2.2.2.2) (mq_62 em mi ic)
theorem hp62_0 (em mi ic : Nat) : hp (DD em mi ic) 62 0 = 0 := congrArg (fun x : MI => hd0 (x.2.2.1 0).1) (mq_62 em mi ic)
theorem mq_63 (em mi ic : Nat) : (DD em mi ic).1 63 = mt63 := rfl
theorem mb63 (em mi ic : Nat) : mBytes (DD em mi ic) 63 = cX1_init := congrArg (fun x : MI => x.1.2.1) (mq_63 em mi ic)
theorem mo63 (em mi ic : Nat) : mOwn (DD em mi ic) 63 = "Twelvehundred$Bulletin" := congrArg (fun x : MI => x.1.1.cls) (mq_63 em mi ic)
theorem mn63 (em mi ic : Nat) : mName (DD em mi ic) 63 = yX1_init := congrArg (fun x : MI => x.1.1) (mq_63 em mi ic)
theorem rt_63 (em mi ic : Nat) : mRet (DD em mi ic) 63 = none := congrArg (fun x : MI => x.1.2.2.2) (mq_63 em mi ic)
theorem ml_63 (em mi ic : Nat) : mMaxL (DD em mi ic) 63 = 1 := congrArg (fun x : MI => x.1.2.2.1) (mq_63 em mi ic)
theorem hh63 (em mi ic : Nat) : mHH (DD em mi ic) 63 = [] := congrArg (fun x : MI => x.2.2.2.2) (mq_63 em mi ic)
theorem hp63_0 (em mi ic : Nat) : hp (DD em mi ic) 63 0 = 0 := congrArg (fun x : MI => hd0 (x.2.2.1 0).1) (mq_63 em mi ic)
theorem mq_64 (em mi ic : Nat) : (DD em mi ic).1 64 = mt64 := rfl
theorem mb64 (em mi ic : Nat) : mBytes (DD em mi ic) 64 = cX11_street := congrArg (fun x : MI => x.1.2.1) (mq_64 em mi ic)
theorem mo64 (em mi ic : Nat) : mOwn (DD em mi ic) 64 = "Twelvehundred" := congrArg (fun x : MI => x.1.1.cls) (mq_64 em mi ic)
theorem mn64 (em mi ic : Nat) : mName (DD em mi ic) 64 = yX11_street := congrArg (fun x : MI => x.1.1) (mq_64 em mi ic)
theorem rt_64 (em mi ic : Nat) : mRet (DD em mi ic) 64 = some .int := congrArg (fun x : MI => x.1.2.2.2) (mq_64 em mi ic)
theorem ml_64 (em mi ic : Nat) : mMaxL (DD em mi ic) 64 = 4 := congrArg (fun x : MI => x.1.2.2.1) (mq_64 em mi ic)
theorem hh64 (em mi ic : Nat) : mHH (DD em mi ic) 64 = [] := congrArg (fun x : MI => x.2.2.2.2) (mq_64 em mi ic)
theorem hp64_0 (em mi ic : Nat) : hp (DD em mi ic) 64 0 = 0 := congrArg (fun x : MI => hd0 (x.2.2.1 0).1) (mq_64 em mi ic)
theorem hp64_1 (em mi ic : Nat) : hp (DD em mi ic) 64 1 = 20 := congrArg (fun x : MI => hd0 (x.2.2.1 1).1) (mq_64 em mi ic)
theorem hp64_2 (em mi ic : Nat) : hp (DD em mi ic) 64 2 = 30 := congrArg (fun x : MI => hd0 (x.2.2.1 2).1) (mq_64 em mi ic)
theorem hp64_3 (em mi ic : Nat) : hp (DD em mi ic) 64 3 = 54 := congrArg (fun x : MI => hd0 (x.2.2.1 3).1) (mq_64 em mi ic)
theorem mq_65 (em mi ic : Nat) : (DD em mi ic).1 65 = mt65 := rfl
theorem mb65 (em mi ic : Nat) : mBytes (DD em mi ic) 65 = cX14_is := congrArg (fun x : MI => x.1.2.1) (mq_65 em mi ic)
theorem mo65 (em mi ic : Nat) : mOwn (DD em mi ic) 65 = "TwelvehundredModel" := congrArg (fun x : MI => x.1.1.cls) (mq_65 em mi ic)
theorem mn65 (em mi ic : Nat) : mName (DD em mi ic) 65 = yX14_is := congrArg (fun x : MI => x.1.1) (mq_65 em mi ic)
theorem rt_65 (em mi ic : Nat) : mRet (DD em mi ic) 65 = some .boolean := congrArg (fun x : MI => x.1.2.2.2) (mq_65 em mi ic)
theorem ml_65 (em mi ic : Nat) : mMaxL (DD em mi ic) 65 = 3 := congrArg (fun x : MI => x.1.2.2.1) (mq_65 em mi ic)
theorem hh65 (em mi ic : Nat) : mHH (DD em mi ic) 65 = [] := congrArg (fun x : MI => x.2.2.2.2) (mq_65 em mi ic)
theorem hp65_0 (em mi ic : Nat) : hp (DD em mi ic) 65 0 = 0 := congrArg (fun x : MI => hd0 (x.2.2.1 0).1) (mq_65 em mi ic)
theorem hp65_1 (em mi ic : Nat) : hp (DD em mi ic) 65 1 = 14 := congrArg (fun x : MI => hd0 (x.2.2.1 1).1) (mq_65 em mi ic)
theorem hp65_2 (em mi ic : Nat) : hp (DD em mi ic) 65 2 = 15 := congrArg (fun x : MI => hd0 (x.2.2.1 2).1) (mq_65 em mi ic)
theorem mq_66 (em mi ic : Nat) : (DD em mi ic).1 66 = mt66 := rfl
theorem mb66 (em mi ic : Nat) : mBytes (DD em mi ic) 66 = cX14_refuse := congrArg (fun x : MI => x.1.2.1) (mq_66 em mi ic)
theorem mo66 (em mi ic : Nat) : mOwn (DD em mi ic) 66 = "TwelvehundredModel" := congrArg (fun x : MI => x.1.1.cls) (mq_66 em mi ic)
theorem mn66 (em mi ic : Nat) : mName (DD em mi ic) 66 = yX14_refuse := congrArg (fun x : MI => x.1.1) (mq_66 em mi ic)
theorem rt_66 (em mi ic : Nat) : mRet (DD em mi ic) 66 = some .int := congrArg (fun x : MI => x.1.2.2.2) (mq_66 em mi ic)
theorem ml_66 (em mi ic : Nat) : mMaxL (DD em mi ic) 66 = 2 := congrArg (fun x : MI => x.1.2.2.1) (mq_66 em mi ic)
theorem hh66 (em mi ic : Nat) : mHH (DD em mi ic) 66 = [] := congrArg (fun x : MI => x.2.2.2.2) (mq_66 em mi ic)
theorem hp66_0 (em mi ic : Nat) : hp (DD em mi ic) 66 0 = 0 := congrArg (fun x : MI => hd0 (x.2.2.1 0).1) (mq_66 em mi ic)
theorem mq_67 (em mi ic : Nat) : (DD em mi ic).1 67 = mt67 := rfl
theorem mb67 (em mi ic : Nat) : mBytes (DD em mi ic) 67 = cJx4a65c_size_8abf5 := congrArg (fun x : MI => x.1.2.1) (mq_67 em mi ic)
theorem mo67 (em mi ic : Nat) : mOwn (DD em mi ic) 67 = "java/util/ArrayList" := congrArg (fun x : MI => x.1.1.cls) (mq_67 em mi ic)
theorem mn67 (em mi ic : Nat) : mName (DD em mi ic) 67 = yJx4a65c_size_8abf5 := congrArg (fun x : MI => x.1.1) (mq_67 em mi ic)
theorem rt_67 (em mi ic : Nat) : mRet (DD em mi ic) 67 = some .int := congrArg (fun x : MI => x.1.2.2.2) (mq_67 em mi ic)
theorem ml_67 (em mi ic : Nat) : mMaxL (DD em mi ic) 67 = 1 := congrArg (fun x : MI => x.1.2.2.1) (mq_67 em mi ic)
theorem hh67 (em mi ic : Nat) : mHH (DD em mi ic) 67 = [] := congrArg (fun x : MI => x.2.2.2.2) (mq_67 em mi ic)
theorem hp67_0 (em mi ic : Nat) : hp (DD em mi ic) 67 0 = 0 := congrArg (fun x : MI => hd0 (x.2.2.1 0).1) (mq_67 em mi ic)
theorem mq_68 (em mi ic : Nat) : (DD em mi ic).1 68 = mt68 := rfl
theorem mb68 (em mi ic : Nat) : mBytes (DD em mi ic) 68 = cJx4a65c_add_9ea2d := congrArg (fun x : MI => x.1.2.1) (mq_68 em mi ic)
theorem mo68 (em mi ic : Nat) : mOwn (DD em mi ic) 68 = "java/util/ArrayList" := congrArg (fun x : MI => x.1.1.cls) (mq_68 em mi ic)
theorem mn68 (em mi ic : Nat) : mName (DD em mi ic) 68 = yJx4a65c_add_9ea2d := congrArg (fun x : MI => x.1.1) (mq_68 em mi ic)
theorem rt_68 (em mi ic : Nat) : mRet (DD em mi ic) 68 = some .boolean := congrArg (fun x : MI => x.1.2.2.2) (mq_68 em mi ic)
theorem ml_68 (em mi ic : Nat) : mMaxL (DD em mi ic) 68 = 2 := congrArg (fun x : MI => x.1.2.2.1) (mq_68 em mi ic)
theorem hh68 (em mi ic : Nat) : mHH (DD em mi ic) 68 = [] := congrArg (fun x : MI => x.2.2.2.2) (mq_68 em mi ic)
theorem hp68_0 (em mi ic : Nat) : hp (DD em mi ic) 68 0 = 0 := congrArg (fun x : MI => hd0 (x.2.2.1 0).1) (mq_68 em mi ic)
theorem mq_69 (em mi ic : Nat) : (DD em mi ic).1 69 = mt69 := rfl
theorem mb69 (em mi ic : Nat) : mBytes (DD em mi ic) 69 = cX11_hall := congrArg (fun x : MI => x.1.2.1) (mq_69 em mi ic)
theorem mo69 (em mi ic : Nat) : mOwn (DD em mi ic) 69 = "Twelvehundred" := congrArg (fun x : MI => x.1.1.cls) (mq_69 em mi ic)
theorem mn69 (em mi ic : Nat) : mName (DD em mi ic) 69 = yX11_hall := congrArg (fun x : MI => x.1.1) (mq_69 em mi ic)
theorem rt_69 (em mi ic : Nat) : mRet (DD em mi ic) 69 = some .int := congrArg (fun x : MI => x.1.2.2.2) (mq_69 em mi ic)
theorem ml_69 (em mi ic : Nat) : mMaxL (DD em mi ic) 69 = 4 := congrArg (fun x : MI => x.1.2.2.1) (mq_69 em mi ic)
theorem hh69 (em mi ic : Nat) : mHH (DD em mi ic) 69 = [] := congrArg (fun x : MI => x.2.2.2.2) (mq_69 em mi ic)
theorem hp69_0 (em mi ic : Nat) : hp (DD em mi ic) 69 0 = 0 := congrArg (fun x : MI => hd0 (x.2.2.1 0).1) (mq_69 em mi ic)
theorem hp69_1 (em mi ic : Nat) : hp (DD em mi ic) 69 1 = 19 := congrArg (fun x : MI => hd0 (x.2.2.1 1).1) (mq_69 em mi ic)
theorem hp69_2 (em mi ic : Nat) : hp (DD em mi ic) 69 2 = 29 := congrArg (fun x : MI => hd0 (x.2.2.1 2).1) (mq_69 em mi ic)
theorem hp69_3 (em mi ic : Nat) : hp (DD em mi ic) 69 3 = 52 := congrArg (fun x : MI => hd0 (x.2.2.1 3).1) (mq_69 em mi ic)
theorem mq_70 (em mi ic : Nat) : (DD em mi ic).1 70 = mt70 := rfl
theorem mb70 (em mi ic : Nat) : mBytes (DD em mi ic) 70 = cX11_rooms := congrArg (fun x : MI => x.1.2.1) (mq_70 em mi ic)
theorem mo70 (em mi ic : Nat) : mOwn (DD em mi ic) 70 = "Twelvehundred" := congrArg (fun x : MI => x.1.1.cls) (mq_70 em mi ic)
theorem mn70 (em mi ic : Nat) : mName (DD em mi ic) 70 = yX11_rooms := congrArg (fun x : MI => x.1.1) (mq_70 em mi ic)
theorem rt_70 (em mi ic : Nat) : mRet (DD em mi ic) 70 = some .int := congrArg (fun x : MI => x.1.2.2.2) (mq_70 em mi ic)
theorem ml_70 (em mi ic : Nat) : mMaxL (DD em mi ic) 70 = 5 := congrArg (fun x : MI => x.1.2.2.1) (mq_70 em mi ic)
theorem hh70 (em mi ic : Nat) : mHH (DD em mi ic) 70 = [] := congrArg (fun x : MI => x.2.2.2.2) (mq_70 em mi ic)
theorem hp70_0 (em mi ic : Nat) : hp (DD em mi ic) 70 0 = 0 := congrArg (fun x : MI => hd0 (x.2.2.1 0).1) (mq_70 em mi ic)
theorem hp70_1 (em mi ic : Nat) : hp (DD em mi ic) 70 1 = 15 := congrArg (fun x : MI => hd0 (x.2.2.1 1).1) (mq_70 em mi ic)
theorem hp70_2 (em mi ic : Nat) : hp (DD em mi ic) 70 2 = 25 := congrArg (fun x : MI => hd0 (x.2.2.1 2).1) (mq_70 em mi ic)
theorem hp70_3 (em mi ic : Nat) : hp (DD em mi ic) 70 3 = 44 := congrArg (fun x : MI => hd0 (x.2.2.1 3).1) (mq_70 em mi ic)
theorem mq_71 (em mi ic : Nat) : (DD em mi ic).1 71 = mt71 := rfl
theorem mb71 (em mi ic : Nat) : mBytes (DD em mi ic) 71 = cX14_isHall := congrArg (fun x : MI => x.1.2.1) (mq_71 em mi ic)
theorem mo71 (em mi ic : Nat) : mOwn (DD em mi ic) 71 = "TwelvehundredModel" := congrArg (fun x : MI => x.1.1.cls) (mq_71 em mi ic)
theorem mn71 (em mi ic : Nat) : mName (DD em mi ic) 71 = yX14_isHall := congrArg (fun x : MI => x.1.1) (mq_71 em mi ic)
theorem rt_71 (em mi ic : Nat) : mRet (DD em mi ic) 71 = some .boolean := congrArg (fun x : MI => x.1.2.2.2) (mq_71 em mi ic)
theorem ml_71 (em mi ic : Nat) : mMaxL (DD em mi ic) 71 = 2 := congrArg (fun x : MI => x.1.2.2.1) (mq_71 em mi ic)
theorem hh71 (em mi ic : Nat) : mHH (DD em mi ic) 71 = [] := congrArg (fun x : MI => x.2.2.2.2) (mq_71 em mi ic)
theorem hp71_0 (em mi ic : Nat) : hp (DD em mi ic) 71 0 = 0 := congrArg (fun x : MI => hd0 (x.2.2.1 0).1) (mq_71 em mi ic)
theorem mq_72 (em mi ic : Nat) : (DD em mi ic).1 72 = mt72 := rfl
theorem mb72 (em mi ic : Nat) : mBytes (DD em mi ic) 72 = cJx4a65c_get_915e3 := congrArg (fun x : MI => x.1.2.1) (mq_72 em mi ic)
theorem mo72 (em mi ic : Nat) : mOwn (DD em mi ic) 72 = "java/util/ArrayList" := congrArg (fun x : MI => x.1.1.cls) (mq_72 em mi ic)
theorem mn72 (em mi ic : Nat) : mName (DD em mi ic) 72 = yJx4a65c_get_915e3 := congrArg (fun x : MI => x.1.1) (mq_72 em mi ic)
theorem rt_72 (em mi ic : Nat) : mRet (DD em mi ic) 72 = some (.object "java/lang/Object") := congrArg (fun x : MI => x.1.2.2.2) (mq_72 em mi ic)
theorem ml_72 (em mi ic : Nat) : mMaxL (DD em mi ic) 72 = 2 := congrArg (fun x : MI => x.1.2.2.1) (mq_72 em mi ic)
theorem hh72 (em mi ic : Nat) : mHH (DD em mi ic) 72 = [] := congrArg (fun x : MI => x.2.2.2.2) (mq_72 em mi ic)
theorem hp72_0 (em mi ic : Nat) : hp (DD em mi ic) 72 0 = 0 := congrArg (fun x : MI => hd0 (x.2.2.1 0).1) (mq_72 em mi ic)
theorem mq_73 (em mi ic : Nat) : (DD em mi ic).1 73 = mt73 := rfl
theorem mb73 (em mi ic : Nat) : mBytes (DD em mi ic) 73 = cX11_household := congrArg (fun x : MI => x.1.2.1) (mq_73 em mi ic)
theorem mo73 (em mi ic : Nat) : mOwn (DD em mi ic) 73 = "Twelvehundred" := congrArg (fun x : MI => x.1.1.cls) (mq_73 em mi ic)
theorem mn73 (em mi ic : Nat) : mName (DD em mi ic) 73 = yX11_household := congrArg (fun x : MI => x.1.1) (mq_73 em mi ic)
theorem rt_73 (em mi ic : Nat) : mRet (DD em mi ic) 73 = some .int := congrArg (fun x : MI => x.1.2.2.2) (mq_73 em mi ic)
theorem ml_73 (em mi ic : Nat) : mMaxL (DD em mi ic) 73 = 6 := congrArg (fun x : MI => x.1.2.2.1) (mq_73 em mi ic)
theorem hh73 (em mi ic : Nat) : mHH (DD em mi ic) 73 = [] := congrArg (fun x : MI => x.2.2.2.2) (mq_73 em mi ic)
theorem hp73_0 (em mi ic : Nat) : hp (DD em mi ic) 73 0 = 0 := congrArg (fun x : MI => hd0 (x.2.2.1 0).1) (mq_73 em mi ic)
theorem hp73_1 (em mi ic : Nat) : hp (DD em mi ic) 73 1 = 15 := congrArg (fun x : MI => hd0 (x.2.2.1 1).1) (mq_73 em mi ic)
theorem hp73_2 (em mi ic : Nat) : hp (DD em mi ic) 73 2 = 25 := congrArg (fun x : MI => hd0 (x.2.2.1 2).1) (mq_73 em mi ic)
theorem hp73_3 (em mi ic : Nat) : hp (DD em mi ic) 73 3 = 45 := congrArg (fun x : MI => hd0 (x.2.2.1 3).1) (mq_73 em mi ic)
theorem hp73_4 (em mi ic : Nat) : hp (DD em mi ic) 73 4 = 71 := congrArg (fun x : MI => hd0 (x.2.2.1 4).1) (mq_73 em mi ic)
theorem hp73_5 (em mi ic : Nat) : hp (DD em mi ic) 73 5 = 116 := congrArg (fun x : MI => hd0 (x.2.2.1 5).1) (mq_73 em mi ic)
theorem mq_74 (em mi ic : Nat) : (DD em mi ic).1 74 = mt74 := rfl
theorem mb74 (em mi ic : Nat) : mBytes (DD em mi ic) 74 = cX14_isStreet := congrArg (fun x : MI => x.1.2.1) (mq_74 em mi ic)
theorem mo74 (em mi ic : Nat) : mOwn (DD em mi ic) 74 = "TwelvehundredModel" := congrArg (fun x : MI => x.1.1.cls) (mq_74 em mi ic)
theorem mn74 (em mi ic : Nat) : mName (DD em mi ic) 74 = yX14_isStreet := congrArg (fun x : MI => x.1.1) (mq_74 em mi ic)
theorem rt_74 (em mi ic : Nat) : mRet (DD em mi ic) 74 = some .boolean := congrArg (fun x : MI => x.1.2.2.2) (mq_74 em mi ic)
theorem ml_74 (em mi ic : Nat) : mMaxL (DD em mi ic) 74 = 2 := congrArg (fun x : MI => x.1.2.2.1) (mq_74 em mi ic)
theorem hh74 (em mi ic : Nat) : mHH (DD em mi ic) 74 = [] := congrArg (fun x : MI => x.2.2.2.2) (mq_74 em mi ic)
theorem hp74_0 (em mi ic : Nat) : hp (DD em mi ic) 74 0 = 0 := congrArg (fun x : MI => hd0 (x.2.2.1 0).1) (mq_74 em mi ic)
theorem mq_75 (em mi ic : Nat) : (DD em mi ic).1 75 = mt75 := rfl
theorem mb75 (em mi ic : Nat) : mBytes (DD em mi ic) 75 = cX13_init := congrArg (fun x : MI => x.1.2.1) (mq_75 em mi ic)
theorem mo75 (em mi ic : Nat) : mOwn (DD em mi ic) 75 = "TwelvehundredModel$Household" := congrArg (fun x : MI => x.1.1.cls) (mq_75 em mi ic)
theorem mn75 (em mi ic : Nat) : mName (DD em mi ic) 75 = yX13_init := congrArg (fun x : MI => x.1.1) (mq_75 em mi ic)
theorem rt_75 (em mi ic : Nat) : mRet (DD em mi ic) 75 = none := congrArg (fun x : MI => x.1.2.2.2) (mq_75 em mi ic)
theorem ml_75 (em mi ic : Nat) : mMaxL (DD em mi ic) 75 = 1 := congrArg (fun x : MI => x.1.2.2.1) (mq_75 em mi ic)
theorem hh75 (em mi ic : Nat) : mHH (DD em mi ic) 75 = [] := congrArg (fun x : MI => x.2.2.2.2) (mq_75 em mi ic)
theorem hp75_0 (em mi ic : Nat) : hp (DD em mi ic) 75 0 = 0 := congrArg (fun x : MI => hd0 (x.2.2.1 0).1) (mq_75 em mi ic)
theorem mq_76 (em mi ic : Nat) : (DD em mi ic).1 76 = mt76 := rfl
theorem mb76 (em mi ic : Nat) : mBytes (DD em mi ic) 76 = cX14_isFlooded := congrArg (fun x : MI => x.1.2.1) (mq_76 em mi ic)
theorem mo76 (em mi ic : Nat) : mOwn (DD em mi ic) 76 = "TwelvehundredModel" := congrArg (fun x : MI => x.1.1.cls) (mq_76 em mi ic)
theorem mn76 (em mi ic : Nat) : mName (DD em mi ic) 76 = yX14_isFlooded := congrArg (fun x : MI => x.1.1) (mq_76 em mi ic)
theorem rt_76 (em mi ic : Nat) : mRet (DD em mi ic) 76 = some .boolean := congrArg (fun x : MI => x.1.2.2.2) (mq_76 em mi ic)
theorem ml_76 (em mi ic : Nat) : mMaxL (DD em mi ic) 76 = 2 := congrArg (fun x : MI => x.1.2.2.1) (mq_76 em mi ic)
theorem hh76 (em mi ic : Nat) : mHH (DD em mi ic) 76 = [] := congrArg (fun x : MI => x.2.2.2.2) (mq_76 em mi ic)
theorem hp76_0 (em mi ic : Nat) : hp (DD em mi ic) 76 0 = 0 := congrArg (fun x : MI => hd0 (x.2.2.1 0).1) (mq_76 em mi ic)
theorem hp76_1 (em mi ic : Nat) : hp (DD em mi ic) 76 1 = 24 := congrArg (fun x : MI => hd0 (x.2.2.1 1).1) (mq_76 em mi ic)
theorem hp76_2 (em mi ic : Nat) : hp (DD em mi ic) 76 2 = 25 := congrArg (fun x : MI => hd0 (x.2.2.1 2).1) (mq_76 em mi ic)
theorem mq_77 (em mi ic : Nat) : (DD em mi ic).1 77 = mt77 := rfl
theorem mb77 (em mi ic : Nat) : mBytes (DD em mi ic) 77 = cX11_river := congrArg (fun x : MI => x.1.2.1) (mq_77 em mi ic)
theorem mo77 (em mi ic : Nat) : mOwn (DD em mi ic) 77 = "Twelvehundred" := congrArg (fun x : MI => x.1.1.cls) (mq_77 em mi ic)
theorem mn77 (em mi ic : Nat) : mName (DD em mi ic) 77 = yX11_river := congrArg (fun x : MI => x.1.1) (mq_77 em mi ic)
theorem rt_77 (em mi ic : Nat) : mRet (DD em mi ic) 77 = some .int := congrArg (fun x : MI => x.1.2.2.2) (mq_77 em mi ic)
theorem ml_77 (em mi ic : Nat) : mMaxL (DD em mi ic) 77 = 4 := congrArg (fun x : MI => x.1.2.2.1) (mq_77 em mi ic)
theorem hh77 (em mi ic : Nat) : mHH (DD em mi ic) 77 = [] := congrArg (fun x : MI => x.2.2.2.2) (mq_77 em mi ic)
theorem hp77_0 (em mi ic : Nat) : hp (DD em mi ic) 77 0 = 0 := congrArg (fun x : MI => hd0 (x.2.2.1 0).1) (mq_77 em mi ic)
theorem hp77_1 (em mi ic : Nat) : hp (DD em mi ic) 77 1 = 21 := congrArg (fun x : MI => hd0 (x.2.2.1 1).1) (mq_77 em mi ic)
theorem hp77_2 (em mi ic : Nat) : hp (DD em mi ic) 77 2 = 31 := congrArg (fun x : MI => hd0 (x.2.2.1 2).1) (mq_77 em mi ic)
theorem mq_78 (em mi ic : Nat) : (DD em mi ic).1 78 = mt78 := rfl
theorem mb78 (em mi ic : Nat) : mBytes (DD em mi ic) 78 = cX11_buses := congrArg (fun x : MI => x.1.2.1) (mq_78 em mi ic)
theorem mo78 (em mi ic : Nat) : mOwn (DD em mi ic) 78 = "Twelvehundred" := congrArg (fun x : MI => x.1.1.cls) (mq_78 em mi ic)
theorem mn78 (em mi ic : Nat) : mName (DD em mi ic) 78 = yX11_buses := congrArg (fun x : MI => x.1.1) (mq_78 em mi ic)
theorem rt_78 (em mi ic : Nat) : mRet (DD em mi ic) 78 = some .int := congrArg (fun x : MI => x.1.2.2.2) (mq_78 em mi ic)
theorem ml_78 (em mi ic : Nat) : mMaxL (DD em mi ic) 78 = 3 := congrArg (fun x : MI => x.1.2.2.1) (mq_78 em mi ic)
theorem hh78 (em mi ic : Nat) : mHH (DD em mi ic) 78 = [] := congrArg (fun x : MI => x.2.2.2.2) (mq_78 em mi ic)
theorem hp78_0 (em mi ic : Nat) : hp (DD em mi ic) 78 0 = 0 := congrArg (fun x : MI => hd0 (x.2.2.1 0).1) (mq_78 em mi ic)
theorem hp78_1 (em mi ic : Nat) : hp (DD em mi ic) 78 1 = 19 := congrArg (fun x : MI => hd0 (x.2.2.1 1).1) (mq_78 em mi ic)
theorem mq_79 (em mi ic : Nat) : (DD em mi ic).1 79 = mt79 := rfl
theorem mb79 (em mi ic : Nat) : mBytes (DD em mi ic) 79 = cX11_fetch := congrArg (fun x : MI => x.1.2.1) (mq_79 em mi ic)
theorem mo79 (em mi ic : Nat) : mOwn (DD em mi ic) 79 = "Twelvehundred" := congrArg (fun x : MI => x.1.1.cls) (mq_79 em mi ic)
theorem mn79 (em mi ic : Nat) : mName (DD em mi ic) 79 = yX11_fetch := congrArg (fun x : MI => x.1.1) (mq_79 em mi ic)
theorem rt_79 (em mi ic : Nat) : mRet (DD em mi ic) 79 = some .int := congrArg (fun x : MI => x.1.2.2.2) (mq_79 em mi ic)
theorem ml_79 (em mi ic : Nat) : mMaxL (DD em mi ic) 79 = 3 := congrArg (fun x : MI => x.1.2.2.1) (mq_79 em mi ic)
theorem hh79 (em mi ic : Nat) : mHH (DD em mi ic) 79 = [] := congrArg (fun x : MI => x.2.2.2.2) (mq_79 em mi ic)
theorem hp79_0 (em mi ic : Nat) : hp (DD em mi ic) 79 0 = 0 := congrArg (fun x : MI => hd0 (x.2.2.1 0).1) (mq_79 em mi ic)
theorem hp79_1 (em mi ic : Nat) : hp (DD em mi ic) 79 1 = 15 := congrArg (fun x : MI => hd0 (x.2.2.1 1).1) (mq_79 em mi ic)
theorem hp79_2 (em mi ic : Nat) : hp (DD em mi ic) 79 2 = 25 := congrArg (fun x : MI => hd0 (x.2.2.1 2).1) (mq_79 em mi ic)
theorem hp79_3 (em mi ic : Nat) : hp (DD em mi ic) 79 3 = 61 := congrArg (fun x : MI => hd0 (x.2.2.1 3).1) (mq_79 em mi ic)
theorem hp79_4 (em mi ic : Nat) : hp (DD em mi ic) 79 4 = 71 := congrArg (fun x : MI => hd0 (x.2.2.1 4).1) (mq_79 em mi ic)
theorem mq_80 (em mi ic : Nat) : (DD em mi ic).1 80 = mt80 := rfl
theorem mb80 (em mi ic : Nat) : mBytes (DD em mi ic) 80 = cX14_isHousehold := congrArg (fun x : MI => x.1.2.1) (mq_80 em mi ic)
theorem mo80 (em mi ic : Nat) : mOwn (DD em mi ic) 80 = "TwelvehundredModel" := congrArg (fun x : MI => x.1.1.cls) (mq_80 em mi ic)
theorem mn80 (em mi ic : Nat) : mName (DD em mi ic) 80 = yX14_isHousehold := congrArg (fun x : MI => x.1.1) (mq_80 em mi ic)
theorem rt_80 (em mi ic : Nat) : mRet (DD em mi ic) 80 = some .boolean := congrArg (fun x : MI => x.1.2.2.2) (mq_80 em mi ic)
theorem ml_80 (em mi ic : Nat) : mMaxL (DD em mi ic) 80 = 2 := congrArg (fun x : MI => x.1.2.2.1) (mq_80 em mi ic)
theorem hh80 (em mi ic : Nat) : mHH (DD em mi ic) 80 = [] := congrArg (fun x : MI => x.2.2.2.2) (mq_80 em mi ic)
theorem hp80_0 (em mi ic : Nat) : hp (DD em mi ic) 80 0 = 0 := congrArg (fun x : MI => hd0 (x.2.2.1 0).1) (mq_80 em mi ic)
theorem mq_81 (em mi ic : Nat) : (DD em mi ic).1 81 = mt81 := rfl
theorem mb81 (em mi ic : Nat) : mBytes (DD em mi ic) 81 = cX11_pass := congrArg (fun x : MI => x.1.2.1) (mq_81 em mi ic)
theorem mo81 (em mi ic : Nat) : mOwn (DD em mi ic) 81 = "Twelvehundred" := congrArg (fun x : MI => x.1.1.cls) (mq_81 em mi ic)
theorem mn81 (em mi ic : Nat) : mName (DD em mi ic) 81 = yX11_pass := congrArg (fun x : MI => x.1.1) (mq_81 em mi ic)
theorem rt_81 (em mi ic : Nat) : mRet (DD em mi ic) 81 = some .int := congrArg (fun x : MI => x.1.2.2.2) (mq_81 em mi ic)
theorem ml_81 (em mi ic : Nat) : mMaxL (DD em mi ic) 81 = 4 := congrArg (fun x : MI => x.1.2.2.1) (mq_81 em mi ic)
theorem hh81 (em mi ic : Nat) : mHH (DD em mi ic) 81 = [] := congrArg (fun x : MI => x.2.2.2.2) (mq_81 em mi ic)
theorem hp81_0 (em mi ic : Nat) : hp (DD em mi ic) 81 0 = 0 := congrArg (fun x : MI => hd0 (x.2.2.1 0).1) (mq_81 em mi ic)
theorem hp81_1 (em mi ic : Nat) : hp (DD em mi ic) 81 1 = 20 := congrArg (fun x : MI => hd0 (x.2.2.1 1).1) (mq_81 em mi ic)
theorem hp81_2 (em mi ic : Nat) : hp (DD em mi ic) 81 2 = 45 := congrArg (fun x : MI => hd0 (x.2.2.1 2).1) (mq_81 em mi ic)
theorem hp81_3 (em mi ic : Nat) : hp (DD em mi ic) 81 3 = 49 := congrArg (fun x : MI => hd0 (x.2.2.1 3).1) (mq_81 em mi ic)
theorem hp81_4 (em mi ic : Nat) : hp (DD em mi ic) 81 4 = 99 := congrArg (fun x : MI => hd0 (x.2.2.1 4).1) (mq_81 em mi ic)
theorem mq_82 (em mi ic : Nat) : (DD em mi ic).1 82 = mt82 := rfl
theorem mb82 (em mi ic : Nat) : mBytes (DD em mi ic) 82 = cX14_hourGoes := congrArg (fun x : MI => x.1.2.1) (mq_82 em mi ic)
theorem mo82 (em mi ic : Nat) : mOwn (DD em mi ic) 82 = "TwelvehundredModel" := congrArg (fun x : MI => x.1.1.cls) (mq_82 em mi ic)
theorem mn82 (em mi ic : Nat) : mName (DD em mi ic) 82 = yX14_hourGoes := congrArg (fun x : MI => x.1.1) (mq_82 em mi ic)
theorem rt_82 (em mi ic : Nat) : mRet (DD em mi ic) 82 = some .int := congrArg (fun x : MI => x.1.2.2.2) (mq_82 em mi ic)
theorem ml_82 (em mi ic : Nat) : mMaxL (DD em mi ic) 82 = 4 := congrArg (fun x : MI => x.1.2.2.1) (mq_82 em mi ic)
theorem hh82 (em mi ic : Nat) : mHH (DD em mi ic) 82 = [] := congrArg (fun x : MI => x.2.2.2.2) (mq_82 em mi ic)
theorem hp82_0 (em mi ic : Nat) : hp (DD em mi ic) 82 0 = 0 := congrArg (fun x : MI => hd0 (x.2.2.1 0).1) (mq_82 em mi ic)
theorem hp82_1 (em mi ic : Nat) : hp (DD em mi ic) 82 1 = 47 := congrArg (fun x : MI => hd0 (x.2.2.1 1).1) (mq_82 em mi ic)
theorem hp82_2 (em mi ic : Nat) : hp (DD em mi ic) 82 2 = 87 := congrArg (fun x : MI => hd0 (x.2.2.1 2).1) (mq_82 em mi ic)
theorem hp82_3 (em mi ic : Nat) : hp (DD em mi ic) 82 3 = 98 := congrArg (fun x : MI => hd0 (x.2.2.1 3).1) (mq_82 em mi ic)
theorem hp82_4 (em mi ic : Nat) : hp (DD em mi ic) 82 4 = 106 := congrArg (fun x : MI => hd0 (x.2.2.1 4).1) (mq_82 em mi ic)
theorem hp82_5 (em mi ic : Nat) : hp (DD em mi ic) 82 5 = 138 := congrArg (fun x : MI => hd0 (x.2.2.1 5).1) (mq_82 em mi ic)
theorem hp82_6 (em mi ic : Nat) : hp (DD em mi ic) 82 6 = 157 := congrArg (fun x : MI => hd0 (x.2.2.1 6).1) (mq_82 em mi ic)
theorem mq_83 (em mi ic : Nat) : (DD em mi ic).1 83 = mt83 := rfl
theorem mb83 (em mi ic : Nat) : mBytes (DD em mi ic) 83 = cX11_lot := congrArg (fun x : MI => x.1.2.1) (mq_83 em mi ic)
theorem mo83 (em mi ic : Nat) : mOwn (DD em mi ic) 83 = "Twelvehundred" := congrArg (fun x : MI => x.1.1.cls) (mq_83 em mi ic)
theorem mn83 (em mi ic : Nat) : mName (DD em mi ic) 83 = yX11_lot := congrArg (fun x : MI => x.1.1) (mq_83 em mi ic)
theorem rt_83 (em mi ic : Nat) : mRet (DD em mi ic) 83 = some .int := congrArg (fun x : MI => x.1.2.2.2) (mq_83 em mi ic)
theorem ml_83 (em mi ic : Nat) : mMaxL (DD em mi ic) 83 = 4 := congrArg (fun x : MI => x.1.2.2.1) (mq_83 em mi ic)
theorem hh83 (em mi ic : Nat) : mHH (DD em mi ic) 83 = [] := congrArg (fun x : MI => x.2.2.2.2) (mq_83 em mi ic)
theorem hp83_0 (em mi ic : Nat) : hp (DD em mi ic) 83 0 = 0 := congrArg (fun x : MI => hd0 (x.2.2.1 0).1) (mq_83 em mi ic)
theorem hp83_1 (em mi ic : Nat) : hp (DD em mi ic) 83 1 = 20 := congrArg (fun x : MI => hd0 (x.2.2.1 1).1) (mq_83 em mi ic)
theorem hp83_2 (em mi ic : Nat) : hp (DD em mi ic) 83 2 = 30 := congrArg (fun x : MI => hd0 (x.2.2.1 2).1) (mq_83 em mi ic)
theorem hp83_3 (em mi ic : Nat) : hp (DD em mi ic) 83 3 = 57 := congrArg (fun x : MI => hd0 (x.2.2.1 3).1) (mq_83 em mi ic)
theorem mq_84 (em mi ic : Nat) : (DD em mi ic).1 84 = mt84 := rfl
theorem mb84 (em mi ic : Nat) : mBytes (DD em mi ic) 84 = cX11_give := congrArg (fun x : MI => x.1.2.1) (mq_84 em mi ic)
theorem mo84 (em mi ic : Nat) : mOwn (DD em mi ic) 84 = "Twelvehundred" := congrArg (fun x : MI => x.1.1.cls) (mq_84 em mi ic)
theorem mn84 (em mi ic : Nat) : mName (DD em mi ic) 84 = yX11_give := congrArg (fun x : MI => x.1.1) (mq_84 em mi ic)
theorem rt_84 (em mi ic : Nat) : mRet (DD em mi ic) 84 = some .int := congrArg (fun x : MI => x.1.2.2.2) (mq_84 em mi ic)
theorem ml_84 (em mi ic : Nat) : mMaxL (DD em mi ic) 84 = 2 := congrArg (fun x : MI => x.1.2.2.1) (mq_84 em mi ic)
theorem hh84 (em mi ic : Nat) : mHH (DD em mi ic) 84 = [] := congrArg (fun x : MI => x.2.2.2.2) (mq_84 em mi ic)
theorem hp84_0 (em mi ic : Nat) : hp (DD em mi ic) 84 0 = 0 := congrArg (fun x : MI => hd0 (x.2.2.1 0).1) (mq_84 em mi ic)
theorem hp84_1 (em mi ic : Nat) : hp (DD em mi ic) 84 1 = 20 := congrArg (fun x : MI => hd0 (x.2.2.1 1).1) (mq_84 em mi ic)
theorem mq_85 (em mi ic : Nat) : (DD em mi ic).1 85 = mt85 := rfl
theorem mb85 (em mi ic : Nat) : mBytes (DD em mi ic) 85 = cJx4a65c_iterator_32c93 := congrArg (fun x : MI => x.1.2.1) (mq_85 em mi ic)
theorem mo85 (em mi ic : Nat) : mOwn (DD em mi ic) 85 = "java/util/ArrayList" := congrArg (fun x : MI => x.1.1.cls) (mq_85 em mi ic)
theorem mn85 (em mi ic : Nat) : mName (DD em mi ic) 85 = yJx4a65c_iterator_32c93 := congrArg (fun x : MI => x.1.1) (mq_85 em mi ic)
theorem rt_85 (em mi ic : Nat) : mRet (DD em mi ic) 85 = some (.object "java/util/Iterator") := congrArg (fun x : MI => x.1.2.2.2) (mq_85 em mi ic)
theorem ml_85 (em mi ic : Nat) : mMaxL (DD em mi ic) 85 = 1 := congrArg (fun x : MI => x.1.2.2.1) (mq_85 em mi ic)
theorem hh85 (em mi ic : Nat) : mHH (DD em mi ic) 85 = [] := congrArg (fun x : MI => x.2.2.2.2) (mq_85 em mi ic)
theorem hp85_0 (em mi ic : Nat) : hp (DD em mi ic) 85 0 = 0 := congrArg (fun x : MI => hd0 (x.2.2.1 0).1) (mq_85 em mi ic)
theorem mq_86 (em mi ic : Nat) : (DD em mi ic).1 86 = mt86 := rfl
theorem mb86 (em mi ic : Nat) : mBytes (DD em mi ic) 86 = cJx35411_hasNext_aae02 := congrArg (fun x : MI => x.1.2.1) (mq_86 em mi ic)
theorem mo86 (em mi ic : Nat) : mOwn (DD em mi ic) 86 = "java/util/ArrayList$Itr" := congrArg (fun x : MI => x.1.1.cls) (mq_86 em mi ic)
theorem mn86 (em mi ic : Nat) : mName (DD em mi ic) 86 = yJx35411_hasNext_aae02 := congrArg (fun x : MI => x.1.1) (mq_86 em mi ic)
theorem rt_86 (em mi ic : Nat) : mRet (DD em mi ic) 86 = some .boolean := congrArg (fun x : MI => x.1.2.2.2) (mq_86 em mi ic)
theorem ml_86 (em mi ic : Nat) : mMaxL (DD em mi ic) 86 = 1 := congrArg (fun x : MI => x.1.2.2.1) (mq_86 em mi ic)
theorem hh86 (em mi ic : Nat) : mHH (DD em mi ic) 86 = [] := congrArg (fun x : MI => x.2.2.2.2) (mq_86 em mi ic)
theorem hp86_0 (em mi ic : Nat) : hp (DD em mi ic) 86 0 = 0 := congrArg (fun x : MI => hd0 (x.2.2.1 0).1) (mq_86 em mi ic)
theorem hp86_1 (em mi ic : Nat) : hp (DD em mi ic) 86 1 = 18 := congrArg (fun x : MI => hd0 (x.2.2.1 1).1) (mq_86 em mi ic)
theorem hp86_2 (em mi ic : Nat) : hp (DD em mi ic) 86 2 = 19 := congrArg (fun x : MI => hd0 (x.2.2.1 2).1) (mq_86 em mi ic)
theorem mq_87 (em mi ic : Nat) : (DD em mi ic).1 87 = mt87 := rfl
theorem mb87 (em mi ic : Nat) : mBytes (DD em mi ic) 87 = cJx35411_next_0502b := congrArg (fun x : MI => x.1.2.1) (mq_87 em mi ic)
theorem mo87 (em mi ic : Nat) : mOwn (DD em mi ic) 87 = "java/util/ArrayList$Itr" := congrArg (fun x : MI => x.1.1.cls) (mq_87 em mi ic)
theorem mn87 (em mi ic : Nat) : mName (DD em mi ic) 87 = yJx35411_next_0502b := congrArg (fun x : MI => x.1.1) (mq_87 em mi ic)
theorem rt_87 (em mi ic : Nat) : mRet (DD em mi ic) 87 = some (.object "java/lang/Object") := congrArg (fun x : MI => x.1.2.2.2) (mq_87 em mi ic)
theorem ml_87 (em mi ic : Nat) : mMaxL (DD em mi ic) 87 = 3 := congrArg (fun x : MI => x.1.2.2.1) (mq_87 em mi ic)
theorem hh87 (em mi ic : Nat) : mHH (DD em mi ic) 87 = [] := congrArg (fun x : MI => x.2.2.2.2) (mq_87 em mi ic)
theorem hp87_0 (em mi ic : Nat) : hp (DD em mi ic) 87 0 = 0 := congrArg (fun x : MI => hd0 (x.2.2.1 0).1) (mq_87 em mi ic)
theorem hp87_1 (em mi ic : Nat) : hp (DD em mi ic) 87 1 = 28 := congrArg (fun x : MI => hd0 (x.2.2.1 1).1) (mq_87 em mi ic)
theorem hp87_2 (em mi ic : Nat) : hp (DD em mi ic) 87 2 = 50 := congrArg (fun x : MI => hd0 (x.2.2.1 2).1) (mq_87 em mi ic)
theorem mq_88 (em mi ic : Nat) : (DD em mi ic).1 88 = mt88 := rfl
theorem mb88 (em mi ic : Nat) : mBytes (DD em mi ic) 88 = cJ9_min_7cf53 := congrArg (fun x : MI => x.1.2.1) (mq_88 em mi ic)
theorem mo88 (em mi ic : Nat) : mOwn (DD em mi ic) 88 = "java/lang/Math" := congrArg (fun x : MI => x.1.1.cls) (mq_88 em mi ic)
theorem mn88 (em mi ic : Nat) : mName (DD em mi ic) 88 = yJ9_min_7cf53 := congrArg (fun x : MI => x.1.1) (mq_88 em mi ic)
theorem rt_88 (em mi ic : Nat) : mRet (DD em mi ic) 88 = some .int := congrArg (fun x : MI => x.1.2.2.2) (mq_88 em mi ic)
theorem ml_88 (em mi ic : Nat) : mMaxL (DD em mi ic) 88 = 2 := congrArg (fun x : MI => x.1.2.2.1) (mq_88 em mi ic)
theorem hh88 (em mi ic : Nat) : mHH (DD em mi ic) 88 = [] := congrArg (fun x : MI => x.2.2.2.2) (mq_88 em mi ic)
theorem hp88_0 (em mi ic : Nat) : hp (DD em mi ic) 88 0 = 0 := congrArg (fun x : MI => hd0 (x.2.2.1 0).1) (mq_88 em mi ic)
theorem hp88_1 (em mi ic : Nat) : hp (DD em mi ic) 88 1 = 9 := congrArg (fun x : MI => hd0 (x.2.2.1 1).1) (mq_88 em mi ic)
theorem hp88_2 (em mi ic : Nat) : hp (DD em mi ic) 88 2 = 10 := congrArg (fun x : MI => hd0 (x.2.2.1 2).1) (mq_88 em mi ic)
theorem mq_89 (em mi ic : Nat) : (DD em mi ic).1 89 = mt89 := rfl
theorem mb89 (em mi ic : Nat) : mBytes (DD em mi ic) 89 = cX11_list := congrArg (fun x : MI => x.1.2.1) (mq_89 em mi ic)
theorem mo89 (em mi ic : Nat) : mOwn (DD em mi ic) 89 = "Twelvehundred" := congrArg (fun x : MI => x.1.1.cls) (mq_89 em mi ic)
theorem mn89 (em mi ic : Nat) : mName (DD em mi ic) 89 = yX11_list := congrArg (fun x : MI => x.1.1) (mq_89 em mi ic)
theorem rt_89 (em mi ic : Nat) : mRet (DD em mi ic) 89 = some .int := congrArg (fun x : MI => x.1.2.2.2) (mq_89 em mi ic)
theorem ml_89 (em mi ic : Nat) : mMaxL (DD em mi ic) 89 = 3 := congrArg (fun x : MI => x.1.2.2.1) (mq_89 em mi ic)
theorem hh89 (em mi ic : Nat) : mHH (DD em mi ic) 89 = [] := congrArg (fun x : MI => x.2.2.2.2) (mq_89 em mi ic)
theorem hp89_0 (em mi ic : Nat) : hp (DD em mi ic) 89 0 = 0 := congrArg (fun x : MI => hd0 (x.2.2.1 0).1) (mq_89 em mi ic)
theorem hp89_1 (em mi ic : Nat) : hp (DD em mi ic) 89 1 = 17 := congrArg (fun x : MI => hd0 (x.2.2.1 1).1) (mq_89 em mi ic)
theorem hp89_2 (em mi ic : Nat) : hp (DD em mi ic) 89 2 = 44 := congrArg (fun x : MI => hd0 (x.2.2.1 2).1) (mq_89 em mi ic)
theorem mq_90 (em mi ic : Nat) : (DD em mi ic).1 90 = mt90 := rfl
theorem mb90 (em mi ic : Nat) : mBytes (DD em mi ic) 90 = cX14_isName := congrArg (fun x : MI => x.1.2.1) (mq_90 em mi ic)
theorem mo90 (em mi ic : Nat) : mOwn (DD em mi ic) 90 = "TwelvehundredModel" := congrArg (fun x : MI => x.1.1.cls) (mq_90 em mi ic)
theorem mn90 (em mi ic : Nat) : mName (DD em mi ic) 90 = yX14_isName := congrArg (fun x : MI => x.1.1) (mq_90 em mi ic)
theorem rt_90 (em mi ic : Nat) : mRet (DD em mi ic) 90 = some .boolean := congrArg (fun x : MI => x.1.2.2.2) (mq_90 em mi ic)
theorem ml_90 (em mi ic : Nat) : mMaxL (DD em mi ic) 90 = 2 := congrArg (fun x : MI => x.1.2.2.1) (mq_90 em mi ic)
theorem hh90 (em mi ic : Nat) : mHH (DD em mi ic) 90 = [] := congrArg (fun x : MI => x.2.2.2.2) (mq_90 em mi ic)
theorem hp90_0 (em mi ic : Nat) : hp (DD em mi ic) 90 0 = 0 := congrArg (fun x : MI => hd0 (x.2.2.1 0).1) (mq_90 em mi ic)
theorem hp90_1 (em mi ic : Nat) : hp (DD em mi ic) 90 1 = 12 := congrArg (fun x : MI => hd0 (x.2.2.1 1).1) (mq_90 em mi ic)
theorem hp90_2 (em mi ic : Nat) : hp (DD em mi ic) 90 2 = 14 := congrArg (fun x : MI => hd0 (x.2.2.1 2).1) (mq_90 em mi ic)
theorem hp90_3 (em mi ic : Nat) : hp (DD em mi ic) 90 3 = 27 := congrArg (fun x : MI => hd0 (x.2.2.1 3).1) (mq_90 em mi ic)
theorem hp90_4 (em mi ic : Nat) : hp (DD em mi ic) 90 4 = 35 := congrArg (fun x : MI => hd0 (x.2.2.1 4).1) (mq_90 em mi ic)
theorem mq_91 (em mi ic : Nat) : (DD em mi ic).1 91 = mt91 := rfl
theorem mb91 (em mi ic : Nat) : mBytes (DD em mi ic) 91 = cJ6_valueOf_2dffe := congrArg (fun x : MI => x.1.2.1) (mq_91 em mi ic)
theorem mo91 (em mi ic : Nat) : mOwn (DD em mi ic) 91 = "java/lang/Integer" := congrArg (fun x : MI => x.1.1.cls) (mq_91 em mi ic)
theorem mn91 (em mi ic : Nat) : mName (DD em mi ic) 91 = yJ6_valueOf_2dffe := congrArg (fun x : MI => x.1.1) (mq_91 em mi ic)
theorem rt_91 (em mi ic : Nat) : mRet (DD em mi ic) 91 = some (.object "java/lang/Integer") := congrArg (fun x : MI => x.1.2.2.2) (mq_91 em mi ic)
theorem ml_91 (em mi ic : Nat) : mMaxL (DD em mi ic) 91 = 1 := congrArg (fun x : MI => x.1.2.2.1) (mq_91 em mi ic)
theorem hh91 (em mi ic : Nat) : mHH (DD em mi ic) 91 = [] := congrArg (fun x : MI => x.2.2.2.2) (mq_91 em mi ic)
theorem hp91_0 (em mi ic : Nat) : hp (DD em mi ic) 91 0 = 0 := congrArg (fun x : MI => hd0 (x.2.2.1 0).1) (mq_91 em mi ic)
theorem hp91_1 (em mi ic : Nat) : hp (DD em mi ic) 91 1 = 23 := congrArg (fun x : MI => hd0 (x.2.2.1 1).1) (mq_91 em mi ic)
theorem mq_92 (em mi ic : Nat) : (DD em mi ic).1 92 = mt92 := rfl
theorem mb92 (em mi ic : Nat) : mBytes (DD em mi ic) 92 = cX11_strike := congrArg (fun x : MI => x.1.2.1) (mq_92 em mi ic)
theorem mo92 (em mi ic : Nat) : mOwn (DD em mi ic) 92 = "Twelvehundred" := congrArg (fun x : MI => x.1.1.cls) (mq_92 em mi ic)
theorem mn92 (em mi ic : Nat) : mName (DD em mi ic) 92 = yX11_strike := congrArg (fun x : MI => x.1.1) (mq_92 em mi ic)
theorem rt_92 (em mi ic : Nat) : mRet (DD em mi ic) 92 = some .int := congrArg (fun x : MI => x.1.2.2.2) (mq_92 em mi ic)
theorem ml_92 (em mi ic : Nat) : mMaxL (DD em mi ic) 92 = 3 := congrArg (fun x : MI => x.1.2.2.1) (mq_92 em mi ic)
theorem hh92 (em mi ic : Nat) : mHH (DD em mi ic) 92 = [] := congrArg (fun x : MI => x.2.2.2.2) (mq_92 em mi ic)
theorem hp92_0 (em mi ic : Nat) : hp (DD em mi ic) 92 0 = 0 := congrArg (fun x : MI => hd0 (x.2.2.1 0).1) (mq_92 em mi ic)
theorem hp92_1 (em mi ic : Nat) : hp (DD em mi ic) 92 1 = 18 := congrArg (fun x : MI => hd0 (x.2.2.1 1).1) (mq_92 em mi ic)
theorem hp92_2 (em mi ic : Nat) : hp (DD em mi ic) 92 2 = 28 := congrArg (fun x : MI => hd0 (x.2.2.1 2).1) (mq_92 em mi ic)
theorem mq_93 (em mi ic : Nat) : (DD em mi ic).1 93 = mt93 := rfl
theorem mb93 (em mi ic : Nat) : mBytes (DD em mi ic) 93 = cX14_persons := congrArg (fun x : MI => x.1.2.1) (mq_93 em mi ic)
theorem mo93 (em mi ic : Nat) : mOwn (DD em mi ic) 93 = "TwelvehundredModel" := congrArg (fun x : MI => x.1.1.cls) (mq_93 em mi ic)
theorem mn93 (em mi ic : Nat) : mName (DD em mi ic) 93 = yX14_persons := congrArg (fun x : MI => x.1.1) (mq_93 em mi ic)
theorem rt_93 (em mi ic : Nat) : mRet (DD em mi ic) 93 = some .int := congrArg (fun x : MI => x.1.2.2.2) (mq_93 em mi ic)
theorem ml_93 (em mi ic : Nat) : mMaxL (DD em mi ic) 93 = 7 := congrArg (fun x : MI => x.1.2.2.1) (mq_93 em mi ic)
theorem hh93 (em mi ic : Nat) : mHH (DD em mi ic) 93 = [] := congrArg (fun x : MI => x.2.2.2.2) (mq_93 em mi ic)
theorem hp93_0 (em mi ic : Nat) : hp (DD em mi ic) 93 0 = 0 := congrArg (fun x : MI => hd0 (x.2.2.1 0).1) (mq_93 em mi ic)
theorem hp93_1 (em mi ic : Nat) : hp (DD em mi ic) 93 1 = 21 := congrArg (fun x : MI => hd0 (x.2.2.1 1).1) (mq_93 em mi ic)
theorem hp93_2 (em mi ic : Nat) : hp (DD em mi ic) 93 2 = 33 := congrArg (fun x : MI => hd0 (x.2.2.1 2).1) (mq_93 em mi ic)
theorem hp93_3 (em mi ic : Nat) : hp (DD em mi ic) 93 3 = 45 := congrArg (fun x : MI => hd0 (x.2.2.1 3).1) (mq_93 em mi ic)
theorem hp93_4 (em mi ic : Nat) : hp (DD em mi ic) 93 4 = 60 := congrArg (fun x : MI => hd0 (x.2.2.1 4).1) (mq_93 em mi ic)
theorem hp93_5 (em mi ic : Nat) : hp (DD em mi ic) 93 5 = 133 := congrArg (fun x : MI => hd0 (x.2.2.1 5).1) (mq_93 em mi ic)
theorem hp93_6 (em mi ic : Nat) : hp (DD em mi ic) 93 6 = 139 := congrArg (fun x : MI => hd0 (x.2.2.1 6).1) (mq_93 em mi ic)
theorem hp93_7 (em mi ic : Nat) : hp (DD em mi ic) 93 7 = 145 := congrArg (fun x : MI => hd0 (x.2.2.1 7).1) (mq_93 em mi ic)
theorem hp93_8 (em mi ic : Nat) : hp (DD em mi ic) 93 8 = 148 := congrArg (fun x : MI => hd0 (x.2.2.1 8).1) (mq_93 em mi ic)
theorem hp93_9 (em mi ic : Nat) : hp (DD em mi ic) 93 9 = 160 := congrArg (fun x : MI => hd0 (x.2.2.1 9).1) (mq_93 em mi ic)
theorem mq_94 (em mi ic : Nat) : (DD em mi ic).1 94 = mt94 := rfl
theorem mb94 (em mi ic : Nat) : mBytes (DD em mi ic) 94 = cX11_ofStreet := congrArg (fun x : MI => x.1.2.1) (mq_94 em mi ic)
theorem mo94 (em mi ic : Nat) : mOwn (DD em mi ic) 94 = "Twelvehundred" := congrArg (fun x : MI => x.1.1.cls) (mq_94 em mi ic)
theorem mn94 (em mi ic : Nat) : mName (DD em mi ic) 94 = yX11_ofStreet := congrArg (fun x : MI => x.1.1) (mq_94 em mi ic)
theorem rt_94 (em mi ic : Nat) : mRet (DD em mi ic) 94 = some .int := congrArg (fun x : MI => x.1.2.2.2) (mq_94 em mi ic)
theorem ml_94 (em mi ic : Nat) : mMaxL (DD em mi ic) 94 = 4 := congrArg (fun x : MI => x.1.2.2.1) (mq_94 em mi ic)
theorem hh94 (em mi ic : Nat) : mHH (DD em mi ic) 94 = [] := congrArg (fun x : MI => x.2.2.2.2) (mq_94 em mi ic)
theorem hp94_0 (em mi ic : Nat) : hp (DD em mi ic) 94 0 = 0 := congrArg (fun x : MI => hd0 (x.2.2.1 0).1) (mq_94 em mi ic)
theorem hp94_1 (em mi ic : Nat) : hp (DD em mi ic) 94 1 = 15 := congrArg (fun x : MI => hd0 (x.2.2.1 1).1) (mq_94 em mi ic)
theorem hp94_2 (em mi ic : Nat) : hp (DD em mi ic) 94 2 = 25 := congrArg (fun x : MI => hd0 (x.2.2.1 2).1) (mq_94 em mi ic)
theorem mq_95 (em mi ic : Nat) : (DD em mi ic).1 95 = mt95 := rfl
theorem mb95 (em mi ic : Nat) : mBytes (DD em mi ic) 95 = cX14_ofStreetNow := congrArg (fun x : MI => x.1.2.1) (mq_95 em mi ic)
theorem mo95 (em mi ic : Nat) : mOwn (DD em mi ic) 95 = "TwelvehundredModel" := congrArg (fun x : MI => x.1.1.cls) (mq_95 em mi ic)
theorem mn95 (em mi ic : Nat) : mName (DD em mi ic) 95 = yX14_ofStreetNow := congrArg (fun x : MI => x.1.1) (mq_95 em mi ic)
theorem rt_95 (em mi ic : Nat) : mRet (DD em mi ic) 95 = some .int := congrArg (fun x : MI => x.1.2.2.2) (mq_95 em mi ic)
theorem ml_95 (em mi ic : Nat) : mMaxL (DD em mi ic) 95 = 3 := congrArg (fun x : MI => x.1.2.2.1) (mq_95 em mi ic)
theorem hh95 (em mi ic : Nat) : mHH (DD em mi ic) 95 = [] := congrArg (fun x : MI => x.2.2.2.2) (mq_95 em mi ic)
theorem hp95_0 (em mi ic : Nat) : hp (DD em mi ic) 95 0 = 0 := congrArg (fun x : MI => hd0 (x.2.2.1 0).1) (mq_95 em mi ic)
theorem hp95_4 (em mi ic : Nat) : hp (DD em mi ic) 95 4 = 72 := congrArg (fun x : MI => hd0 (x.2.2.1 4).1) (mq_95 em mi ic)
theorem hp95_5 (em mi ic : Nat) : hp (DD em mi ic) 95 5 = 73 := congrArg (fun x : MI => hd0 (x.2.2.1 5).1) (mq_95 em mi ic)
theorem mq_96 (em mi ic : Nat) : (DD em mi ic).1 96 = mt96 := rfl
theorem mb96 (em mi ic : Nat) : mBytes (DD em mi ic) 96 = cX11_ofHousehold := congrArg (fun x : MI => x.1.2.1) (mq_96 em mi ic)
theorem mo96 (em mi ic : Nat) : mOwn (DD em mi ic) 96 = "Twelvehundred" := congrArg (fun x : MI => x.1.1.cls) (mq_96 em mi ic)
theorem mn96 (em mi ic : Nat) : mName (DD em mi ic) 96 = yX11_ofHousehold := congrArg (fun x : MI => x.1.1) (mq_96 em mi ic)
theorem rt_96 (em mi ic : Nat) : mRet (DD em mi ic) 96 = some .int := congrArg (fun x : MI => x.1.2.2.2) (mq_96 em mi ic)
theorem ml_96 (em mi ic : Nat) : mMaxL (DD em mi ic) 96 = 5 := congrArg (fun x : MI => x.1.2.2.1) (mq_96 em mi ic)
theorem hh96 (em mi ic : Nat) : mHH (DD em mi ic) 96 = [] := congrArg (fun x : MI => x.2.2.2.2) (mq_96 em mi ic)
theorem hp96_0 (em mi ic : Nat) : hp (DD em mi ic) 96 0 = 0 := congrArg (fun x : MI => hd0 (x.2.2.1 0).1) (mq_96 em mi ic)
theorem hp96_1 (em mi ic : Nat) : hp (DD em mi ic) 96 1 = 15 := congrArg (fun x : MI => hd0 (x.2.2.1 1).1) (mq_96 em mi ic)
theorem hp96_2 (em mi ic : Nat) : hp (DD em mi ic) 96 2 = 25 := congrArg (fun x : MI => hd0 (x.2.2.1 2).1) (mq_96 em mi ic)
theorem hp96_8 (em mi ic : Nat) : hp (DD em mi ic) 96 8 = 121 := congrArg (fun x : MI => hd0 (x.2.2.1 8).1) (mq_96 em mi ic)
theorem hp96_9 (em mi ic : Nat) : hp (DD em mi ic) 96 9 = 126 := congrArg (fun x : MI => hd0 (x.2.2.1 9).1) (mq_96 em mi ic)
theorem mq_97 (em mi ic : Nat) : (DD em mi ic).1 97 = mt97 := rfl
theorem mb97 (em mi ic : Nat) : mBytes (DD em mi ic) 97 = cX14_ofHouseholdNow := congrArg (fun x : MI => x.1.2.1) (mq_97 em mi ic)
theorem mo97 (em mi ic : Nat) : mOwn (DD em mi ic) 97 = "TwelvehundredModel" := congrArg (fun x : MI => x.1.1.cls) (mq_97 em mi ic)
theorem mn97 (em mi ic : Nat) : mName (DD em mi ic) 97 = yX14_ofHouseholdNow := congrArg (fun x : MI => x.1.1) (mq_97 em mi ic)
theorem rt_97 (em mi ic : Nat) : mRet (DD em mi ic) 97 = some .int := congrArg (fun x : MI => x.1.2.2.2) (mq_97 em mi ic)
theorem ml_97 (em mi ic : Nat) : mMaxL (DD em mi ic) 97 = 4 := congrArg (fun x : MI => x.1.2.2.1) (mq_97 em mi ic)
theorem hh97 (em mi ic : Nat) : mHH (DD em mi ic) 97 = [] := congrArg (fun x : MI => x.2.2.2.2) (mq_97 em mi ic)
theorem hp97_0 (em mi ic : Nat) : hp (DD em mi ic) 97 0 = 0 := congrArg (fun x : MI => hd0 (x.2.2.1 0).1) (mq_97 em mi ic)
theorem hp97_4 (em mi ic : Nat) : hp (DD em mi ic) 97 4 = 69 := congrArg (fun x : MI => hd0 (x.2.2.1 4).1) (mq_97 em mi ic)
theorem hp97_5 (em mi ic : Nat) : hp (DD em mi ic) 97 5 = 70 := congrArg (fun x : MI => hd0 (x.2.2.1 5).1) (mq_97 em mi ic)
theorem hp97_9 (em mi ic : Nat) : hp (DD em mi ic) 97 9 = 98 := congrArg (fun x : MI => hd0 (x.2.2.1 9).1) (mq_97 em mi ic)
theorem hp97_10 (em mi ic : Nat) : hp (DD em mi ic) 97 10 = 99 := congrArg (fun x : MI => hd0 (x.2.2.1 10).1) (mq_97 em mi ic)
theorem mq_98 (em mi ic : Nat) : (DD em mi ic).1 98 = mt98 := rfl
theorem mb98 (em mi ic : Nat) : mBytes (DD em mi ic) 98 = cX11_ofHall := congrArg (fun x : MI => x.1.2.1) (mq_98 em mi ic)
theorem mo98 (em mi ic : Nat) : mOwn (DD em mi ic) 98 = "Twelvehundred" := congrArg (fun x : MI => x.1.1.cls) (mq_98 em mi ic)
theorem mn98 (em mi ic : Nat) : mName (DD em mi ic) 98 = yX11_ofHall := congrArg (fun x : MI => x.1.1) (mq_98 em mi ic)
theorem rt_98 (em mi ic : Nat) : mRet (DD em mi ic) 98 = some .int := congrArg (fun x : MI => x.1.2.2.2) (mq_98 em mi ic)
theorem ml_98 (em mi ic : Nat) : mMaxL (DD em mi ic) 98 = 4 := congrArg (fun x : MI => x.1.2.2.1) (mq_98 em mi ic)
theorem hh98 (em mi ic : Nat) : mHH (DD em mi ic) 98 = [] := congrArg (fun x : MI => x.2.2.2.2) (mq_98 em mi ic)
theorem hp98_0 (em mi ic : Nat) : hp (DD em mi ic) 98 0 = 0 := congrArg (fun x : MI => hd0 (x.2.2.1 0).1) (mq_98 em mi ic)
theorem hp98_1 (em mi ic : Nat) : hp (DD em mi ic) 98 1 = 15 := congrArg (fun x : MI => hd0 (x.2.2.1 1).1) (mq_98 em mi ic)
theorem hp98_2 (em mi ic : Nat) : hp (DD em mi ic) 98 2 = 25 := congrArg (fun x : MI => hd0 (x.2.2.1 2).1) (mq_98 em mi ic)
theorem mq_99 (em mi ic : Nat) : (DD em mi ic).1 99 = mt99 := rfl
theorem mb99 (em mi ic : Nat) : mBytes (DD em mi ic) 99 = cX14_ofHallNow := congrArg (fun x : MI => x.1.2.1) (mq_99 em mi ic)
theorem mo99 (em mi ic : Nat) : mOwn (DD em mi ic) 99 = "TwelvehundredModel" := congrArg (fun x : MI => x.1.1.cls) (mq_99 em mi ic)
theorem mn99 (em mi ic : Nat) : mName (DD em mi ic) 99 = yX14_ofHallNow := congrArg (fun x : MI => x.1.1) (mq_99 em mi ic)
theorem rt_99 (em mi ic : Nat) : mRet (DD em mi ic) 99 = some .int := congrArg (fun x : MI => x.1.2.2.2) (mq_99 em mi ic)
theorem ml_99 (em mi ic : Nat) : mMaxL (DD em mi ic) 99 = 3 := congrArg (fun x : MI => x.1.2.2.1) (mq_99 em mi ic)
theorem hh99 (em mi ic : Nat) : mHH (DD em mi ic) 99 = [] := congrArg (fun x : MI => x.2.2.2.2) (mq_99 em mi ic)
theorem hp99_0 (em mi ic : Nat) : hp (DD em mi ic) 99 0 = 0 := congrArg (fun x : MI => hd0 (x.2.2.1 0).1) (mq_99 em mi ic)
theorem mq_100 (em mi ic : Nat) : (DD em mi ic).1 100 = mt100 := rfl
theorem mb100 (em mi ic : Nat) : mBytes (DD em mi ic) 100 = cX11_ofLot := congrArg (fun x : MI => x.1.2.1) (mq_100 em mi ic)
theorem mo100 (em mi ic : Nat) : mOwn (DD em mi ic) 100 = "Twelvehundred" := congrArg (fun x : MI => x.1.1.cls) (mq_100 em mi ic)
theorem mn100 (em mi ic : Nat) : mName (DD em mi ic) 100 = yX11_ofLot := congrArg (fun x : MI => x.1.1) (mq_100 em mi ic)
theorem rt_100 (em mi ic : Nat) : mRet (DD em mi ic) 100 = some .int := congrArg (fun x : MI => x.1.2.2.2) (mq_100 em mi ic)
theorem ml_100 (em mi ic : Nat) : mMaxL (DD em mi ic) 100 = 4 := congrArg (fun x : MI => x.1.2.2.1) (mq_100 em mi ic)
theorem hh100 (em mi ic : Nat) : mHH (DD em mi ic) 100 = [] := congrArg (fun x : MI => x.2.2.2.2) (mq_100 em mi ic)
theorem hp100_0 (em mi ic : Nat) : hp (DD em mi ic) 100 0 = 0 := congrArg (fun x : MI => hd0 (x.2.2.1 0).1) (mq_100 em mi ic)
theorem hp100_1 (em mi ic : Nat) : hp (DD em mi ic) 100 1 = 18 := congrArg (fun x : MI => hd0 (x.2.2.1 1).1) (mq_100 em mi ic)
theorem hp100_2 (em mi ic : Nat) : hp (DD em mi ic) 100 2 = 29 := congrArg (fun x : MI => hd0 (x.2.2.1 2).1) (mq_100 em mi ic)
theorem mq_101 (em mi ic : Nat) : (DD em mi ic).1 101 = mt101 := rfl
theorem mb101 (em mi ic : Nat) : mBytes (DD em mi ic) 101 = cX11_county := congrArg (fun x : MI => x.1.2.1) (mq_101 em mi ic)
theorem mo101 (em mi ic : Nat) : mOwn (DD em mi ic) 101 = "Twelvehundred" := congrArg (fun x : MI => x.1.1.cls) (mq_101 em mi ic)
theorem mn101 (em mi ic : Nat) : mName (DD em mi ic) 101 = yX11_county := congrArg (fun x : MI => x.1.1) (mq_101 em mi ic)
theorem rt_101 (em mi ic : Nat) : mRet (DD em mi ic) 101 = some .int := congrArg (fun x : MI => x.1.2.2.2) (mq_101 em mi ic)
theorem ml_101 (em mi ic : Nat) : mMaxL (DD em mi ic) 101 = 2 := congrArg (fun x : MI => x.1.2.2.1) (mq_101 em mi ic)
theorem hh101 (em mi ic : Nat) : mHH (DD em mi ic) 101 = [] := congrArg (fun x : MI => x.2.2.2.2) (mq_101 em mi ic)
theorem hp101_0 (em mi ic : Nat) : hp (DD em mi ic) 101 0 = 0 := congrArg (fun x : MI => hd0 (x.2.2.1 0).1) (mq_101 em mi ic)
theorem mq_102 (em mi ic : Nat) : (DD em mi ic).1 102 = mt102 := rfl
theorem mb102 (em mi ic : Nat) : mBytes (DD em mi ic) 102 = cX14_countyNow := congrArg (fun x : MI => x.1.2.1) (mq_102 em mi ic)
theorem mo102 (em mi ic : Nat) : mOwn (DD em mi ic) 102 = "TwelvehundredModel" := congrArg (fun x : MI => x.1.1.cls) (mq_102 em mi ic)
theorem mn102 (em mi ic : Nat) : mName (DD em mi ic) 102 = yX14_countyNow := congrArg (fun x : MI => x.1.1) (mq_102 em mi ic)
theorem rt_102 (em mi ic : Nat) : mRet (DD em mi ic) 102 = some .int := congrArg (fun x : MI => x.1.2.2.2) (mq_102 em mi ic)
theorem ml_102 (em mi ic : Nat) : mMaxL (DD em mi ic) 102 = 2 := congrArg (fun x : MI => x.1.2.2.1) (mq_102 em mi ic)
theorem hh102 (em mi ic : Nat) : mHH (DD em mi ic) 102 = [] := congrArg (fun x : MI => x.2.2.2.2) (mq_102 em mi ic)
theorem hp102_0 (em mi ic : Nat) : hp (DD em mi ic) 102 0 = 0 := congrArg (fun x : MI => hd0 (x.2.2.1 0).1) (mq_102 em mi ic)
theorem mq_103 (em mi ic : Nat) : (DD em mi ic).1 103 = mt103 := rfl
theorem mb103 (em mi ic : Nat) : mBytes (DD em mi ic) 103 = cJ4_init_da8c8 := congrArg (fun x : MI => x.1.2.1) (mq_103 em mi ic)
theorem mo103 (em mi ic : Nat) : mOwn (DD em mi ic) 103 = "java/lang/StringBuilder" := congrArg (fun x : MI => x.1.1.cls) (mq_103 em mi ic)
theorem mn103 (em mi ic : Nat) : mName (DD em mi ic) 103 = yJ4_init_da8c8 := congrArg (fun x : MI => x.1.1) (mq_103 em mi ic)
theorem rt_103 (em mi ic : Nat) : mRet (DD em mi ic) 103 = none := congrArg (fun x : MI => x.1.2.2.2) (mq_103 em mi ic)
theorem ml_103 (em mi ic : Nat) : mMaxL (DD em mi ic) 103 = 1 := congrArg (fun x : MI => x.1.2.2.1) (mq_103 em mi ic)
theorem hh103 (em mi ic : Nat) : mHH (DD em mi ic) 103 = [] := congrArg (fun x : MI => x.2.2.2.2) (mq_103 em mi ic)
theorem hp103_0 (em mi ic : Nat) : hp (DD em mi ic) 103 0 = 0 := congrArg (fun x : MI => hd0 (x.2.2.1 0).1) (mq_103 em mi ic)
theorem mq_104 (em mi ic : Nat) : (DD em mi ic).1 104 = mt104 := rfl
theorem mb104 (em mi ic : Nat) : mBytes (DD em mi ic) 104 = cX11_signOf := congrArg (fun x : MI => x.1.2.1) (mq_104 em mi ic)
theorem mo104 (em mi ic : Nat) : mOwn (DD em mi ic) 104 = "Twelvehundred" := congrArg (fun x : MI => x.1.1.cls) (mq_104 em mi ic)
theorem mn104 (em mi ic : Nat) : mName (DD em mi ic) 104 = yX11_signOf := congrArg (fun x : MI => x.1.1) (mq_104 em mi ic)
theorem rt_104 (em mi ic : Nat) : mRet (DD em mi ic) 104 = some .char := congrArg (fun x : MI => x.1.2.2.2) (mq_104 em mi ic)
theorem ml_104 (em mi ic : Nat) : mMaxL (DD em mi ic) 104 = 3 := congrArg (fun x : MI => x.1.2.2.1) (mq_104 em mi ic)
theorem hh104 (em mi ic : Nat) : mHH (DD em mi ic) 104 = [] := congrArg (fun x : MI => x.2.2.2.2) (mq_104 em mi ic)
theorem hp104_0 (em mi ic : Nat) : hp (DD em mi ic) 104 0 = 0 := congrArg (fun x : MI => hd0 (x.2.2.1 0).1) (mq_104 em mi ic)
theorem hp104_1 (em mi ic : Nat) : hp (DD em mi ic) 104 1 = 10 := congrArg (fun x : MI => hd0 (x.2.2.1 1).1) (mq_104 em mi ic)
theorem hp104_2 (em mi ic : Nat) : hp (DD em mi ic) 104 2 = 21 := congrArg (fun x : MI => hd0 (x.2.2.1 2).1) (mq_104 em mi ic)
theorem hp104_3 (em mi ic : Nat) : hp (DD em mi ic) 104 3 = 39 := congrArg (fun x : MI => hd0 (x.2.2.1 3).1) (mq_104 em mi ic)
theorem hp104_4 (em mi ic : Nat) : hp (DD em mi ic) 104 4 = 47 := congrArg (fun x : MI => hd0 (x.2.2.1 4).1) (mq_104 em mi ic)
theorem mq_105 (em mi ic : Nat) : (DD em mi ic).1 105 = mt105 := rfl
theorem mb105 (em mi ic : Nat) : mBytes (DD em mi ic) 105 = cJ4_append_cf468 := congrArg (fun x : MI => x.1.2.1) (mq_105 em mi ic)
theorem mo105 (em mi ic : Nat) : mOwn (DD em mi ic) 105 = "java/lang/StringBuilder" := congrArg (fun x : MI => x.1.1.cls) (mq_105 em mi ic)
theorem mn105 (em mi ic : Nat) : mName (DD em mi ic) 105 = yJ4_append_cf468 := congrArg (fun x : MI => x.1.1) (mq_105 em mi ic)
theorem rt_105 (em mi ic : Nat) : mRet (DD em mi ic) 105 = some (.object "java/lang/StringBuilder") := congrArg (fun x : MI => x.1.2.2.2) (mq_105 em mi ic)
theorem ml_105 (em mi ic : Nat) : mMaxL (DD em mi ic) 105 = 2 := congrArg (fun x : MI => x.1.2.2.1) (mq_105 em mi ic)
theorem hh105 (em mi ic : Nat) : mHH (DD em mi ic) 105 = [] := congrArg (fun x : MI => x.2.2.2.2) (mq_105 em mi ic)
theorem hp105_0 (em mi ic : Nat) : hp (DD em mi ic) 105 0 = 0 := congrArg (fun x : MI => hd0 (x.2.2.1 0).1) (mq_105 em mi ic)
theorem mq_106 (em mi ic : Nat) : (DD em mi ic).1 106 = mt106 := rfl
theorem mb106 (em mi ic : Nat) : mBytes (DD em mi ic) 106 = cJ4_toString_0e30d := congrArg (fun x : MI => x.1.2.1) (mq_106 em mi ic)
theorem mo106 (em mi ic : Nat) : mOwn (DD em mi ic) 106 = "java/lang/StringBuilder" := congrArg (fun x : MI => x.1.1.cls) (mq_106 em mi ic)
theorem mn106 (em mi ic : Nat) : mName (DD em mi ic) 106 = yJ4_toString_0e30d := congrArg (fun x : MI => x.1.1) (mq_106 em mi ic)
theorem rt_106 (em mi ic : Nat) : mRet (DD em mi ic) 106 = some (.object "java/lang/String") := congrArg (fun x : MI => x.1.2.2.2) (mq_106 em mi ic)
theorem ml_106 (em mi ic : Nat) : mMaxL (DD em mi ic) 106 = 1 := congrArg (fun x : MI => x.1.2.2.1) (mq_106 em mi ic)
theorem hh106 (em mi ic : Nat) : mHH (DD em mi ic) 106 = [] := congrArg (fun x : MI => x.2.2.2.2) (mq_106 em mi ic)
theorem hp106_0 (em mi ic : Nat) : hp (DD em mi ic) 106 0 = 0 := congrArg (fun x : MI => hd0 (x.2.2.1 0).1) (mq_106 em mi ic)
theorem mq_107 (em mi ic : Nat) : (DD em mi ic).1 107 = mt107 := rfl
theorem mb107 (em mi ic : Nat) : mBytes (DD em mi ic) 107 = cX14_signsNow := congrArg (fun x : MI => x.1.2.1) (mq_107 em mi ic)
theorem mo107 (em mi ic : Nat) : mOwn (DD em mi ic) 107 = "TwelvehundredModel" := congrArg (fun x : MI => x.1.1.cls) (mq_107 em mi ic)
theorem mn107 (em mi ic : Nat) : mName (DD em mi ic) 107 = yX14_signsNow := congrArg (fun x : MI => x.1.1) (mq_107 em mi ic)
theorem rt_107 (em mi ic : Nat) : mRet (DD em mi ic) 107 = some (.object "java/lang/String") := congrArg (fun x : MI => x.1.2.2.2) (mq_107 em mi ic)
theorem ml_107 (em mi ic : Nat) : mMaxL (DD em mi ic) 107 = 5 := congrArg (fun x : MI => x.1.2.2.1) (mq_107 em mi ic)
theorem hh107 (em mi ic : Nat) : mHH (DD em mi ic) 107 = [] := congrArg (fun x : MI => x.2.2.2.2) (mq_107 em mi ic)
theorem hp107_0 (em mi ic : Nat) : hp (DD em mi ic) 107 0 = 0 := congrArg (fun x : MI => hd0 (x.2.2.1 0).1) (mq_107 em mi ic)
theorem hp107_1 (em mi ic : Nat) : hp (DD em mi ic) 107 1 = 15 := congrArg (fun x : MI => hd0 (x.2.2.1 1).1) (mq_107 em mi ic)
theorem hp107_2 (em mi ic : Nat) : hp (DD em mi ic) 107 2 = 48 := congrArg (fun x : MI => hd0 (x.2.2.1 2).1) (mq_107 em mi ic)
theorem hp107_3 (em mi ic : Nat) : hp (DD em mi ic) 107 3 = 59 := congrArg (fun x : MI => hd0 (x.2.2.1 3).1) (mq_107 em mi ic)
theorem hp107_4 (em mi ic : Nat) : hp (DD em mi ic) 107 4 = 71 := congrArg (fun x : MI => hd0 (x.2.2.1 4).1) (mq_107 em mi ic)
theorem hp107_5 (em mi ic : Nat) : hp (DD em mi ic) 107 5 = 78 := congrArg (fun x : MI => hd0 (x.2.2.1 5).1) (mq_107 em mi ic)
theorem hp107_6 (em mi ic : Nat) : hp (DD em mi ic) 107 6 = 88 := congrArg (fun x : MI => hd0 (x.2.2.1 6).1) (mq_107 em mi ic)
theorem mq_108 (em mi ic : Nat) : (DD em mi ic).1 108 = mt108 := rfl
theorem mb108 (em mi ic : Nat) : mBytes (DD em mi ic) 108 = cX11_can := congrArg (fun x : MI => x.1.2.1) (mq_108 em mi ic)
theorem mo108 (em mi ic : Nat) : mOwn (DD em mi ic) 108 = "Twelvehundred" := congrArg (fun x : MI => x.1.1.cls) (mq_108 em mi ic)
theorem mn108 (em mi ic : Nat) : mName (DD em mi ic) 108 = yX11_can := congrArg (fun x : MI => x.1.1) (mq_108 em mi ic)
theorem rt_108 (em mi ic : Nat) : mRet (DD em mi ic) 108 = some .boolean := congrArg (fun x : MI => x.1.2.2.2) (mq_108 em mi ic)
theorem ml_108 (em mi ic : Nat) : mMaxL (DD em mi ic) 108 = 2 := congrArg (fun x : MI => x.1.2.2.1) (mq_108 em mi ic)
theorem hh108 (em mi ic : Nat) : mHH (DD em mi ic) 108 = [] := congrArg (fun x : MI => x.2.2.2.2) (mq_108 em mi ic)
theorem hp108_0 (em mi ic : Nat) : hp (DD em mi ic) 108 0 = 0 := congrArg (fun x : MI => hd0 (x.2.2.1 0).1) (mq_108 em mi ic)
theorem hp108_1 (em mi ic : Nat) : hp (DD em mi ic) 108 1 = 17 := congrArg (fun x : MI => hd0 (x.2.2.1 1).1) (mq_108 em mi ic)
theorem hp108_2 (em mi ic : Nat) : hp (DD em mi ic) 108 2 = 28 := congrArg (fun x : MI => hd0 (x.2.2.1 2).1) (mq_108 em mi ic)
theorem mq_109 (em mi ic : Nat) : (DD em mi ic).1 109 = mt109 := rfl
theorem mb109 (em mi ic : Nat) : mBytes (DD em mi ic) 109 = cX14_canNow := congrArg (fun x : MI => x.1.2.1) (mq_109 em mi ic)
theorem mo109 (em mi ic : Nat) : mOwn (DD em mi ic) 109 = "TwelvehundredModel" := congrArg (fun x : MI => x.1.1.cls) (mq_109 em mi ic)
theorem mn109 (em mi ic : Nat) : mName (DD em mi ic) 109 = yX14_canNow := congrArg (fun x : MI => x.1.1) (mq_109 em mi ic)
theorem rt_109 (em mi ic : Nat) : mRet (DD em mi ic) 109 = some .boolean := congrArg (fun x : MI => x.1.2.2.2) (mq_109 em mi ic)
theorem ml_109 (em mi ic : Nat) : mMaxL (DD em mi ic) 109 = 6 := congrArg (fun x : MI => x.1.2.2.1) (mq_109 em mi ic)
theorem hh109 (em mi ic : Nat) : mHH (DD em mi ic) 109 = [] := congrArg (fun x : MI => x.2.2.2.2) (mq_109 em mi ic)
theorem hp109_0 (em mi ic : Nat) : hp (DD em mi ic) 109 0 = 0 := congrArg (fun x : MI => hd0 (x.2.2.1 0).1) (mq_109 em mi ic)
theorem hp109_1 (em mi ic : Nat) : hp (DD em mi ic) 109 1 = 2 := congrArg (fun x : MI => hd0 (x.2.2.1 1).1) (mq_109 em mi ic)
theorem hp109_2 (em mi ic : Nat) : hp (DD em mi ic) 109 2 = 24 := congrArg (fun x : MI => hd0 (x.2.2.1 2).1) (mq_109 em mi ic)
theorem hp109_3 (em mi ic : Nat) : hp (DD em mi ic) 109 3 = 64 := congrArg (fun x : MI => hd0 (x.2.2.1 3).1) (mq_109 em mi ic)
theorem hp109_4 (em mi ic : Nat) : hp (DD em mi ic) 109 4 = 66 := congrArg (fun x : MI => hd0 (x.2.2.1 4).1) (mq_109 em mi ic)
theorem hp109_5 (em mi ic : Nat) : hp (DD em mi ic) 109 5 = 72 := congrArg (fun x : MI => hd0 (x.2.2.1 5).1) (mq_109 em mi ic)
theorem hp109_6 (em mi ic : Nat) : hp (DD em mi ic) 109 6 = 122 := congrArg (fun x : MI => hd0 (x.2.2.1 6).1) (mq_109 em mi ic)
theorem hp109_7 (em mi ic : Nat) : hp (DD em mi ic) 109 7 = 123 := congrArg (fun x : MI => hd0 (x.2.2.1 7).1) (mq_109 em mi ic)
theorem hp109_8 (em mi ic : Nat) : hp (DD em mi ic) 109 8 = 132 := congrArg (fun x : MI => hd0 (x.2.2.1 8).1) (mq_109 em mi ic)
theorem hp109_9 (em mi ic : Nat) : hp (DD em mi ic) 109 9 = 145 := congrArg (fun x : MI => hd0 (x.2.2.1 9).1) (mq_109 em mi ic)
theorem hp109_10 (em mi ic : Nat) : hp (DD em mi ic) 109 10 = 151 := congrArg (fun x : MI => hd0 (x.2.2.1 10).1) (mq_109 em mi ic)
theorem mq_110 (em mi ic : Nat) : (DD em mi ic).1 110 = mt110 := rfl
theorem mb110 (em mi ic : Nat) : mBytes (DD em mi ic) 110 = cX8_choice := congrArg (fun x : MI => x.1.2.1) (mq_110 em mi ic)
theorem mo110 (em mi ic : Nat) : mOwn (DD em mi ic) 110 = "Twelvehundred$Rescue" := congrArg (fun x : MI => x.1.1.cls) (mq_110 em mi ic)
theorem mn110 (em mi ic : Nat) : mName (DD em mi ic) 110 = yX8_choice := congrArg (fun x : MI => x.1.1) (mq_110 em mi ic)
theorem rt_110 (em mi ic : Nat) : mRet (DD em mi ic) 110 = some .int := congrArg (fun x : MI => x.1.2.2.2) (mq_110 em mi ic)
theorem ml_110 (em mi ic : Nat) : mMaxL (DD em mi ic) 110 = 5 := congrArg (fun x : MI => x.1.2.2.1) (mq_110 em mi ic)
theorem hh110 (em mi ic : Nat) : mHH (DD em mi ic) 110 = [] := congrArg (fun x : MI => x.2.2.2.2) (mq_110 em mi ic)
theorem hp110_0 (em mi ic : Nat) : hp (DD em mi ic) 110 0 = 0 := congrArg (fun x : MI => hd0 (x.2.2.1 0).1) (mq_110 em mi ic)
theorem hp110_1 (em mi ic : Nat) : hp (DD em mi ic) 110 1 = 5 := congrArg (fun x : MI => hd0 (x.2.2.1 1).1) (mq_110 em mi ic)
theorem hp110_2 (em mi ic : Nat) : hp (DD em mi ic) 110 2 = 12 := congrArg (fun x : MI => hd0 (x.2.2.1 2).1) (mq_110 em mi ic)
theorem hp110_3 (em mi ic : Nat) : hp (DD em mi ic) 110 3 = 60 := congrArg (fun x : MI => hd0 (x.2.2.1 3).1) (mq_110 em mi ic)
theorem hp110_4 (em mi ic : Nat) : hp (DD em mi ic) 110 4 = 66 := congrArg (fun x : MI => hd0 (x.2.2.1 4).1) (mq_110 em mi ic)
theorem hp110_5 (em mi ic : Nat) : hp (DD em mi ic) 110 5 = 72 := congrArg (fun x : MI => hd0 (x.2.2.1 5).1) (mq_110 em mi ic)
theorem mq_111 (em mi ic : Nat) : (DD em mi ic).1 111 = mt111 := rfl
theorem mb111 (em mi ic : Nat) : mBytes (DD em mi ic) 111 = cX8_peopleOf := congrArg (fun x : MI => x.1.2.1) (mq_111 em mi ic)
theorem mo111 (em mi ic : Nat) : mOwn (DD em mi ic) 111 = "Twelvehundred$Rescue" := congrArg (fun x : MI => x.1.1.cls) (mq_111 em mi ic)
theorem mn111 (em mi ic : Nat) : mName (DD em mi ic) 111 = yX8_peopleOf := congrArg (fun x : MI => x.1.1) (mq_111 em mi ic)
theorem rt_111 (em mi ic : Nat) : mRet (DD em mi ic) 111 = some .int := congrArg (fun x : MI => x.1.2.2.2) (mq_111 em mi ic)
theorem ml_111 (em mi ic : Nat) : mMaxL (DD em mi ic) 111 = 4 := congrArg (fun x : MI => x.1.2.2.1) (mq_111 em mi ic)
theorem hh111 (em mi ic : Nat) : mHH (DD em mi ic) 111 = [] := congrArg (fun x : MI => x.2.2.2.2) (mq_111 em mi ic)
theorem hp111_0 (em mi ic : Nat) : hp (DD em mi ic) 111 0 = 0 := congrArg (fun x : MI => hd0 (x.2.2.1 0).1) (mq_111 em mi ic)
theorem hp111_1 (em mi ic : Nat) : hp (DD em mi ic) 111 1 = 4 := congrArg (fun x : MI => hd0 (x.2.2.1 1).1) (mq_111 em mi ic)
theorem hp111_2 (em mi ic : Nat) : hp (DD em mi ic) 111 2 = 40 := congrArg (fun x : MI => hd0 (x.2.2.1 2).1) (mq_111 em mi ic)
theorem hp111_3 (em mi ic : Nat) : hp (DD em mi ic) 111 3 = 46 := congrArg (fun x : MI => hd0 (x.2.2.1 3).1) (mq_111 em mi ic)
theorem mq_112 (em mi ic : Nat) : (DD em mi ic).1 112 = mt112 := rfl
theorem mb112 (em mi ic : Nat) : mBytes (DD em mi ic) 112 = cX14_chosenSet := congrArg (fun x : MI => x.1.2.1) (mq_112 em mi ic)
theorem mo112 (em mi ic : Nat) : mOwn (DD em mi ic) 112 = "TwelvehundredModel" := congrArg (fun x : MI => x.1.1.cls) (mq_112 em mi ic)
theorem mn112 (em mi ic : Nat) : mName (DD em mi ic) 112 = yX14_chosenSet := congrArg (fun x : MI => x.1.1) (mq_112 em mi ic)
theorem rt_112 (em mi ic : Nat) : mRet (DD em mi ic) 112 = some .int := congrArg (fun x : MI => x.1.2.2.2) (mq_112 em mi ic)
theorem ml_112 (em mi ic : Nat) : mMaxL (DD em mi ic) 112 = 4 := congrArg (fun x : MI => x.1.2.2.1) (mq_112 em mi ic)
theorem hh112 (em mi ic : Nat) : mHH (DD em mi ic) 112 = [] := congrArg (fun x : MI => x.2.2.2.2) (mq_112 em mi ic)
theorem hp112_0 (em mi ic : Nat) : hp (DD em mi ic) 112 0 = 0 := congrArg (fun x : MI => hd0 (x.2.2.1 0).1) (mq_112 em mi ic)
theorem hp112_1 (em mi ic : Nat) : hp (DD em mi ic) 112 1 = 5 := congrArg (fun x : MI => hd0 (x.2.2.1 1).1) (mq_112 em mi ic)
theorem hp112_2 (em mi ic : Nat) : hp (DD em mi ic) 112 2 = 11 := congrArg (fun x : MI => hd0 (x.2.2.1 2).1) (mq_112 em mi ic)
theorem hp112_3 (em mi ic : Nat) : hp (DD em mi ic) 112 3 = 58 := congrArg (fun x : MI => hd0 (x.2.2.1 3).1) (mq_112 em mi ic)
theorem hp112_4 (em mi ic : Nat) : hp (DD em mi ic) 112 4 = 64 := congrArg (fun x : MI => hd0 (x.2.2.1 4).1) (mq_112 em mi ic)
theorem hp112_5 (em mi ic : Nat) : hp (DD em mi ic) 112 5 = 70 := congrArg (fun x : MI => hd0 (x.2.2.1 5).1) (mq_112 em mi ic)
theorem mq_113 (em mi ic : Nat) : (DD em mi ic).1 113 = mt113 := rfl
theorem mb113 (em mi ic : Nat) : mBytes (DD em mi ic) 113 = cX14_peopleOf := congrArg (fun x : MI => x.1.2.1) (mq_113 em mi ic)
theorem mo113 (em mi ic : Nat) : mOwn (DD em mi ic) 113 = "TwelvehundredModel" := congrArg (fun x : MI => x.1.1.cls) (mq_113 em mi ic)
theorem mn113 (em mi ic : Nat) : mName (DD em mi ic) 113 = yX14_peopleOf := congrArg (fun x : MI => x.1.1) (mq_113 em mi ic)
theorem rt_113 (em mi ic : Nat) : mRet (DD em mi ic) 113 = some .int := congrArg (fun x : MI => x.1.2.2.2) (mq_113 em mi ic)
theorem ml_113 (em mi ic : Nat) : mMaxL (DD em mi ic) 113 = 4 := congrArg (fun x : MI => x.1.2.2.1) (mq_113 em mi ic)
theorem hh113 (em mi ic : Nat) : mHH (DD em mi ic) 113 = [] := congrArg (fun x : MI => x.2.2.2.2) (mq_113 em mi ic)
theorem hp113_0 (em mi ic : Nat) : hp (DD em mi ic) 113 0 = 0 := congrArg (fun x : MI => hd0 (x.2.2.1 0).1) (mq_113 em mi ic)
theorem hp113_1 (em mi ic : Nat) : hp (DD em mi ic) 113 1 = 4 := congrArg (fun x : MI => hd0 (x.2.2.1 1).1) (mq_113 em mi ic)
theorem hp113_2 (em mi ic : Nat) : hp (DD em mi ic) 113 2 = 41 := congrArg (fun x : MI => hd0 (x.2.2.1 2).1) (mq_113 em mi ic)
theorem hp113_3 (em mi ic : Nat) : hp (DD em mi ic) 113 3 = 42 := congrArg (fun x : MI => hd0 (x.2.2.1 3).1) (mq_113 em mi ic)
theorem hp113_4 (em mi ic : Nat) : hp (DD em mi ic) 113 4 = 50 := congrArg (fun x : MI => hd0 (x.2.2.1 4).1) (mq_113 em mi ic)
theorem mq_114 (em mi ic : Nat) : (DD em mi ic).1 114 = mt114 := rfl
theorem mb114 (em mi ic : Nat) : mBytes (DD em mi ic) 114 = cX7_read := congrArg (fun x : MI => x.1.2.1) (mq_114 em mi ic)
theorem mo114 (em mi ic : Nat) : mOwn (DD em mi ic) 114 = "Twelvehundred$Placing" := congrArg (fun x : MI => x.1.1.cls) (mq_114 em mi ic)
theorem mn114 (em mi ic : Nat) : mName (DD em mi ic) 114 = yX7_read := congrArg (fun x : MI => x.1.1) (mq_114 em mi ic)
theorem rt_114 (em mi ic : Nat) : mRet (DD em mi ic) 114 = some .boolean := congrArg (fun x : MI => x.1.2.2.2) (mq_114 em mi ic)
theorem ml_114 (em mi ic : Nat) : mMaxL (DD em mi ic) 114 = 6 := congrArg (fun x : MI => x.1.2.2.1) (mq_114 em mi ic)
theorem hh114 (em mi ic : Nat) : mHH (DD em mi ic) 114 = [] := congrArg (fun x : MI => x.2.2.2.2) (mq_114 em mi ic)
theorem hp114_0 (em mi ic : Nat) : hp (DD em mi ic) 114 0 = 0 := congrArg (fun x : MI => hd0 (x.2.2.1 0).1) (mq_114 em mi ic)
theorem hp114_1 (em mi ic : Nat) : hp (DD em mi ic) 114 1 = 16 := congrArg (fun x : MI => hd0 (x.2.2.1 1).1) (mq_114 em mi ic)
theorem hp114_2 (em mi ic : Nat) : hp (DD em mi ic) 114 2 = 65 := congrArg (fun x : MI => hd0 (x.2.2.1 2).1) (mq_114 em mi ic)
theorem hp114_3 (em mi ic : Nat) : hp (DD em mi ic) 114 3 = 67 := congrArg (fun x : MI => hd0 (x.2.2.1 3).1) (mq_114 em mi ic)
theorem hp114_4 (em mi ic : Nat) : hp (DD em mi ic) 114 4 = 79 := congrArg (fun x : MI => hd0 (x.2.2.1 4).1) (mq_114 em mi ic)
theorem hp114_5 (em mi ic : Nat) : hp (DD em mi ic) 114 5 = 93 := congrArg (fun x : MI => hd0 (x.2.2.1 5).1) (mq_114 em mi ic)
theorem hp114_6 (em mi ic : Nat) : hp (DD em mi ic) 114 6 = 101 := congrArg (fun x : MI => hd0 (x.2.2.1 6).1) (mq_114 em mi ic)
theorem hp114_7 (em mi ic : Nat) : hp (DD em mi ic) 114 7 = 107 := congrArg (fun x : MI => hd0 (x.2.2.1 7).1) (mq_114 em mi ic)
theorem hp114_8 (em mi ic : Nat) : hp (DD em mi ic) 114 8 = 115 := congrArg (fun x : MI => hd0 (x.2.2.1 8).1) (mq_114 em mi ic)
theorem hp114_9 (em mi ic : Nat) : hp (DD em mi ic) 114 9 = 116 := congrArg (fun x : MI => hd0 (x.2.2.1 9).1) (mq_114 em mi ic)
theorem mq_115 (em mi ic : Nat) : (DD em mi ic).1 115 = mt115 := rfl
theorem mb115 (em mi ic : Nat) : mBytes (DD em mi ic) 115 = cX7_isWithinRooms := congrArg (fun x : MI => x.1.2.1) (mq_115 em mi ic)
theorem mo115 (em mi ic : Nat) : mOwn (DD em mi ic) 115 = "Twelvehundred$Placing" := congrArg (fun x : MI => x.1.1.cls) (mq_115 em mi ic)
theorem mn115 (em mi ic : Nat) : mName (DD em mi ic) 115 = yX7_isWithinRooms := congrArg (fun x : MI => x.1.1) (mq_115 em mi ic)
theorem rt_115 (em mi ic : Nat) : mRet (DD em mi ic) 115 = some .boolean := congrArg (fun x : MI => x.1.2.2.2) (mq_115 em mi ic)
theorem ml_115 (em mi ic : Nat) : mMaxL (DD em mi ic) 115 = 3 := congrArg (fun x : MI => x.1.2.2.1) (mq_115 em mi ic)
theorem hh115 (em mi ic : Nat) : mHH (DD em mi ic) 115 = [] := congrArg (fun x : MI => x.2.2.2.2) (mq_115 em mi ic)
theorem hp115_0 (em mi ic : Nat) : hp (DD em mi ic) 115 0 = 0 := congrArg (fun x : MI => hd0 (x.2.2.1 0).1) (mq_115 em mi ic)
theorem hp115_1 (em mi ic : Nat) : hp (DD em mi ic) 115 1 = 2 := congrArg (fun x : MI => hd0 (x.2.2.1 1).1) (mq_115 em mi ic)
theorem hp115_2 (em mi ic : Nat) : hp (DD em mi ic) 115 2 = 42 := congrArg (fun x : MI => hd0 (x.2.2.1 2).1) (mq_115 em mi ic)
theorem hp115_3 (em mi ic : Nat) : hp (DD em mi ic) 115 3 = 48 := congrArg (fun x : MI => hd0 (x.2.2.1 3).1) (mq_115 em mi ic)
theorem mq_116 (em mi ic : Nat) : (DD em mi ic).1 116 = mt116 := rfl
theorem mb116 (em mi ic : Nat) : mBytes (DD em mi ic) 116 = cX7_isContested := congrArg (fun x : MI => x.1.2.1) (mq_116 em mi ic)
theorem mo116 (em mi ic : Nat) : mOwn (DD em mi ic) 116 = "Twelvehundred$Placing" := congrArg (fun x : MI => x.1.1.cls) (mq_116 em mi ic)
theorem mn116 (em mi ic : Nat) : mName (DD em mi ic) 116 = yX7_isContested := congrArg (fun x : MI => x.1.1) (mq_116 em mi ic)
theorem rt_116 (em mi ic : Nat) : mRet (DD em mi ic) 116 = some .boolean := congrArg (fun x : MI => x.1.2.2.2) (mq_116 em mi ic)
theorem ml_116 (em mi ic : Nat) : mMaxL (DD em mi ic) 116 = 2 := congrArg (fun x : MI => x.1.2.2.1) (mq_116 em mi ic)
theorem hh116 (em mi ic : Nat) : mHH (DD em mi ic) 116 = [] := congrArg (fun x : MI => x.2.2.2.2) (mq_116 em mi ic)
theorem hp116_0 (em mi ic : Nat) : hp (DD em mi ic) 116 0 = 0 := congrArg (fun x : MI => hd0 (x.2.2.1 0).1) (mq_116 em mi ic)
theorem hp116_1 (em mi ic : Nat) : hp (DD em mi ic) 116 1 = 2 := congrArg (fun x : MI => hd0 (x.2.2.1 1).1) (mq_116 em mi ic)
theorem hp116_2 (em mi ic : Nat) : hp (DD em mi ic) 116 2 = 57 := congrArg (fun x : MI => hd0 (x.2.2.1 2).1) (mq_116 em mi ic)
theorem hp116_3 (em mi ic : Nat) : hp (DD em mi ic) 116 3 = 59 := congrArg (fun x : MI => hd0 (x.2.2.1 3).1) (mq_116 em mi ic)
theorem hp116_4 (em mi ic : Nat) : hp (DD em mi ic) 116 4 = 65 := congrArg (fun x : MI => hd0 (x.2.2.1 4).1) (mq_116 em mi ic)
theorem mq_117 (em mi ic : Nat) : (DD em mi ic).1 117 = mt117 := rfl
theorem mb117 (em mi ic : Nat) : mBytes (DD em mi ic) 117 = cX14_fetchedSet := congrArg (fun x : MI => x.1.2.1) (mq_117 em mi ic)
theorem mo117 (em mi ic : Nat) : mOwn (DD em mi ic) 117 = "TwelvehundredModel" := congrArg (fun x : MI => x.1.1.cls) (mq_117 em mi ic)
theorem mn117 (em mi ic : Nat) : mName (DD em mi ic) 117 = yX14_fetchedSet := congrArg (fun x : MI => x.1.1) (mq_117 em mi ic)
theorem rt_117 (em mi ic : Nat) : mRet (DD em mi ic) 117 = some .int := congrArg (fun x : MI => x.1.2.2.2) (mq_117 em mi ic)
theorem ml_117 (em mi ic : Nat) : mMaxL (DD em mi ic) 117 = 3 := congrArg (fun x : MI => x.1.2.2.1) (mq_117 em mi ic)
theorem hh117 (em mi ic : Nat) : mHH (DD em mi ic) 117 = [] := congrArg (fun x : MI => x.2.2.2.2) (mq_117 em mi ic)
theorem hp117_0 (em mi ic : Nat) : hp (DD em mi ic) 117 0 = 0 := congrArg (fun x : MI => hd0 (x.2.2.1 0).1) (mq_117 em mi ic)
theorem hp117_1 (em mi ic : Nat) : hp (DD em mi ic) 117 1 = 4 := congrArg (fun x : MI => hd0 (x.2.2.1 1).1) (mq_117 em mi ic)
theorem hp117_2 (em mi ic : Nat) : hp (DD em mi ic) 117 2 = 40 := congrArg (fun x : MI => hd0 (x.2.2.1 2).1) (mq_117 em mi ic)
theorem hp117_3 (em mi ic : Nat) : hp (DD em mi ic) 117 3 = 41 := congrArg (fun x : MI => hd0 (x.2.2.1 3).1) (mq_117 em mi ic)
theorem hp117_4 (em mi ic : Nat) : hp (DD em mi ic) 117 4 = 49 := congrArg (fun x : MI => hd0 (x.2.2.1 4).1) (mq_117 em mi ic)
theorem mq_118 (em mi ic : Nat) : (DD em mi ic).1 118 = mt118 := rfl
theorem mb118 (em mi ic : Nat) : mBytes (DD em mi ic) 118 = cX14_isIn := congrArg (fun x : MI => x.1.2.1) (mq_118 em mi ic)
theorem mo118 (em mi ic : Nat) : mOwn (DD em mi ic) 118 = "TwelvehundredModel" := congrArg (fun x : MI => x.1.1.cls) (mq_118 em mi ic)
theorem mn118 (em mi ic : Nat) : mName (DD em mi ic) 118 = yX14_isIn := congrArg (fun x : MI => x.1.1) (mq_118 em mi ic)
theorem rt_118 (em mi ic : Nat) : mRet (DD em mi ic) 118 = some .boolean := congrArg (fun x : MI => x.1.2.2.2) (mq_118 em mi ic)
theorem ml_118 (em mi ic : Nat) : mMaxL (DD em mi ic) 118 = 2 := congrArg (fun x : MI => x.1.2.2.1) (mq_118 em mi ic)
theorem hh118 (em mi ic : Nat) : mHH (DD em mi ic) 118 = [] := congrArg (fun x : MI => x.2.2.2.2) (mq_118 em mi ic)
theorem hp118_0 (em mi ic : Nat) : hp (DD em mi ic) 118 0 = 0 := congrArg (fun x : MI => hd0 (x.2.2.1 0).1) (mq_118 em mi ic)
theorem hp118_1 (em mi ic : Nat) : hp (DD em mi ic) 118 1 = 13 := congrArg (fun x : MI => hd0 (x.2.2.1 1).1) (mq_118 em mi ic)
theorem hp118_2 (em mi ic : Nat) : hp (DD em mi ic) 118 2 = 14 := congrArg (fun x : MI => hd0 (x.2.2.1 2).1) (mq_118 em mi ic)
theorem mq_119 (em mi ic : Nat) : (DD em mi ic).1 119 = mt119 := rfl
theorem mb119 (em mi ic : Nat) : mBytes (DD em mi ic) 119 = cX14_isStableNow := congrArg (fun x : MI => x.1.2.1) (mq_119 em mi ic)
theorem mo119 (em mi ic : Nat) : mOwn (DD em mi ic) 119 = "TwelvehundredModel" := congrArg (fun x : MI => x.1.1.cls) (mq_119 em mi ic)
theorem mn119 (em mi ic : Nat) : mName (DD em mi ic) 119 = yX14_isStableNow := congrArg (fun x : MI => x.1.1) (mq_119 em mi ic)
theorem rt_119 (em mi ic : Nat) : mRet (DD em mi ic) 119 = some .boolean := congrArg (fun x : MI => x.1.2.2.2) (mq_119 em mi ic)
theorem ml_119 (em mi ic : Nat) : mMaxL (DD em mi ic) 119 = 9 := congrArg (fun x : MI => x.1.2.2.1) (mq_119 em mi ic)
theorem hh119 (em mi ic : Nat) : mHH (DD em mi ic) 119 = [] := congrArg (fun x : MI => x.2.2.2.2) (mq_119 em mi ic)
theorem hp119_0 (em mi ic : Nat) : hp (DD em mi ic) 119 0 = 0 := congrArg (fun x : MI => hd0 (x.2.2.1 0).1) (mq_119 em mi ic)
theorem hp119_1 (em mi ic : Nat) : hp (DD em mi ic) 119 1 = 7 := congrArg (fun x : MI => hd0 (x.2.2.1 1).1) (mq_119 em mi ic)
theorem hp119_2 (em mi ic : Nat) : hp (DD em mi ic) 119 2 = 53 := congrArg (fun x : MI => hd0 (x.2.2.1 2).1) (mq_119 em mi ic)
theorem hp119_3 (em mi ic : Nat) : hp (DD em mi ic) 119 3 = 56 := congrArg (fun x : MI => hd0 (x.2.2.1 3).1) (mq_119 em mi ic)
theorem hp119_4 (em mi ic : Nat) : hp (DD em mi ic) 119 4 = 89 := congrArg (fun x : MI => hd0 (x.2.2.1 4).1) (mq_119 em mi ic)
theorem hp119_5 (em mi ic : Nat) : hp (DD em mi ic) 119 5 = 103 := congrArg (fun x : MI => hd0 (x.2.2.1 5).1) (mq_119 em mi ic)
theorem hp119_6 (em mi ic : Nat) : hp (DD em mi ic) 119 6 = 104 := congrArg (fun x : MI => hd0 (x.2.2.1 6).1) (mq_119 em mi ic)
theorem hp119_7 (em mi ic : Nat) : hp (DD em mi ic) 119 7 = 109 := congrArg (fun x : MI => hd0 (x.2.2.1 7).1) (mq_119 em mi ic)
theorem hp119_8 (em mi ic : Nat) : hp (DD em mi ic) 119 8 = 143 := congrArg (fun x : MI => hd0 (x.2.2.1 8).1) (mq_119 em mi ic)
theorem hp119_9 (em mi ic : Nat) : hp (DD em mi ic) 119 9 = 144 := congrArg (fun x : MI => hd0 (x.2.2.1 9).1) (mq_119 em mi ic)
theorem hp119_10 (em mi ic : Nat) : hp (DD em mi ic) 119 10 = 153 := congrArg (fun x : MI => hd0 (x.2.2.1 10).1) (mq_119 em mi ic)
theorem hp119_11 (em mi ic : Nat) : hp (DD em mi ic) 119 11 = 160 := congrArg (fun x : MI => hd0 (x.2.2.1 11).1) (mq_119 em mi ic)
theorem hp119_12 (em mi ic : Nat) : hp (DD em mi ic) 119 12 = 166 := congrArg (fun x : MI => hd0 (x.2.2.1 12).1) (mq_119 em mi ic)
theorem hp119_13 (em mi ic : Nat) : hp (DD em mi ic) 119 13 = 172 := congrArg (fun x : MI => hd0 (x.2.2.1 13).1) (mq_119 em mi ic)
theorem mq_120 (em mi ic : Nat) : (DD em mi ic).1 120 = mt120 := rfl
theorem mb120 (em mi ic : Nat) : mBytes (DD em mi ic) 120 = cX11_would := congrArg (fun x : MI => x.1.2.1) (mq_120 em mi ic)
theorem mo120 (em mi ic : Nat) : mOwn (DD em mi ic) 120 = "Twelvehundred" := congrArg (fun x : MI => x.1.1.cls) (mq_120 em mi ic)
theorem mn120 (em mi ic : Nat) : mName (DD em mi ic) 120 = yX11_would := congrArg (fun x : MI => x.1.1) (mq_120 em mi ic)
theorem rt_120 (em mi ic : Nat) : mRet (DD em mi ic) 120 = some .int := congrArg (fun x : MI => x.1.2.2.2) (mq_120 em mi ic)
theorem ml_120 (em mi ic : Nat) : mMaxL (DD em mi ic) 120 = 3 := congrArg (fun x : MI => x.1.2.2.1) (mq_120 em mi ic)
theorem hh120 (em mi ic : Nat) : mHH (DD em mi ic) 120 = [] := congrArg (fun x : MI => x.2.2.2.2) (mq_120 em mi ic)
theorem hp120_0 (em mi ic : Nat) : hp (DD em mi ic) 120 0 = 0 := congrArg (fun x : MI => hd0 (x.2.2.1 0).1) (mq_120 em mi ic)
theorem hp120_1 (em mi ic : Nat) : hp (DD em mi ic) 120 1 = 20 := congrArg (fun x : MI => hd0 (x.2.2.1 1).1) (mq_120 em mi ic)
theorem hp120_2 (em mi ic : Nat) : hp (DD em mi ic) 120 2 = 30 := congrArg (fun x : MI => hd0 (x.2.2.1 2).1) (mq_120 em mi ic)
theorem mq_121 (em mi ic : Nat) : (DD em mi ic).1 121 = mt121 := rfl
theorem mb121 (em mi ic : Nat) : mBytes (DD em mi ic) 121 = cX14_wouldNow := congrArg (fun x : MI => x.1.2.1) (mq_121 em mi ic)
theorem mo121 (em mi ic : Nat) : mOwn (DD em mi ic) 121 = "TwelvehundredModel" := congrArg (fun x : MI => x.1.1.cls) (mq_121 em mi ic)
theorem mn121 (em mi ic : Nat) : mName (DD em mi ic) 121 = yX14_wouldNow := congrArg (fun x : MI => x.1.1) (mq_121 em mi ic)
theorem rt_121 (em mi ic : Nat) : mRet (DD em mi ic) 121 = some .int := congrArg (fun x : MI => x.1.2.2.2) (mq_121 em mi ic)
theorem ml_121 (em mi ic : Nat) : mMaxL (DD em mi ic) 121 = 6 := congrArg (fun x : MI => x.1.2.2.1) (mq_121 em mi ic)
theorem hh121 (em mi ic : Nat) : mHH (DD em mi ic) 121 = [] := congrArg (fun x : MI => x.2.2.2.2) (mq_121 em mi ic)
theorem hp121_0 (em mi ic : Nat) : hp (DD em mi ic) 121 0 = 0 := congrArg (fun x : MI => hd0 (x.2.2.1 0).1) (mq_121 em mi ic)
theorem hp121_1 (em mi ic : Nat) : hp (DD em mi ic) 121 1 = 11 := congrArg (fun x : MI => hd0 (x.2.2.1 1).1) (mq_121 em mi ic)
theorem hp121_2 (em mi ic : Nat) : hp (DD em mi ic) 121 2 = 54 := congrArg (fun x : MI => hd0 (x.2.2.1 2).1) (mq_121 em mi ic)
theorem hp121_3 (em mi ic : Nat) : hp (DD em mi ic) 121 3 = 55 := congrArg (fun x : MI => hd0 (x.2.2.1 3).1) (mq_121 em mi ic)
theorem hp121_4 (em mi ic : Nat) : hp (DD em mi ic) 121 4 = 60 := congrArg (fun x : MI => hd0 (x.2.2.1 4).1) (mq_121 em mi ic)
theorem mq_122 (em mi ic : Nat) : (DD em mi ic).1 122 = mt122 := rfl
theorem mb122 (em mi ic : Nat) : mBytes (DD em mi ic) 122 = cX11_areAlike := congrArg (fun x : MI => x.1.2.1) (mq_122 em mi ic)
theorem mo122 (em mi ic : Nat) : mOwn (DD em mi ic) 122 = "Twelvehundred" := congrArg (fun x : MI => x.1.1.cls) (mq_122 em mi ic)
theorem mn122 (em mi ic : Nat) : mName (DD em mi ic) 122 = yX11_areAlike := congrArg (fun x : MI => x.1.1) (mq_122 em mi ic)
theorem rt_122 (em mi ic : Nat) : mRet (DD em mi ic) 122 = some .boolean := congrArg (fun x : MI => x.1.2.2.2) (mq_122 em mi ic)
theorem ml_122 (em mi ic : Nat) : mMaxL (DD em mi ic) 122 = 3 := congrArg (fun x : MI => x.1.2.2.1) (mq_122 em mi ic)
theorem hh122 (em mi ic : Nat) : mHH (DD em mi ic) 122 = [] := congrArg (fun x : MI => x.2.2.2.2) (mq_122 em mi ic)
theorem hp122_0 (em mi ic : Nat) : hp (DD em mi ic) 122 0 = 0 := congrArg (fun x : MI => hd0 (x.2.2.1 0).1) (mq_122 em mi ic)
theorem hp122_1 (em mi ic : Nat) : hp (DD em mi ic) 122 1 = 14 := congrArg (fun x : MI => hd0 (x.2.2.1 1).1) (mq_122 em mi ic)
theorem hp122_2 (em mi ic : Nat) : hp (DD em mi ic) 122 2 = 25 := congrArg (fun x : MI => hd0 (x.2.2.1 2).1) (mq_122 em mi ic)
theorem mq_123 (em mi ic : Nat) : (DD em mi ic).1 123 = mt123 := rfl
theorem mb123 (em mi ic : Nat) : mBytes (DD em mi ic) 123 = cX14_areLike := congrArg (fun x : MI => x.1.2.1) (mq_123 em mi ic)
theorem mo123 (em mi ic : Nat) : mOwn (DD em mi ic) 123 = "TwelvehundredModel" := congrArg (fun x : MI => x.1.1.cls) (mq_123 em mi ic)
theorem mn123 (em mi ic : Nat) : mName (DD em mi ic) 123 = yX14_areLike := congrArg (fun x : MI => x.1.1) (mq_123 em mi ic)
theorem rt_123 (em mi ic : Nat) : mRet (DD em mi ic) 123 = some .boolean := congrArg (fun x : MI => x.1.2.2.2) (mq_123 em mi ic)
theorem ml_123 (em mi ic : Nat) : mMaxL (DD em mi ic) 123 = 5 := congrArg (fun x : MI => x.1.2.2.1) (mq_123 em mi ic)
theorem hh123 (em mi ic : Nat) : mHH (DD em mi ic) 123 = [] := congrArg (fun x : MI => x.2.2.2.2) (mq_123 em mi ic)
theorem hp123_0 (em mi ic : Nat) : hp (DD em mi ic) 123 0 = 0 := congrArg (fun x : MI => hd0 (x.2.2.1 0).1) (mq_123 em mi ic)
theorem hp123_1 (em mi ic : Nat) : hp (DD em mi ic) 123 1 = 47 := congrArg (fun x : MI => hd0 (x.2.2.1 1).1) (mq_123 em mi ic)
theorem hp123_2 (em mi ic : Nat) : hp (DD em mi ic) 123 2 = 48 := congrArg (fun x : MI => hd0 (x.2.2.1 2).1) (mq_123 em mi ic)
theorem hp123_3 (em mi ic : Nat) : hp (DD em mi ic) 123 3 = 49 := congrArg (fun x : MI => hd0 (x.2.2.1 3).1) (mq_123 em mi ic)
theorem hp123_4 (em mi ic : Nat) : hp (DD em mi ic) 123 4 = 56 := congrArg (fun x : MI => hd0 (x.2.2.1 4).1) (mq_123 em mi ic)
theorem hp123_5 (em mi ic : Nat) : hp (DD em mi ic) 123 5 = 78 := congrArg (fun x : MI => hd0 (x.2.2.1 5).1) (mq_123 em mi ic)
theorem hp123_6 (em mi ic : Nat) : hp (DD em mi ic) 123 6 = 79 := congrArg (fun x : MI => hd0 (x.2.2.1 6).1) (mq_123 em mi ic)
theorem hp123_7 (em mi ic : Nat) : hp (DD em mi ic) 123 7 = 96 := congrArg (fun x : MI => hd0 (x.2.2.1 7).1) (mq_123 em mi ic)
theorem hp123_8 (em mi ic : Nat) : hp (DD em mi ic) 123 8 = 105 := congrArg (fun x : MI => hd0 (x.2.2.1 8).1) (mq_123 em mi ic)
theorem hp123_9 (em mi ic : Nat) : hp (DD em mi ic) 123 9 = 106 := congrArg (fun x : MI => hd0 (x.2.2.1 9).1) (mq_123 em mi ic)
theorem mq_124 (em mi ic : Nat) : (DD em mi ic).1 124 = mt124 := rfl
theorem mb124 (em mi ic : Nat) : mBytes (DD em mi ic) 124 = cX7_clear := congrArg (fun x : MI => x.1.2.1) (mq_124 em mi ic)
theorem mo124 (em mi ic : Nat) : mOwn (DD em mi ic) 124 = "Twelvehundred$Placing" := congrArg (fun x : MI => x.1.1.cls) (mq_124 em mi ic)
theorem mn124 (em mi ic : Nat) : mName (DD em mi ic) 124 = yX7_clear := congrArg (fun x : MI => x.1.1) (mq_124 em mi ic)
theorem rt_124 (em mi ic : Nat) : mRet (DD em mi ic) 124 = none := congrArg (fun x : MI => x.1.2.2.2) (mq_124 em mi ic)
theorem ml_124 (em mi ic : Nat) : mMaxL (DD em mi ic) 124 = 2 := congrArg (fun x : MI => x.1.2.2.1) (mq_124 em mi ic)
theorem hh124 (em mi ic : Nat) : mHH (DD em mi ic) 124 = [] := congrArg (fun x : MI => x.2.2.2.2) (mq_124 em mi ic)
theorem hp124_0 (em mi ic : Nat) : hp (DD em mi ic) 124 0 = 0 := congrArg (fun x : MI => hd0 (x.2.2.1 0).1) (mq_124 em mi ic)
theorem hp124_1 (em mi ic : Nat) : hp (DD em mi ic) 124 1 = 2 := congrArg (fun x : MI => hd0 (x.2.2.1 1).1) (mq_124 em mi ic)
theorem hp124_2 (em mi ic : Nat) : hp (DD em mi ic) 124 2 = 24 := congrArg (fun x : MI => hd0 (x.2.2.1 2).1) (mq_124 em mi ic)
theorem mq_125 (em mi ic : Nat) : (DD em mi ic).1 125 = mt125 := rfl
theorem mb125 (em mi ic : Nat) : mBytes (DD em mi ic) 125 = cX7_isBeaten := congrArg (fun x : MI => x.1.2.1) (mq_125 em mi ic)
theorem mo125 (em mi ic : Nat) : mOwn (DD em mi ic) 125 = "Twelvehundred$Placing" := congrArg (fun x : MI => x.1.1.cls) (mq_125 em mi ic)
theorem mn125 (em mi ic : Nat) : mName (DD em mi ic) 125 = yX7_isBeaten := congrArg (fun x : MI => x.1.1) (mq_125 em mi ic)
theorem rt_125 (em mi ic : Nat) : mRet (DD em mi ic) 125 = some .boolean := congrArg (fun x : MI => x.1.2.2.2) (mq_125 em mi ic)
theorem ml_125 (em mi ic : Nat) : mMaxL (DD em mi ic) 125 = 6 := congrArg (fun x : MI => x.1.2.2.1) (mq_125 em mi ic)
theorem hh125 (em mi ic : Nat) : mHH (DD em mi ic) 125 = [] := congrArg (fun x : MI => x.2.2.2.2) (mq_125 em mi ic)
theorem hp125_0 (em mi ic : Nat) : hp (DD em mi ic) 125 0 = 0 := congrArg (fun x : MI => hd0 (x.2.2.1 0).1) (mq_125 em mi ic)
theorem hp125_1 (em mi ic : Nat) : hp (DD em mi ic) 125 1 = 15 := congrArg (fun x : MI => hd0 (x.2.2.1 1).1) (mq_125 em mi ic)
theorem hp125_2 (em mi ic : Nat) : hp (DD em mi ic) 125 2 = 34 := congrArg (fun x : MI => hd0 (x.2.2.1 2).1) (mq_125 em mi ic)
theorem hp125_3 (em mi ic : Nat) : hp (DD em mi ic) 125 3 = 35 := congrArg (fun x : MI => hd0 (x.2.2.1 3).1) (mq_125 em mi ic)
theorem hp125_4 (em mi ic : Nat) : hp (DD em mi ic) 125 4 = 36 := congrArg (fun x : MI => hd0 (x.2.2.1 4).1) (mq_125 em mi ic)
theorem hp125_5 (em mi ic : Nat) : hp (DD em mi ic) 125 5 = 65 := congrArg (fun x : MI => hd0 (x.2.2.1 5).1) (mq_125 em mi ic)
theorem hp125_6 (em mi ic : Nat) : hp (DD em mi ic) 125 6 = 68 := congrArg (fun x : MI => hd0 (x.2.2.1 6).1) (mq_125 em mi ic)
theorem hp125_7 (em mi ic : Nat) : hp (DD em mi ic) 125 7 = 89 := congrArg (fun x : MI => hd0 (x.2.2.1 7).1) (mq_125 em mi ic)
theorem hp125_8 (em mi ic : Nat) : hp (DD em mi ic) 125 8 = 101 := congrArg (fun x : MI => hd0 (x.2.2.1 8).1) (mq_125 em mi ic)
theorem hp125_9 (em mi ic : Nat) : hp (DD em mi ic) 125 9 = 117 := congrArg (fun x : MI => hd0 (x.2.2.1 9).1) (mq_125 em mi ic)
theorem hp125_10 (em mi ic : Nat) : hp (DD em mi ic) 125 10 = 145 := congrArg (fun x : MI => hd0 (x.2.2.1 10).1) (mq_125 em mi ic)
theorem hp125_11 (em mi ic : Nat) : hp (DD em mi ic) 125 11 = 151 := congrArg (fun x : MI => hd0 (x.2.2.1 11).1) (mq_125 em mi ic)
theorem hp125_12 (em mi ic : Nat) : hp (DD em mi ic) 125 12 = 157 := congrArg (fun x : MI => hd0 (x.2.2.1 12).1) (mq_125 em mi ic)
theorem mq_126 (em mi ic : Nat) : (DD em mi ic).1 126 = mt126 := rfl
theorem mb126 (em mi ic : Nat) : mBytes (DD em mi ic) 126 = cX8_canReachMoreThan := congrArg (fun x : MI => x.1.2.1) (mq_126 em mi ic)
theorem mo126 (em mi ic : Nat) : mOwn (DD em mi ic) 126 = "Twelvehundred$Rescue" := congrArg (fun x : MI => x.1.1.cls) (mq_126 em mi ic)
theorem mn126 (em mi ic : Nat) : mName (DD em mi ic) 126 = yX8_canReachMoreThan := congrArg (fun x : MI => x.1.1) (mq_126 em mi ic)
theorem rt_126 (em mi ic : Nat) : mRet (DD em mi ic) 126 = some .boolean := congrArg (fun x : MI => x.1.2.2.2) (mq_126 em mi ic)
theorem ml_126 (em mi ic : Nat) : mMaxL (DD em mi ic) 126 = 3 := congrArg (fun x : MI => x.1.2.2.1) (mq_126 em mi ic)
theorem hh126 (em mi ic : Nat) : mHH (DD em mi ic) 126 = [] := congrArg (fun x : MI => x.2.2.2.2) (mq_126 em mi ic)
theorem hp126_0 (em mi ic : Nat) : hp (DD em mi ic) 126 0 = 0 := congrArg (fun x : MI => hd0 (x.2.2.1 0).1) (mq_126 em mi ic)
theorem hp126_1 (em mi ic : Nat) : hp (DD em mi ic) 126 1 = 2 := congrArg (fun x : MI => hd0 (x.2.2.1 1).1) (mq_126 em mi ic)
theorem hp126_2 (em mi ic : Nat) : hp (DD em mi ic) 126 2 = 34 := congrArg (fun x : MI => hd0 (x.2.2.1 2).1) (mq_126 em mi ic)
theorem hp126_3 (em mi ic : Nat) : hp (DD em mi ic) 126 3 = 40 := congrArg (fun x : MI => hd0 (x.2.2.1 3).1) (mq_126 em mi ic)
theorem mq_127 (em mi ic : Nat) : (DD em mi ic).1 127 = mt127 := rfl
theorem mb127 (em mi ic : Nat) : mBytes (DD em mi ic) 127 = cX4_isBalanced := congrArg (fun x : MI => x.1.2.1) (mq_127 em mi ic)
theorem mo127 (em mi ic : Nat) : mOwn (DD em mi ic) 127 = "Twelvehundred$Larder" := congrArg (fun x : MI => x.1.1.cls) (mq_127 em mi ic)
theorem mn127 (em mi ic : Nat) : mName (DD em mi ic) 127 = yX4_isBalanced := congrArg (fun x : MI => x.1.1) (mq_127 em mi ic)
theorem rt_127 (em mi ic : Nat) : mRet (DD em mi ic) 127 = some .boolean := congrArg (fun x : MI => x.1.2.2.2) (mq_127 em mi ic)
theorem ml_127 (em mi ic : Nat) : mMaxL (DD em mi ic) 127 = 4 := congrArg (fun x : MI => x.1.2.2.1) (mq_127 em mi ic)
theorem hh127 (em mi ic : Nat) : mHH (DD em mi ic) 127 = [] := congrArg (fun x : MI => x.2.2.2.2) (mq_127 em mi ic)
theorem hp127_0 (em mi ic : Nat) : hp (DD em mi ic) 127 0 = 0 := congrArg (fun x : MI => hd0 (x.2.2.1 0).1) (mq_127 em mi ic)
theorem hp127_1 (em mi ic : Nat) : hp (DD em mi ic) 127 1 = 6 := congrArg (fun x : MI => hd0 (x.2.2.1 1).1) (mq_127 em mi ic)
theorem hp127_2 (em mi ic : Nat) : hp (DD em mi ic) 127 2 = 57 := congrArg (fun x : MI => hd0 (x.2.2.1 2).1) (mq_127 em mi ic)
theorem hp127_3 (em mi ic : Nat) : hp (DD em mi ic) 127 3 = 76 := congrArg (fun x : MI => hd0 (x.2.2.1 3).1) (mq_127 em mi ic)
theorem hp127_4 (em mi ic : Nat) : hp (DD em mi ic) 127 4 = 77 := congrArg (fun x : MI => hd0 (x.2.2.1 4).1) (mq_127 em mi ic)
theorem mq_128 (em mi ic : Nat) : (DD em mi ic).1 128 = mt128 := rfl
theorem mb128 (em mi ic : Nat) : mBytes (DD em mi ic) 128 = cX1_persons := congrArg (fun x : MI => x.1.2.1) (mq_128 em mi ic)
theorem mo128 (em mi ic : Nat) : mOwn (DD em mi ic) 128 = "Twelvehundred$Bulletin" := congrArg (fun x : MI => x.1.1.cls) (mq_128 em mi ic)
theorem mn128 (em mi ic : Nat) : mName (DD em mi ic) 128 = yX1_persons := congrArg (fun x : MI => x.1.1) (mq_128 em mi ic)
theorem rt_128 (em mi ic : Nat) : mRet (DD em mi ic) 128 = some .int := congrArg (fun x : MI => x.1.2.2.2) (mq_128 em mi ic)
theorem ml_128 (em mi ic : Nat) : mMaxL (DD em mi ic) 128 = 6 := congrArg (fun x : MI => x.1.2.2.1) (mq_128 em mi ic)
theorem hh128 (em mi ic : Nat) : mHH (DD em mi ic) 128 = [] := congrArg (fun x : MI => x.2.2.2.2) (mq_128 em mi ic)
theorem hp128_0 (em mi ic : Nat) : hp (DD em mi ic) 128 0 = 0 := congrArg (fun x : MI => hd0 (x.2.2.1 0).1) (mq_128 em mi ic)
theorem hp128_1 (em mi ic : Nat) : hp (DD em mi ic) 128 1 = 4 := congrArg (fun x : MI => hd0 (x.2.2.1 1).1) (mq_128 em mi ic)
theorem hp128_2 (em mi ic : Nat) : hp (DD em mi ic) 128 2 = 52 := congrArg (fun x : MI => hd0 (x.2.2.1 2).1) (mq_128 em mi ic)
theorem hp128_3 (em mi ic : Nat) : hp (DD em mi ic) 128 3 = 53 := congrArg (fun x : MI => hd0 (x.2.2.1 3).1) (mq_128 em mi ic)
theorem hp128_4 (em mi ic : Nat) : hp (DD em mi ic) 128 4 = 64 := congrArg (fun x : MI => hd0 (x.2.2.1 4).1) (mq_128 em mi ic)
theorem hp128_5 (em mi ic : Nat) : hp (DD em mi ic) 128 5 = 66 := congrArg (fun x : MI => hd0 (x.2.2.1 5).1) (mq_128 em mi ic)
theorem hp128_6 (em mi ic : Nat) : hp (DD em mi ic) 128 6 = 79 := congrArg (fun x : MI => hd0 (x.2.2.1 6).1) (mq_128 em mi ic)
theorem hp128_7 (em mi ic : Nat) : hp (DD em mi ic) 128 7 = 150 := congrArg (fun x : MI => hd0 (x.2.2.1 7).1) (mq_128 em mi ic)
theorem hp128_8 (em mi ic : Nat) : hp (DD em mi ic) 128 8 = 156 := congrArg (fun x : MI => hd0 (x.2.2.1 8).1) (mq_128 em mi ic)
theorem hp128_9 (em mi ic : Nat) : hp (DD em mi ic) 128 9 = 162 := congrArg (fun x : MI => hd0 (x.2.2.1 9).1) (mq_128 em mi ic)
theorem mq_129 (em mi ic : Nat) : (DD em mi ic).1 129 = mt129 := rfl
theorem mb129 (em mi ic : Nat) : mBytes (DD em mi ic) 129 = cX14_isSoundNow := congrArg (fun x : MI => x.1.2.1) (mq_129 em mi ic)
theorem mo129 (em mi ic : Nat) : mOwn (DD em mi ic) 129 = "TwelvehundredModel" := congrArg (fun x : MI => x.1.1.cls) (mq_129 em mi ic)
theorem mn129 (em mi ic : Nat) : mName (DD em mi ic) 129 = yX14_isSoundNow := congrArg (fun x : MI => x.1.1) (mq_129 em mi ic)
theorem rt_129 (em mi ic : Nat) : mRet (DD em mi ic) 129 = some .boolean := congrArg (fun x : MI => x.1.2.2.2) (mq_129 em mi ic)
theorem ml_129 (em mi ic : Nat) : mMaxL (DD em mi ic) 129 = 4 := congrArg (fun x : MI => x.1.2.2.1) (mq_129 em mi ic)
theorem hh129 (em mi ic : Nat) : mHH (DD em mi ic) 129 = [] := congrArg (fun x : MI => x.2.2.2.2) (mq_129 em mi ic)
theorem hp129_0 (em mi ic : Nat) : hp (DD em mi ic) 129 0 = 0 := congrArg (fun x : MI => hd0 (x.2.2.1 0).1) (mq_129 em mi ic)
theorem hp129_1 (em mi ic : Nat) : hp (DD em mi ic) 129 1 = 26 := congrArg (fun x : MI => hd0 (x.2.2.1 1).1) (mq_129 em mi ic)
theorem hp129_2 (em mi ic : Nat) : hp (DD em mi ic) 129 2 = 28 := congrArg (fun x : MI => hd0 (x.2.2.1 2).1) (mq_129 em mi ic)
theorem hp129_3 (em mi ic : Nat) : hp (DD em mi ic) 129 3 = 39 := congrArg (fun x : MI => hd0 (x.2.2.1 3).1) (mq_129 em mi ic)
theorem hp129_4 (em mi ic : Nat) : hp (DD em mi ic) 129 4 = 71 := congrArg (fun x : MI => hd0 (x.2.2.1 4).1) (mq_129 em mi ic)
theorem hp129_5 (em mi ic : Nat) : hp (DD em mi ic) 129 5 = 77 := congrArg (fun x : MI => hd0 (x.2.2.1 5).1) (mq_129 em mi ic)
theorem hp129_6 (em mi ic : Nat) : hp (DD em mi ic) 129 6 = 116 := congrArg (fun x : MI => hd0 (x.2.2.1 6).1) (mq_129 em mi ic)
theorem hp129_7 (em mi ic : Nat) : hp (DD em mi ic) 129 7 = 117 := congrArg (fun x : MI => hd0 (x.2.2.1 7).1) (mq_129 em mi ic)
theorem mq_130 (em mi ic : Nat) : (DD em mi ic).1 130 = mt130 := rfl
theorem mb130 (em mi ic : Nat) : mBytes (DD em mi ic) 130 = cX11_county := congrArg (fun x : MI => x.1.2.1) (mq_130 em mi ic)
theorem mo130 (em mi ic : Nat) : mOwn (DD em mi ic) 130 = "Twelvehundred" := congrArg (fun x : MI => x.1.1.cls) (mq_130 em mi ic)
theorem mn130 (em mi ic : Nat) : mName (DD em mi ic) 130 = yX11_county := congrArg (fun x : MI => x.1.1) (mq_130 em mi ic)
theorem rt_130 (em mi ic : Nat) : mRet (DD em mi ic) 130 = some .int := congrArg (fun x : MI => x.1.2.2.2) (mq_130 em mi ic)
theorem ml_130 (em mi ic : Nat) : mMaxL (DD em mi ic) 130 = 2 := congrArg (fun x : MI => x.1.2.2.1) (mq_130 em mi ic)
theorem hh130 (em mi ic : Nat) : mHH (DD em mi ic) 130 = [] := congrArg (fun x : MI => x.2.2.2.2) (mq_130 em mi ic)
theorem hp130_0 (em mi ic : Nat) : hp (DD em mi ic) 130 0 = 0 := congrArg (fun x : MI => hd0 (x.2.2.1 0).1) (mq_130 em mi ic)
theorem mq_131 (em mi ic : Nat) : (DD em mi ic).1 131 = mt131 := rfl
theorem mb131 (em mi ic : Nat) : mBytes (DD em mi ic) 131 = cX11_ofStreet := congrArg (fun x : MI => x.1.2.1) (mq_131 em mi ic)
theorem mo131 (em mi ic : Nat) : mOwn (DD em mi ic) 131 = "Twelvehundred" := congrArg (fun x : MI => x.1.1.cls) (mq_131 em mi ic)
theorem mn131 (em mi ic : Nat) : mName (DD em mi ic) 131 = yX11_ofStreet := congrArg (fun x : MI => x.1.1) (mq_131 em mi ic)
theorem rt_131 (em mi ic : Nat) : mRet (DD em mi ic) 131 = some .int := congrArg (fun x : MI => x.1.2.2.2) (mq_131 em mi ic)
theorem ml_131 (em mi ic : Nat) : mMaxL (DD em mi ic) 131 = 4 := congrArg (fun x : MI => x.1.2.2.1) (mq_131 em mi ic)
theorem hh131 (em mi ic : Nat) : mHH (DD em mi ic) 131 = [] := congrArg (fun x : MI => x.2.2.2.2) (mq_131 em mi ic)
theorem hp131_0 (em mi ic : Nat) : hp (DD em mi ic) 131 0 = 0 := congrArg (fun x : MI => hd0 (x.2.2.1 0).1) (mq_131 em mi ic)
theorem hp131_1 (em mi ic : Nat) : hp (DD em mi ic) 131 1 = 15 := congrArg (fun x : MI => hd0 (x.2.2.1 1).1) (mq_131 em mi ic)
theorem hp131_2 (em mi ic : Nat) : hp (DD em mi ic) 131 2 = 25 := congrArg (fun x : MI => hd0 (x.2.2.1 2).1) (mq_131 em mi ic)
theorem mq_132 (em mi ic : Nat) : (DD em mi ic).1 132 = mt132 := rfl
theorem mb132 (em mi ic : Nat) : mBytes (DD em mi ic) 132 = cX11_ofHousehold := congrArg (fun x : MI => x.1.2.1) (mq_132 em mi ic)
theorem mo132 (em mi ic : Nat) : mOwn (DD em mi ic) 132 = "Twelvehundred" := congrArg (fun x : MI => x.1.1.cls) (mq_132 em mi ic)
theorem mn132 (em mi ic : Nat) : mName (DD em mi ic) 132 = yX11_ofHousehold := congrArg (fun x : MI => x.1.1) (mq_132 em mi ic)
theorem rt_132 (em mi ic : Nat) : mRet (DD em mi ic) 132 = some .int := congrArg (fun x : MI => x.1.2.2.2) (mq_132 em mi ic)
theorem ml_132 (em mi ic : Nat) : mMaxL (DD em mi ic) 132 = 5 := congrArg (fun x : MI => x.1.2.2.1) (mq_132 em mi ic)
theorem hh132 (em mi ic : Nat) : mHH (DD em mi ic) 132 = [] := congrArg (fun x : MI => x.2.2.2.2) (mq_132 em mi ic)
theorem hp132_0 (em mi ic : Nat) : hp (DD em mi ic) 132 0 = 0 := congrArg (fun x : MI => hd0 (x.2.2.1 0).1) (mq_132 em mi ic)
theorem hp132_1 (em mi ic : Nat) : hp (DD em mi ic) 132 1 = 15 := congrArg (fun x : MI => hd0 (x.2.2.1 1).1) (mq_132 em mi ic)
theorem hp132_2 (em mi ic : Nat) : hp (DD em mi ic) 132 2 = 25 := congrArg (fun x : MI => hd0 (x.2.2.1 2).1) (mq_132 em mi ic)
theorem hp132_8 (em mi ic : Nat) : hp (DD em mi ic) 132 8 = 121 := congrArg (fun x : MI => hd0 (x.2.2.1 8).1) (mq_132 em mi ic)
theorem hp132_9 (em mi ic : Nat) : hp (DD em mi ic) 132 9 = 126 := congrArg (fun x : MI => hd0 (x.2.2.1 9).1) (mq_132 em mi ic)
theorem mq_133 (em mi ic : Nat) : (DD em mi ic).1 133 = mt133 := rfl
theorem mb133 (em mi ic : Nat) : mBytes (DD em mi ic) 133 = cX11_ofHall := congrArg (fun x : MI => x.1.2.1) (mq_133 em mi ic)
theorem mo133 (em mi ic : Nat) : mOwn (DD em mi ic) 133 = "Twelvehundred" := congrArg (fun x : MI => x.1.1.cls) (mq_133 em mi ic)
theorem mn133 (em mi ic : Nat) : mName (DD em mi ic) 133 = yX11_ofHall := congrArg (fun x : MI => x.1.1) (mq_133 em mi ic)
theorem rt_133 (em mi ic : Nat) : mRet (DD em mi ic) 133 = some .int := congrArg (fun x : MI => x.1.2.2.2) (mq_133 em mi ic)
theorem ml_133 (em mi ic : Nat) : mMaxL (DD em mi ic) 133 = 4 := congrArg (fun x : MI => x.1.2.2.1) (mq_133 em mi ic)
theorem hh133 (em mi ic : Nat) : mHH (DD em mi ic) 133 = [] := congrArg (fun x : MI => x.2.2.2.2) (mq_133 em mi ic)
theorem hp133_0 (em mi ic : Nat) : hp (DD em mi ic) 133 0 = 0 := congrArg (fun x : MI => hd0 (x.2.2.1 0).1) (mq_133 em mi ic)
theorem hp133_1 (em mi ic : Nat) : hp (DD em mi ic) 133 1 = 15 := congrArg (fun x : MI => hd0 (x.2.2.1 1).1) (mq_133 em mi ic)
theorem hp133_2 (em mi ic : Nat) : hp (DD em mi ic) 133 2 = 25 := congrArg (fun x : MI => hd0 (x.2.2.1 2).1) (mq_133 em mi ic)
theorem mq_134 (em mi ic : Nat) : (DD em mi ic).1 134 = mt134 := rfl
theorem mb134 (em mi ic : Nat) : mBytes (DD em mi ic) 134 = cX11_ofLot := congrArg (fun x : MI => x.1.2.1) (mq_134 em mi ic)
theorem mo134 (em mi ic : Nat) : mOwn (DD em mi ic) 134 = "Twelvehundred" := congrArg (fun x : MI => x.1.1.cls) (mq_134 em mi ic)
theorem mn134 (em mi ic : Nat) : mName (DD em mi ic) 134 = yX11_ofLot := congrArg (fun x : MI => x.1.1) (mq_134 em mi ic)
theorem rt_134 (em mi ic : Nat) : mRet (DD em mi ic) 134 = some .int := congrArg (fun x : MI => x.1.2.2.2) (mq_134 em mi ic)
theorem ml_134 (em mi ic : Nat) : mMaxL (DD em mi ic) 134 = 4 := congrArg (fun x : MI => x.1.2.2.1) (mq_134 em mi ic)
theorem hh134 (em mi ic : Nat) : mHH (DD em mi ic) 134 = [] := congrArg (fun x : MI => x.2.2.2.2) (mq_134 em mi ic)
theorem hp134_0 (em mi ic : Nat) : hp (DD em mi ic) 134 0 = 0 := congrArg (fun x : MI => hd0 (x.2.2.1 0).1) (mq_134 em mi ic)
theorem hp134_1 (em mi ic : Nat) : hp (DD em mi ic) 134 1 = 18 := congrArg (fun x : MI => hd0 (x.2.2.1 1).1) (mq_134 em mi ic)
theorem hp134_2 (em mi ic : Nat) : hp (DD em mi ic) 134 2 = 29 := congrArg (fun x : MI => hd0 (x.2.2.1 2).1) (mq_134 em mi ic)
theorem mq_135 (em mi ic : Nat) : (DD em mi ic).1 135 = mt135 := rfl
theorem mb135 (em mi ic : Nat) : mBytes (DD em mi ic) 135 = cX11_would := congrArg (fun x : MI => x.1.2.1) (mq_135 em mi ic)
theorem mo135 (em mi ic : Nat) : mOwn (DD em mi ic) 135 = "Twelvehundred" := congrArg (fun x : MI => x.1.1.cls) (mq_135 em mi ic)
theorem mn135 (em mi ic : Nat) : mName (DD em mi ic) 135 = yX11_would := congrArg (fun x : MI => x.1.1) (mq_135 em mi ic)
theorem rt_135 (em mi ic : Nat) : mRet (DD em mi ic) 135 = some .int := congrArg (fun x : MI => x.1.2.2.2) (mq_135 em mi ic)
theorem ml_135 (em mi ic : Nat) : mMaxL (DD em mi ic) 135 = 3 := congrArg (fun x : MI => x.1.2.2.1) (mq_135 em mi ic)
theorem hh135 (em mi ic : Nat) : mHH (DD em mi ic) 135 = [] := congrArg (fun x : MI => x.2.2.2.2) (mq_135 em mi ic)
theorem hp135_0 (em mi ic : Nat) : hp (DD em mi ic) 135 0 = 0 := congrArg (fun x : MI => hd0 (x.2.2.1 0).1) (mq_135 em mi ic)
theorem hp135_1 (em mi ic : Nat) : hp (DD em mi ic) 135 1 = 20 := congrArg (fun x : MI => hd0 (x.2.2.1 1).1) (mq_135 em mi ic)
theorem hp135_2 (em mi ic : Nat) : hp (DD em mi ic) 135 2 = 30 := congrArg (fun x : MI => hd0 (x.2.2.1 2).1) (mq_135 em mi ic)
theorem mq_136 (em mi ic : Nat) : (DD em mi ic).1 136 = mt136 := rfl
theorem mb136 (em mi ic : Nat) : mBytes (DD em mi ic) 136 = cJ0_length_8abf5 := congrArg (fun x : MI => x.1.2.1) (mq_136 em mi ic)
theorem mo136 (em mi ic : Nat) : mOwn (DD em mi ic) 136 = "java/lang/String" := congrArg (fun x : MI => x.1.1.cls) (mq_136 em mi ic)
theorem mn136 (em mi ic : Nat) : mName (DD em mi ic) 136 = yJ0_length_8abf5 := congrArg (fun x : MI => x.1.1) (mq_136 em mi ic)
theorem rt_136 (em mi ic : Nat) : mRet (DD em mi ic) 136 = some .int := congrArg (fun x : MI => x.1.2.2.2) (mq_136 em mi ic)
theorem ml_136 (em mi ic : Nat) : mMaxL (DD em mi ic) 136 = 1 := congrArg (fun x : MI => x.1.2.2.1) (mq_136 em mi ic)
theorem hh136 (em mi ic : Nat) : mHH (DD em mi ic) 136 = [] := congrArg (fun x : MI => x.2.2.2.2) (mq_136 em mi ic)
theorem hp136_0 (em mi ic : Nat) : hp (DD em mi ic) 136 0 = 0 := congrArg (fun x : MI => hd0 (x.2.2.1 0).1) (mq_136 em mi ic)
theorem mq_137 (em mi ic : Nat) : (DD em mi ic).1 137 = mt137 := rfl
theorem mb137 (em mi ic : Nat) : mBytes (DD em mi ic) 137 = cX11_oneIf := congrArg (fun x : MI => x.1.2.1) (mq_137 em mi ic)
theorem mo137 (em mi ic : Nat) : mOwn (DD em mi ic) 137 = "Twelvehundred" := congrArg (fun x : MI => x.1.1.cls) (mq_137 em mi ic)
theorem mn137 (em mi ic : Nat) : mName (DD em mi ic) 137 = yX11_oneIf := congrArg (fun x : MI => x.1.1) (mq_137 em mi ic)
theorem rt_137 (em mi ic : Nat) : mRet (DD em mi ic) 137 = some .int := congrArg (fun x : MI => x.1.2.2.2) (mq_137 em mi ic)
theorem ml_137 (em mi ic : Nat) : mMaxL (DD em mi ic) 137 = 1 := congrArg (fun x : MI => x.1.2.2.1) (mq_137 em mi ic)
theorem hh137 (em mi ic : Nat) : mHH (DD em mi ic) 137 = [] := congrArg (fun x : MI => x.2.2.2.2) (mq_137 em mi ic)
theorem hp137_0 (em mi ic : Nat) : hp (DD em mi ic) 137 0 = 0 := congrArg (fun x : MI => hd0 (x.2.2.1 0).1) (mq_137 em mi ic)
theorem hp137_1 (em mi ic : Nat) : hp (DD em mi ic) 137 1 = 8 := congrArg (fun x : MI => hd0 (x.2.2.1 1).1) (mq_137 em mi ic)
theorem hp137_2 (em mi ic : Nat) : hp (DD em mi ic) 137 2 = 9 := congrArg (fun x : MI => hd0 (x.2.2.1 2).1) (mq_137 em mi ic)
theorem mq_138 (em mi ic : Nat) : (DD em mi ic).1 138 = mt138 := rfl
theorem mb138 (em mi ic : Nat) : mBytes (DD em mi ic) 138 = cX14_add := congrArg (fun x : MI => x.1.2.1) (mq_138 em mi ic)
theorem mo138 (em mi ic : Nat) : mOwn (DD em mi ic) 138 = "TwelvehundredModel" := congrArg (fun x : MI => x.1.1.cls) (mq_138 em mi ic)
theorem mn138 (em mi ic : Nat) : mName (DD em mi ic) 138 = yX14_add := congrArg (fun x : MI => x.1.1) (mq_138 em mi ic)
theorem rt_138 (em mi ic : Nat) : mRet (DD em mi ic) 138 = none := congrArg (fun x : MI => x.1.2.2.2) (mq_138 em mi ic)
theorem ml_138 (em mi ic : Nat) : mMaxL (DD em mi ic) 138 = 3 := congrArg (fun x : MI => x.1.2.2.1) (mq_138 em mi ic)
theorem hh138 (em mi ic : Nat) : mHH (DD em mi ic) 138 = [] := congrArg (fun x : MI => x.2.2.2.2) (mq_138 em mi ic)
theorem hp138_0 (em mi ic : Nat) : hp (DD em mi ic) 138 0 = 0 := congrArg (fun x : MI => hd0 (x.2.2.1 0).1) (mq_138 em mi ic)
theorem mq_139 (em mi ic : Nat) : (DD em mi ic).1 139 = mt139 := rfl
theorem mb139 (em mi ic : Nat) : mBytes (DD em mi ic) 139 = cJxc12de_init_da8c8 := congrArg (fun x : MI => x.1.2.1) (mq_139 em mi ic)
theorem mo139 (em mi ic : Nat) : mOwn (DD em mi ic) 139 = "java/util/AbstractList" := congrArg (fun x : MI => x.1.1.cls) (mq_139 em mi ic)
theorem mn139 (em mi ic : Nat) : mName (DD em mi ic) 139 = yJxc12de_init_da8c8 := congrArg (fun x : MI => x.1.1) (mq_139 em mi ic)
theorem rt_139 (em mi ic : Nat) : mRet (DD em mi ic) 139 = none := congrArg (fun x : MI => x.1.2.2.2) (mq_139 em mi ic)
theorem ml_139 (em mi ic : Nat) : mMaxL (DD em mi ic) 139 = 1 := congrArg (fun x : MI => x.1.2.2.1) (mq_139 em mi ic)
theorem hh139 (em mi ic : Nat) : mHH (DD em mi ic) 139 = [] := congrArg (fun x : MI => x.2.2.2.2) (mq_139 em mi ic)
theorem hp139_0 (em mi ic : Nat) : hp (DD em mi ic) 139 0 = 0 := congrArg (fun x : MI => hd0 (x.2.2.1 0).1) (mq_139 em mi ic)
theorem mq_140 (em mi ic : Nat) : (DD em mi ic).1 140 = mt140 := rfl
theorem mb140 (em mi ic : Nat) : mBytes (DD em mi ic) 140 = cX11_isWithin := congrArg (fun x : MI => x.1.2.1) (mq_140 em mi ic)
theorem mo140 (em mi ic : Nat) : mOwn (DD em mi ic) 140 = "Twelvehundred" := congrArg (fun x : MI => x.1.1.cls) (mq_140 em mi ic)
theorem mn140 (em mi ic : Nat) : mName (DD em mi ic) 140 = yX11_isWithin := congrArg (fun x : MI => x.1.1) (mq_140 em mi ic)
theorem rt_140 (em mi ic : Nat) : mRet (DD em mi ic) 140 = some .boolean := congrArg (fun x : MI => x.1.2.2.2) (mq_140 em mi ic)
theorem ml_140 (em mi ic : Nat) : mMaxL (DD em mi ic) 140 = 3 := congrArg (fun x : MI => x.1.2.2.1) (mq_140 em mi ic)
theorem hh140 (em mi ic : Nat) : mHH (DD em mi ic) 140 = [] := congrArg (fun x : MI => x.2.2.2.2) (mq_140 em mi ic)
theorem hp140_0 (em mi ic : Nat) : hp (DD em mi ic) 140 0 = 0 := congrArg (fun x : MI => hd0 (x.2.2.1 0).1) (mq_140 em mi ic)
theorem hp140_1 (em mi ic : Nat) : hp (DD em mi ic) 140 1 = 14 := congrArg (fun x : MI => hd0 (x.2.2.1 1).1) (mq_140 em mi ic)
theorem hp140_2 (em mi ic : Nat) : hp (DD em mi ic) 140 2 = 15 := congrArg (fun x : MI => hd0 (x.2.2.1 2).1) (mq_140 em mi ic)
theorem mq_141 (em mi ic : Nat) : (DD em mi ic).1 141 = mt141 := rfl
theorem mb141 (em mi ic : Nat) : mBytes (DD em mi ic) 141 = cX10_init := congrArg (fun x : MI => x.1.2.1) (mq_141 em mi ic)
theorem mo141 (em mi ic : Nat) : mOwn (DD em mi ic) 141 = "Twelvehundred$Street" := congrArg (fun x : MI => x.1.1.cls) (mq_141 em mi ic)
theorem mn141 (em mi ic : Nat) : mName (DD em mi ic) 141 = yX10_init := congrArg (fun x : MI => x.1.1) (mq_141 em mi ic)
theorem rt_141 (em mi ic : Nat) : mRet (DD em mi ic) 141 = none := congrArg (fun x : MI => x.1.2.2.2) (mq_141 em mi ic)
theorem ml_141 (em mi ic : Nat) : mMaxL (DD em mi ic) 141 = 4 := congrArg (fun x : MI => x.1.2.2.1) (mq_141 em mi ic)
theorem hh141 (em mi ic : Nat) : mHH (DD em mi ic) 141 = [] := congrArg (fun x : MI => x.2.2.2.2) (mq_141 em mi ic)
theorem hp141_0 (em mi ic : Nat) : hp (DD em mi ic) 141 0 = 0 := congrArg (fun x : MI => hd0 (x.2.2.1 0).1) (mq_141 em mi ic)
theorem mq_142 (em mi ic : Nat) : (DD em mi ic).1 142 = mt142 := rfl
theorem mb142 (em mi ic : Nat) : mBytes (DD em mi ic) 142 = cJx4a65c_add_72be8 := congrArg (fun x : MI => x.1.2.1) (mq_142 em mi ic)
theorem mo142 (em mi ic : Nat) : mOwn (DD em mi ic) 142 = "java/util/ArrayList" := congrArg (fun x : MI => x.1.1.cls) (mq_142 em mi ic)
theorem mn142 (em mi ic : Nat) : mName (DD em mi ic) 142 = yJx4a65c_add_72be8 := congrArg (fun x : MI => x.1.1) (mq_142 em mi ic)
theorem rt_142 (em mi ic : Nat) : mRet (DD em mi ic) 142 = none := congrArg (fun x : MI => x.1.2.2.2) (mq_142 em mi ic)
theorem ml_142 (em mi ic : Nat) : mMaxL (DD em mi ic) 142 = 4 := congrArg (fun x : MI => x.1.2.2.1) (mq_142 em mi ic)
theorem hh142 (em mi ic : Nat) : mHH (DD em mi ic) 142 = [] := congrArg (fun x : MI => x.2.2.2.2) (mq_142 em mi ic)
theorem hp142_0 (em mi ic : Nat) : hp (DD em mi ic) 142 0 = 0 := congrArg (fun x : MI => hd0 (x.2.2.1 0).1) (mq_142 em mi ic)
theorem hp142_1 (em mi ic : Nat) : hp (DD em mi ic) 142 1 = 11 := congrArg (fun x : MI => hd0 (x.2.2.1 1).1) (mq_142 em mi ic)
theorem mq_143 (em mi ic : Nat) : (DD em mi ic).1 143 = mt143 := rfl
theorem mb143 (em mi ic : Nat) : mBytes (DD em mi ic) 143 = cX2_init := congrArg (fun x : MI => x.1.2.1) (mq_143 em mi ic)
theorem mo143 (em mi ic : Nat) : mOwn (DD em mi ic) 143 = "Twelvehundred$Hall" := congrArg (fun x : MI => x.1.1.cls) (mq_143 em mi ic)
theorem mn143 (em mi ic : Nat) : mName (DD em mi ic) 143 = yX2_init := congrArg (fun x : MI => x.1.1) (mq_143 em mi ic)
theorem rt_143 (em mi ic : Nat) : mRet (DD em mi ic) 143 = none := congrArg (fun x : MI => x.1.2.2.2) (mq_143 em mi ic)
theorem ml_143 (em mi ic : Nat) : mMaxL (DD em mi ic) 143 = 4 := congrArg (fun x : MI => x.1.2.2.1) (mq_143 em mi ic)
theorem hh143 (em mi ic : Nat) : mHH (DD em mi ic) 143 = [] := congrArg (fun x : MI => x.2.2.2.2) (mq_143 em mi ic)
theorem hp143_0 (em mi ic : Nat) : hp (DD em mi ic) 143 0 = 0 := congrArg (fun x : MI => hd0 (x.2.2.1 0).1) (mq_143 em mi ic)
theorem mq_144 (em mi ic : Nat) : (DD em mi ic).1 144 = mt144 := rfl
theorem mb144 (em mi ic : Nat) : mBytes (DD em mi ic) 144 = cX0_settle := congrArg (fun x : MI => x.1.2.1) (mq_144 em mi ic)
theorem mo144 (em mi ic : Nat) : mOwn (DD em mi ic) 144 = "Twelvehundred$Asking" := congrArg (fun x : MI => x.1.1.cls) (mq_144 em mi ic)
theorem mn144 (em mi ic : Nat) : mName (DD em mi ic) 144 = yX0_settle := congrArg (fun x : MI => x.1.1) (mq_144 em mi ic)
theorem rt_144 (em mi ic : Nat) : mRet (DD em mi ic) 144 = none := congrArg (fun x : MI => x.1.2.2.2) (mq_144 em mi ic)
theorem ml_144 (em mi ic : Nat) : mMaxL (DD em mi ic) 144 = 2 := congrArg (fun x : MI => x.1.2.2.1) (mq_144 em mi ic)
theorem hh144 (em mi ic : Nat) : mHH (DD em mi ic) 144 = [] := congrArg (fun x : MI => x.2.2.2.2) (mq_144 em mi ic)
theorem hp144_0 (em mi ic : Nat) : hp (DD em mi ic) 144 0 = 0 := congrArg (fun x : MI => hd0 (x.2.2.1 0).1) (mq_144 em mi ic)
theorem hp144_1 (em mi ic : Nat) : hp (DD em mi ic) 144 1 = 9 := congrArg (fun x : MI => hd0 (x.2.2.1 1).1) (mq_144 em mi ic)
theorem hp144_2 (em mi ic : Nat) : hp (DD em mi ic) 144 2 = 31 := congrArg (fun x : MI => hd0 (x.2.2.1 2).1) (mq_144 em mi ic)
theorem hp144_3 (em mi ic : Nat) : hp (DD em mi ic) 144 3 = 38 := congrArg (fun x : MI => hd0 (x.2.2.1 3).1) (mq_144 em mi ic)
theorem hp144_4 (em mi ic : Nat) : hp (DD em mi ic) 144 4 = 54 := congrArg (fun x : MI => hd0 (x.2.2.1 4).1) (mq_144 em mi ic)
theorem mq_145 (em mi ic : Nat) : (DD em mi ic).1 145 = mt145 := rfl
theorem mb145 (em mi ic : Nat) : mBytes (DD em mi ic) 145 = cJ15_checkIndex_7cf53 := congrArg (fun x : MI => x.1.2.1) (mq_145 em mi ic)
theorem mo145 (em mi ic : Nat) : mOwn (DD em mi ic) 145 = "java/util/Objects" := congrArg (fun x : MI => x.1.1.cls) (mq_145 em mi ic)
theorem mn145 (em mi ic : Nat) : mName (DD em mi ic) 145 = yJ15_checkIndex_7cf53 := congrArg (fun x : MI => x.1.1) (mq_145 em mi ic)
theorem rt_145 (em mi ic : Nat) : mRet (DD em mi ic) 145 = some .int := congrArg (fun x : MI => x.1.2.2.2) (mq_145 em mi ic)
theorem ml_145 (em mi ic : Nat) : mMaxL (DD em mi ic) 145 = 2 := congrArg (fun x : MI => x.1.2.2.1) (mq_145 em mi ic)
theorem hh145 (em mi ic : Nat) : mHH (DD em mi ic) 145 = [] := congrArg (fun x : MI => x.2.2.2.2) (mq_145 em mi ic)
theorem hp145_0 (em mi ic : Nat) : hp (DD em mi ic) 145 0 = 0 := congrArg (fun x : MI => hd0 (x.2.2.1 0).1) (mq_145 em mi ic)
theorem mq_146 (em mi ic : Nat) : (DD em mi ic).1 146 = mt146 := rfl
theorem mb146 (em mi ic : Nat) : mBytes (DD em mi ic) 146 = cJx4a65c_elementData_915e3 := congrArg (fun x : MI => x.1.2.1) (mq_146 em mi ic)
theorem mo146 (em mi ic : Nat) : mOwn (DD em mi ic) 146 = "java/util/ArrayList" := congrArg (fun x : MI => x.1.1.cls) (mq_146 em mi ic)
theorem mn146 (em mi ic : Nat) : mName (DD em mi ic) 146 = yJx4a65c_elementData_915e3 := congrArg (fun x : MI => x.1.1) (mq_146 em mi ic)
theorem rt_146 (em mi ic : Nat) : mRet (DD em mi ic) 146 = some (.object "java/lang/Object") := congrArg (fun x : MI => x.1.2.2.2) (mq_146 em mi ic)
theorem ml_146 (em mi ic : Nat) : mMaxL (DD em mi ic) 146 = 2 := congrArg (fun x : MI => x.1.2.2.1) (mq_146 em mi ic)
theorem hh146 (em mi ic : Nat) : mHH (DD em mi ic) 146 = [] := congrArg (fun x : MI => x.2.2.2.2) (mq_146 em mi ic)
theorem hp146_0 (em mi ic : Nat) : hp (DD em mi ic) 146 0 = 0 := congrArg (fun x : MI => hd0 (x.2.2.1 0).1) (mq_146 em mi ic)
theorem mq_147 (em mi ic : Nat) : (DD em mi ic).1 147 = mt147 := rfl
theorem mb147 (em mi ic : Nat) : mBytes (DD em mi ic) 147 = cX3_init := congrArg (fun x : MI => x.1.2.1) (mq_147 em mi ic)
theorem mo147 (em mi ic : Nat) : mOwn (DD em mi ic) 147 = "Twelvehundred$Household" := congrArg (fun x : MI => x.1.1.cls) (mq_147 em mi ic)
theorem mn147 (em mi ic : Nat) : mName (DD em mi ic) 147 = yX3_init := congrArg (fun x : MI => x.1.1) (mq_147 em mi ic)
theorem rt_147 (em mi ic : Nat) : mRet (DD em mi ic) 147 = none := congrArg (fun x : MI => x.1.2.2.2) (mq_147 em mi ic)
theorem ml_147 (em mi ic : Nat) : mMaxL (DD em mi ic) 147 = 5 := congrArg (fun x : MI => x.1.2.2.1) (mq_147 em mi ic)
theorem hh147 (em mi ic : Nat) : mHH (DD em mi ic) 147 = [] := congrArg (fun x : MI => x.2.2.2.2) (mq_147 em mi ic)
theorem hp147_0 (em mi ic : Nat) : hp (DD em mi ic) 147 0 = 0 := congrArg (fun x : MI => hd0 (x.2.2.1 0).1) (mq_147 em mi ic)
theorem mq_148 (em mi ic : Nat) : (DD em mi ic).1 148 = mt148 := rfl
theorem mb148 (em mi ic : Nat) : mBytes (DD em mi ic) 148 = cX9_floods := congrArg (fun x : MI => x.1.2.1) (mq_148 em mi ic)
theorem mo148 (em mi ic : Nat) : mOwn (DD em mi ic) 148 = "Twelvehundred$River" := congrArg (fun x : MI => x.1.1.cls) (mq_148 em mi ic)
theorem mn148 (em mi ic : Nat) : mName (DD em mi ic) 148 = yX9_floods := congrArg (fun x : MI => x.1.1) (mq_148 em mi ic)
theorem rt_148 (em mi ic : Nat) : mRet (DD em mi ic) 148 = some .boolean := congrArg (fun x : MI => x.1.2.2.2) (mq_148 em mi ic)
theorem ml_148 (em mi ic : Nat) : mMaxL (DD em mi ic) 148 = 2 := congrArg (fun x : MI => x.1.2.2.1) (mq_148 em mi ic)
theorem hh148 (em mi ic : Nat) : mHH (DD em mi ic) 148 = [] := congrArg (fun x : MI => x.2.2.2.2) (mq_148 em mi ic)
theorem hp148_0 (em mi ic : Nat) : hp (DD em mi ic) 148 0 = 0 := congrArg (fun x : MI => hd0 (x.2.2.1 0).1) (mq_148 em mi ic)
theorem hp148_1 (em mi ic : Nat) : hp (DD em mi ic) 148 1 = 15 := congrArg (fun x : MI => hd0 (x.2.2.1 1).1) (mq_148 em mi ic)
theorem hp148_2 (em mi ic : Nat) : hp (DD em mi ic) 148 2 = 16 := congrArg (fun x : MI => hd0 (x.2.2.1 2).1) (mq_148 em mi ic)
theorem mq_149 (em mi ic : Nat) : (DD em mi ic).1 149 = mt149 := rfl
theorem mb149 (em mi ic : Nat) : mBytes (DD em mi ic) 149 = cX9_flow := congrArg (fun x : MI => x.1.2.1) (mq_149 em mi ic)
theorem mo149 (em mi ic : Nat) : mOwn (DD em mi ic) 149 = "Twelvehundred$River" := congrArg (fun x : MI => x.1.1.cls) (mq_149 em mi ic)
theorem mn149 (em mi ic : Nat) : mName (DD em mi ic) 149 = yX9_flow := congrArg (fun x : MI => x.1.1) (mq_149 em mi ic)
theorem rt_149 (em mi ic : Nat) : mRet (DD em mi ic) 149 = none := congrArg (fun x : MI => x.1.2.2.2) (mq_149 em mi ic)
theorem ml_149 (em mi ic : Nat) : mMaxL (DD em mi ic) 149 = 1 := congrArg (fun x : MI => x.1.2.2.1) (mq_149 em mi ic)
theorem hh149 (em mi ic : Nat) : mHH (DD em mi ic) 149 = [] := congrArg (fun x : MI => x.2.2.2.2) (mq_149 em mi ic)
theorem hp149_0 (em mi ic : Nat) : hp (DD em mi ic) 149 0 = 0 := congrArg (fun x : MI => hd0 (x.2.2.1 0).1) (mq_149 em mi ic)
theorem mq_150 (em mi ic : Nat) : (DD em mi ic).1 150 = mt150 := rfl
theorem mb150 (em mi ic : Nat) : mBytes (DD em mi ic) 150 = cX8_cutOffFlooded := congrArg (fun x : MI => x.1.2.1) (mq_150 em mi ic)
theorem mo150 (em mi ic : Nat) : mOwn (DD em mi ic) 150 = "Twelvehundred$Rescue" := congrArg (fun x : MI => x.1.1.cls) (mq_150 em mi ic)
theorem mn150 (em mi ic : Nat) : mName (DD em mi ic) 150 = yX8_cutOffFlooded := congrArg (fun x : MI => x.1.1) (mq_150 em mi ic)
theorem rt_150 (em mi ic : Nat) : mRet (DD em mi ic) 150 = some .int := congrArg (fun x : MI => x.1.2.2.2) (mq_150 em mi ic)
theorem ml_150 (em mi ic : Nat) : mMaxL (DD em mi ic) 150 = 4 := congrArg (fun x : MI => x.1.2.2.1) (mq_150 em mi ic)
theorem hh150 (em mi ic : Nat) : mHH (DD em mi ic) 150 = [] := congrArg (fun x : MI => x.2.2.2.2) (mq_150 em mi ic)
theorem hp150_0 (em mi ic : Nat) : hp (DD em mi ic) 150 0 = 0 := congrArg (fun x : MI => hd0 (x.2.2.1 0).1) (mq_150 em mi ic)
theorem hp150_1 (em mi ic : Nat) : hp (DD em mi ic) 150 1 = 4 := congrArg (fun x : MI => hd0 (x.2.2.1 1).1) (mq_150 em mi ic)
theorem hp150_2 (em mi ic : Nat) : hp (DD em mi ic) 150 2 = 56 := congrArg (fun x : MI => hd0 (x.2.2.1 2).1) (mq_150 em mi ic)
theorem hp150_3 (em mi ic : Nat) : hp (DD em mi ic) 150 3 = 62 := congrArg (fun x : MI => hd0 (x.2.2.1 3).1) (mq_150 em mi ic)
theorem mq_151 (em mi ic : Nat) : (DD em mi ic).1 151 = mt151 := rfl
theorem mb151 (em mi ic : Nat) : mBytes (DD em mi ic) 151 = cX4_spoilBefore := congrArg (fun x : MI => x.1.2.1) (mq_151 em mi ic)
theorem mo151 (em mi ic : Nat) : mOwn (DD em mi ic) 151 = "Twelvehundred$Larder" := congrArg (fun x : MI => x.1.1.cls) (mq_151 em mi ic)
theorem mn151 (em mi ic : Nat) : mName (DD em mi ic) 151 = yX4_spoilBefore := congrArg (fun x : MI => x.1.1) (mq_151 em mi ic)
theorem rt_151 (em mi ic : Nat) : mRet (DD em mi ic) 151 = none := congrArg (fun x : MI => x.1.2.2.2) (mq_151 em mi ic)
theorem ml_151 (em mi ic : Nat) : mMaxL (DD em mi ic) 151 = 4 := congrArg (fun x : MI => x.1.2.2.1) (mq_151 em mi ic)
theorem hh151 (em mi ic : Nat) : mHH (DD em mi ic) 151 = [] := congrArg (fun x : MI => x.2.2.2.2) (mq_151 em mi ic)
theorem hp151_0 (em mi ic : Nat) : hp (DD em mi ic) 151 0 = 0 := congrArg (fun x : MI => hd0 (x.2.2.1 0).1) (mq_151 em mi ic)
theorem hp151_1 (em mi ic : Nat) : hp (DD em mi ic) 151 1 = 2 := congrArg (fun x : MI => hd0 (x.2.2.1 1).1) (mq_151 em mi ic)
theorem hp151_2 (em mi ic : Nat) : hp (DD em mi ic) 151 2 = 51 := congrArg (fun x : MI => hd0 (x.2.2.1 2).1) (mq_151 em mi ic)
theorem hp151_3 (em mi ic : Nat) : hp (DD em mi ic) 151 3 = 57 := congrArg (fun x : MI => hd0 (x.2.2.1 3).1) (mq_151 em mi ic)
theorem mq_152 (em mi ic : Nat) : (DD em mi ic).1 152 = mt152 := rfl
theorem mb152 (em mi ic : Nat) : mBytes (DD em mi ic) 152 = cJ9_max_7cf53 := congrArg (fun x : MI => x.1.2.1) (mq_152 em mi ic)
theorem mo152 (em mi ic : Nat) : mOwn (DD em mi ic) 152 = "java/lang/Math" := congrArg (fun x : MI => x.1.1.cls) (mq_152 em mi ic)
theorem mn152 (em mi ic : Nat) : mName (DD em mi ic) 152 = yJ9_max_7cf53 := congrArg (fun x : MI => x.1.1) (mq_152 em mi ic)
theorem rt_152 (em mi ic : Nat) : mRet (DD em mi ic) 152 = some .int := congrArg (fun x : MI => x.1.2.2.2) (mq_152 em mi ic)
theorem ml_152 (em mi ic : Nat) : mMaxL (DD em mi ic) 152 = 2 := congrArg (fun x : MI => x.1.2.2.1) (mq_152 em mi ic)
theorem hh152 (em mi ic : Nat) : mHH (DD em mi ic) 152 = [] := congrArg (fun x : MI => x.2.2.2.2) (mq_152 em mi ic)
theorem hp152_0 (em mi ic : Nat) : hp (DD em mi ic) 152 0 = 0 := congrArg (fun x : MI => hd0 (x.2.2.1 0).1) (mq_152 em mi ic)
theorem hp152_1 (em mi ic : Nat) : hp (DD em mi ic) 152 1 = 9 := congrArg (fun x : MI => hd0 (x.2.2.1 1).1) (mq_152 em mi ic)
theorem hp152_2 (em mi ic : Nat) : hp (DD em mi ic) 152 2 = 10 := congrArg (fun x : MI => hd0 (x.2.2.1 2).1) (mq_152 em mi ic)
theorem mq_153 (em mi ic : Nat) : (DD em mi ic).1 153 = mt153 := rfl
theorem mb153 (em mi ic : Nat) : mBytes (DD em mi ic) 153 = cX6_init := congrArg (fun x : MI => x.1.2.1) (mq_153 em mi ic)
theorem mo153 (em mi ic : Nat) : mOwn (DD em mi ic) 153 = "Twelvehundred$Lot" := congrArg (fun x : MI => x.1.1.cls) (mq_153 em mi ic)
theorem mn153 (em mi ic : Nat) : mName (DD em mi ic) 153 = yX6_init := congrArg (fun x : MI => x.1.1) (mq_153 em mi ic)
theorem rt_153 (em mi ic : Nat) : mRet (DD em mi ic) 153 = none := congrArg (fun x : MI => x.1.2.2.2) (mq_153 em mi ic)
theorem ml_153 (em mi ic : Nat) : mMaxL (DD em mi ic) 153 = 3 := congrArg (fun x : MI => x.1.2.2.1) (mq_153 em mi ic)
theorem hh153 (em mi ic : Nat) : mHH (DD em mi ic) 153 = [] := congrArg (fun x : MI => x.2.2.2.2) (mq_153 em mi ic)
theorem hp153_0 (em mi ic : Nat) : hp (DD em mi ic) 153 0 = 0 := congrArg (fun x : MI => hd0 (x.2.2.1 0).1) (mq_153 em mi ic)
theorem mq_154 (em mi ic : Nat) : (DD em mi ic).1 154 = mt154 := rfl
theorem mb154 (em mi ic : Nat) : mBytes (DD em mi ic) 154 = cX4_handOut := congrArg (fun x : MI => x.1.2.1) (mq_154 em mi ic)
theorem mo154 (em mi ic : Nat) : mOwn (DD em mi ic) 154 = "Twelvehundred$Larder" := congrArg (fun x : MI => x.1.1.cls) (mq_154 em mi ic)
theorem mn154 (em mi ic : Nat) : mName (DD em mi ic) 154 = yX4_handOut := congrArg (fun x : MI => x.1.1) (mq_154 em mi ic)
theorem rt_154 (em mi ic : Nat) : mRet (DD em mi ic) 154 = some .int := congrArg (fun x : MI => x.1.2.2.2) (mq_154 em mi ic)
theorem ml_154 (em mi ic : Nat) : mMaxL (DD em mi ic) 154 = 6 := congrArg (fun x : MI => x.1.2.2.1) (mq_154 em mi ic)
theorem hh154 (em mi ic : Nat) : mHH (DD em mi ic) 154 = [] := congrArg (fun x : MI => x.2.2.2.2) (mq_154 em mi ic)
theorem hp154_0 (em mi ic : Nat) : hp (DD em mi ic) 154 0 = 0 := congrArg (fun x : MI => hd0 (x.2.2.1 0).1) (mq_154 em mi ic)
theorem hp154_1 (em mi ic : Nat) : hp (DD em mi ic) 154 1 = 4 := congrArg (fun x : MI => hd0 (x.2.2.1 1).1) (mq_154 em mi ic)
theorem hp154_2 (em mi ic : Nat) : hp (DD em mi ic) 154 2 = 54 := congrArg (fun x : MI => hd0 (x.2.2.1 2).1) (mq_154 em mi ic)
theorem hp154_3 (em mi ic : Nat) : hp (DD em mi ic) 154 3 = 60 := congrArg (fun x : MI => hd0 (x.2.2.1 3).1) (mq_154 em mi ic)
theorem mq_155 (em mi ic : Nat) : (DD em mi ic).1 155 = mt155 := rfl
theorem mb155 (em mi ic : Nat) : mBytes (DD em mi ic) 155 = cJx35411_init_45d68 := congrArg (fun x : MI => x.1.2.1) (mq_155 em mi ic)
theorem mo155 (em mi ic : Nat) : mOwn (DD em mi ic) 155 = "java/util/ArrayList$Itr" := congrArg (fun x : MI => x.1.1.cls) (mq_155 em mi ic)
theorem mn155 (em mi ic : Nat) : mName (DD em mi ic) 155 = yJx35411_init_45d68 := congrArg (fun x : MI => x.1.1) (mq_155 em mi ic)
theorem rt_155 (em mi ic : Nat) : mRet (DD em mi ic) 155 = none := congrArg (fun x : MI => x.1.2.2.2) (mq_155 em mi ic)
theorem ml_155 (em mi ic : Nat) : mMaxL (DD em mi ic) 155 = 2 := congrArg (fun x : MI => x.1.2.2.1) (mq_155 em mi ic)
theorem hh155 (em mi ic : Nat) : mHH (DD em mi ic) 155 = [] := congrArg (fun x : MI => x.2.2.2.2) (mq_155 em mi ic)
theorem hp155_0 (em mi ic : Nat) : hp (DD em mi ic) 155 0 = 0 := congrArg (fun x : MI => hd0 (x.2.2.1 0).1) (mq_155 em mi ic)
theorem mq_156 (em mi ic : Nat) : (DD em mi ic).1 156 = mt156 := rfl
theorem mb156 (em mi ic : Nat) : mBytes (DD em mi ic) 156 = cJx35411_checkForComodification_da8c8 := congrArg (fun x : MI => x.1.2.1) (mq_156 em mi ic)
theorem mo156 (em mi ic : Nat) : mOwn (DD em mi ic) 156 = "java/util/ArrayList$Itr" := congrArg (fun x : MI => x.1.1.cls) (mq_156 em mi ic)
theorem mn156 (em mi ic : Nat) : mName (DD em mi ic) 156 = yJx35411_checkForComodification_da8c8 := congrArg (fun x : MI => x.1.1) (mq_156 em mi ic)
theorem rt_156 (em mi ic : Nat) : mRet (DD em mi ic) 156 = none := congrArg (fun x : MI => x.1.2.2.2) (mq_156 em mi ic)
theorem ml_156 (em mi ic : Nat) : mMaxL (DD em mi ic) 156 = 1 := congrArg (fun x : MI => x.1.2.2.1) (mq_156 em mi ic)
theorem hh156 (em mi ic : Nat) : mHH (DD em mi ic) 156 = [] := congrArg (fun x : MI => x.2.2.2.2) (mq_156 em mi ic)
theorem hp156_0 (em mi ic : Nat) : hp (DD em mi ic) 156 0 = 0 := congrArg (fun x : MI => hd0 (x.2.2.1 0).1) (mq_156 em mi ic)
theorem hp156_1 (em mi ic : Nat) : hp (DD em mi ic) 156 1 = 22 := congrArg (fun x : MI => hd0 (x.2.2.1 1).1) (mq_156 em mi ic)
theorem mq_157 (em mi ic : Nat) : (DD em mi ic).1 157 = mt157 := rfl
theorem mb157 (em mi ic : Nat) : mBytes (DD em mi ic) 157 = cX1_isName := congrArg (fun x : MI => x.1.2.1) (mq_157 em mi ic)
theorem mo157 (em mi ic : Nat) : mOwn (DD em mi ic) 157 = "Twelvehundred$Bulletin" := congrArg (fun x : MI => x.1.1.cls) (mq_157 em mi ic)
theorem mn157 (em mi ic : Nat) : mName (DD em mi ic) 157 = yX1_isName := congrArg (fun x : MI => x.1.1) (mq_157 em mi ic)
theorem rt_157 (em mi ic : Nat) : mRet (DD em mi ic) 157 = some .boolean := congrArg (fun x : MI => x.1.2.2.2) (mq_157 em mi ic)
theorem ml_157 (em mi ic : Nat) : mMaxL (DD em mi ic) 157 = 3 := congrArg (fun x : MI => x.1.2.2.1) (mq_157 em mi ic)
theorem hh157 (em mi ic : Nat) : mHH (DD em mi ic) 157 = [] := congrArg (fun x : MI => x.2.2.2.2) (mq_157 em mi ic)
theorem hp157_0 (em mi ic : Nat) : hp (DD em mi ic) 157 0 = 0 := congrArg (fun x : MI => hd0 (x.2.2.1 0).1) (mq_157 em mi ic)
theorem hp157_1 (em mi ic : Nat) : hp (DD em mi ic) 157 1 = 11 := congrArg (fun x : MI => hd0 (x.2.2.1 1).1) (mq_157 em mi ic)
theorem hp157_2 (em mi ic : Nat) : hp (DD em mi ic) 157 2 = 13 := congrArg (fun x : MI => hd0 (x.2.2.1 2).1) (mq_157 em mi ic)
theorem hp157_3 (em mi ic : Nat) : hp (DD em mi ic) 157 3 = 17 := congrArg (fun x : MI => hd0 (x.2.2.1 3).1) (mq_157 em mi ic)
theorem hp157_4 (em mi ic : Nat) : hp (DD em mi ic) 157 4 = 35 := congrArg (fun x : MI => hd0 (x.2.2.1 4).1) (mq_157 em mi ic)
theorem hp157_5 (em mi ic : Nat) : hp (DD em mi ic) 157 5 = 46 := congrArg (fun x : MI => hd0 (x.2.2.1 5).1) (mq_157 em mi ic)
theorem mq_158 (em mi ic : Nat) : (DD em mi ic).1 158 = mt158 := rfl
theorem mb158 (em mi ic : Nat) : mBytes (DD em mi ic) 158 = cX5_init := congrArg (fun x : MI => x.1.2.1) (mq_158 em mi ic)
theorem mo158 (em mi ic : Nat) : mOwn (DD em mi ic) 158 = "Twelvehundred$Listed" := congrArg (fun x : MI => x.1.1.cls) (mq_158 em mi ic)
theorem mn158 (em mi ic : Nat) : mName (DD em mi ic) 158 = yX5_init := congrArg (fun x : MI => x.1.1) (mq_158 em mi ic)
theorem rt_158 (em mi ic : Nat) : mRet (DD em mi ic) 158 = none := congrArg (fun x : MI => x.1.2.2.2) (mq_158 em mi ic)
theorem ml_158 (em mi ic : Nat) : mMaxL (DD em mi ic) 158 = 2 := congrArg (fun x : MI => x.1.2.2.1) (mq_158 em mi ic)
theorem hh158 (em mi ic : Nat) : mHH (DD em mi ic) 158 = [] := congrArg (fun x : MI => x.2.2.2.2) (mq_158 em mi ic)
theorem hp158_0 (em mi ic : Nat) : hp (DD em mi ic) 158 0 = 0 := congrArg (fun x : MI => hd0 (x.2.2.1 0).1) (mq_158 em mi ic)
theorem mq_159 (em mi ic : Nat) : (DD em mi ic).1 159 = mt159 := rfl
theorem mb159 (em mi ic : Nat) : mBytes (DD em mi ic) 159 = cJ6_init_d00df := congrArg (fun x : MI => x.1.2.1) (mq_159 em mi ic)
theorem mo159 (em mi ic : Nat) : mOwn (DD em mi ic) 159 = "java/lang/Integer" := congrArg (fun x : MI => x.1.1.cls) (mq_159 em mi ic)
theorem mn159 (em mi ic : Nat) : mName (DD em mi ic) 159 = yJ6_init_d00df := congrArg (fun x : MI => x.1.1) (mq_159 em mi ic)
theorem rt_159 (em mi ic : Nat) : mRet (DD em mi ic) 159 = none := congrArg (fun x : MI => x.1.2.2.2) (mq_159 em mi ic)
theorem ml_159 (em mi ic : Nat) : mMaxL (DD em mi ic) 159 = 2 := congrArg (fun x : MI => x.1.2.2.1) (mq_159 em mi ic)
theorem hh159 (em mi ic : Nat) : mHH (DD em mi ic) 159 = [] := congrArg (fun x : MI => x.2.2.2.2) (mq_159 em mi ic)
theorem hp159_0 (em mi ic : Nat) : hp (DD em mi ic) 159 0 = 0 := congrArg (fun x : MI => hd0 (x.2.2.1 0).1) (mq_159 em mi ic)
theorem mq_160 (em mi ic : Nat) : (DD em mi ic).1 160 = mt160 := rfl
theorem mb160 (em mi ic : Nat) : mBytes (DD em mi ic) 160 = cJ6_lowestOneBit_0f7a4 := congrArg (fun x : MI => x.1.2.1) (mq_160 em mi ic)
theorem mo160 (em mi ic : Nat) : mOwn (DD em mi ic) 160 = "java/lang/Integer" := congrArg (fun x : MI => x.1.1.cls) (mq_160 em mi ic)
theorem mn160 (em mi ic : Nat) : mName (DD em mi ic) 160 = yJ6_lowestOneBit_0f7a4 := congrArg (fun x : MI => x.1.1) (mq_160 em mi ic)
theorem rt_160 (em mi ic : Nat) : mRet (DD em mi ic) 160 = some .int := congrArg (fun x : MI => x.1.2.2.2) (mq_160 em mi ic)
theorem ml_160 (em mi ic : Nat) : mMaxL (DD em mi ic) 160 = 1 := congrArg (fun x : MI => x.1.2.2.1) (mq_160 em mi ic)
theorem hh160 (em mi ic : Nat) : mHH (DD em mi ic) 160 = [] := congrArg (fun x : MI => x.2.2.2.2) (mq_160 em mi ic)
theorem hp160_0 (em mi ic : Nat) : hp (DD em mi ic) 160 0 = 0 := congrArg (fun x : MI => hd0 (x.2.2.1 0).1) (mq_160 em mi ic)
theorem mq_161 (em mi ic : Nat) : (DD em mi ic).1 161 = mt161 := rfl
theorem mb161 (em mi ic : Nat) : mBytes (DD em mi ic) 161 = cJ6_intValue_8abf5 := congrArg (fun x : MI => x.1.2.1) (mq_161 em mi ic)
theorem mo161 (em mi ic : Nat) : mOwn (DD em mi ic) 161 = "java/lang/Integer" := congrArg (fun x : MI => x.1.1.cls) (mq_161 em mi ic)
theorem mn161 (em mi ic : Nat) : mName (DD em mi ic) 161 = yJ6_intValue_8abf5 := congrArg (fun x : MI => x.1.1) (mq_161 em mi ic)
theorem rt_161 (em mi ic : Nat) : mRet (DD em mi ic) 161 = some .int := congrArg (fun x : MI => x.1.2.2.2) (mq_161 em mi ic)
theorem ml_161 (em mi ic : Nat) : mMaxL (DD em mi ic) 161 = 1 := congrArg (fun x : MI => x.1.2.2.1) (mq_161 em mi ic)
theorem hh161 (em mi ic : Nat) : mHH (DD em mi ic) 161 = [] := congrArg (fun x : MI => x.2.2.2.2) (mq_161 em mi ic)
theorem hp161_0 (em mi ic : Nat) : hp (DD em mi ic) 161 0 = 0 := congrArg (fun x : MI => hd0 (x.2.2.1 0).1) (mq_161 em mi ic)
theorem mq_162 (em mi ic : Nat) : (DD em mi ic).1 162 = mt162 := rfl
theorem mb162 (em mi ic : Nat) : mBytes (DD em mi ic) 162 = cX9_limitOf := congrArg (fun x : MI => x.1.2.1) (mq_162 em mi ic)
theorem mo162 (em mi ic : Nat) : mOwn (DD em mi ic) 162 = "Twelvehundred$River" := congrArg (fun x : MI => x.1.1.cls) (mq_162 em mi ic)
theorem mn162 (em mi ic : Nat) : mName (DD em mi ic) 162 = yX9_limitOf := congrArg (fun x : MI => x.1.1) (mq_162 em mi ic)
theorem rt_162 (em mi ic : Nat) : mRet (DD em mi ic) 162 = some .int := congrArg (fun x : MI => x.1.2.2.2) (mq_162 em mi ic)
theorem ml_162 (em mi ic : Nat) : mMaxL (DD em mi ic) 162 = 2 := congrArg (fun x : MI => x.1.2.2.1) (mq_162 em mi ic)
theorem hh162 (em mi ic : Nat) : mHH (DD em mi ic) 162 = [] := congrArg (fun x : MI => x.2.2.2.2) (mq_162 em mi ic)
theorem hp162_0 (em mi ic : Nat) : hp (DD em mi ic) 162 0 = 0 := congrArg (fun x : MI => hd0 (x.2.2.1 0).1) (mq_162 em mi ic)
theorem hp162_1 (em mi ic : Nat) : hp (DD em mi ic) 162 1 = 10 := congrArg (fun x : MI => hd0 (x.2.2.1 1).1) (mq_162 em mi ic)
theorem hp162_2 (em mi ic : Nat) : hp (DD em mi ic) 162 2 = 21 := congrArg (fun x : MI => hd0 (x.2.2.1 2).1) (mq_162 em mi ic)
theorem mq_163 (em mi ic : Nat) : (DD em mi ic).1 163 = mt163 := rfl
theorem mb163 (em mi ic : Nat) : mBytes (DD em mi ic) 163 = cX8_atHomeIn := congrArg (fun x : MI => x.1.2.1) (mq_163 em mi ic)
theorem mo163 (em mi ic : Nat) : mOwn (DD em mi ic) 163 = "Twelvehundred$Rescue" := congrArg (fun x : MI => x.1.1.cls) (mq_163 em mi ic)
theorem mn163 (em mi ic : Nat) : mName (DD em mi ic) 163 = yX8_atHomeIn := congrArg (fun x : MI => x.1.1) (mq_163 em mi ic)
theorem rt_163 (em mi ic : Nat) : mRet (DD em mi ic) 163 = some .int := congrArg (fun x : MI => x.1.2.2.2) (mq_163 em mi ic)
theorem ml_163 (em mi ic : Nat) : mMaxL (DD em mi ic) 163 = 5 := congrArg (fun x : MI => x.1.2.2.1) (mq_163 em mi ic)
theorem hh163 (em mi ic : Nat) : mHH (DD em mi ic) 163 = [] := congrArg (fun x : MI => x.2.2.2.2) (mq_163 em mi ic)
theorem hp163_0 (em mi ic : Nat) : hp (DD em mi ic) 163 0 = 0 := congrArg (fun x : MI => hd0 (x.2.2.1 0).1) (mq_163 em mi ic)
theorem hp163_1 (em mi ic : Nat) : hp (DD em mi ic) 163 1 = 4 := congrArg (fun x : MI => hd0 (x.2.2.1 1).1) (mq_163 em mi ic)
theorem hp163_2 (em mi ic : Nat) : hp (DD em mi ic) 163 2 = 50 := congrArg (fun x : MI => hd0 (x.2.2.1 2).1) (mq_163 em mi ic)
theorem hp163_3 (em mi ic : Nat) : hp (DD em mi ic) 163 3 = 51 := congrArg (fun x : MI => hd0 (x.2.2.1 3).1) (mq_163 em mi ic)
theorem hp163_4 (em mi ic : Nat) : hp (DD em mi ic) 163 4 = 62 := congrArg (fun x : MI => hd0 (x.2.2.1 4).1) (mq_163 em mi ic)
theorem mq_164 (em mi ic : Nat) : (DD em mi ic).1 164 = mt164 := rfl
theorem mb164 (em mi ic : Nat) : mBytes (DD em mi ic) 164 = cX14_limit := congrArg (fun x : MI => x.1.2.1) (mq_164 em mi ic)
theorem mo164 (em mi ic : Nat) : mOwn (DD em mi ic) 164 = "TwelvehundredModel" := congrArg (fun x : MI => x.1.1.cls) (mq_164 em mi ic)
theorem mn164 (em mi ic : Nat) : mName (DD em mi ic) 164 = yX14_limit := congrArg (fun x : MI => x.1.1) (mq_164 em mi ic)
theorem rt_164 (em mi ic : Nat) : mRet (DD em mi ic) 164 = some .int := congrArg (fun x : MI => x.1.2.2.2) (mq_164 em mi ic)
theorem ml_164 (em mi ic : Nat) : mMaxL (DD em mi ic) 164 = 3 := congrArg (fun x : MI => x.1.2.2.1) (mq_164 em mi ic)
theorem hh164 (em mi ic : Nat) : mHH (DD em mi ic) 164 = [] := congrArg (fun x : MI => x.2.2.2.2) (mq_164 em mi ic)
theorem hp164_0 (em mi ic : Nat) : hp (DD em mi ic) 164 0 = 0 := congrArg (fun x : MI => hd0 (x.2.2.1 0).1) (mq_164 em mi ic)
theorem hp164_1 (em mi ic : Nat) : hp (DD em mi ic) 164 1 = 27 := congrArg (fun x : MI => hd0 (x.2.2.1 1).1) (mq_164 em mi ic)
theorem hp164_2 (em mi ic : Nat) : hp (DD em mi ic) 164 2 = 40 := congrArg (fun x : MI => hd0 (x.2.2.1 2).1) (mq_164 em mi ic)
theorem hp164_3 (em mi ic : Nat) : hp (DD em mi ic) 164 3 = 53 := congrArg (fun x : MI => hd0 (x.2.2.1 3).1) (mq_164 em mi ic)
theorem mq_165 (em mi ic : Nat) : (DD em mi ic).1 165 = mt165 := rfl
theorem mb165 (em mi ic : Nat) : mBytes (DD em mi ic) 165 = cX14_homes := congrArg (fun x : MI => x.1.2.1) (mq_165 em mi ic)
theorem mo165 (em mi ic : Nat) : mOwn (DD em mi ic) 165 = "TwelvehundredModel" := congrArg (fun x : MI => x.1.1.cls) (mq_165 em mi ic)
theorem mn165 (em mi ic : Nat) : mName (DD em mi ic) 165 = yX14_homes := congrArg (fun x : MI => x.1.1) (mq_165 em mi ic)
theorem rt_165 (em mi ic : Nat) : mRet (DD em mi ic) 165 = some .int := congrArg (fun x : MI => x.1.2.2.2) (mq_165 em mi ic)
theorem ml_165 (em mi ic : Nat) : mMaxL (DD em mi ic) 165 = 6 := congrArg (fun x : MI => x.1.2.2.1) (mq_165 em mi ic)
theorem hh165 (em mi ic : Nat) : mHH (DD em mi ic) 165 = [] := congrArg (fun x : MI => x.2.2.2.2) (mq_165 em mi ic)
theorem hp165_0 (em mi ic : Nat) : hp (DD em mi ic) 165 0 = 0 := congrArg (fun x : MI => hd0 (x.2.2.1 0).1) (mq_165 em mi ic)
theorem hp165_1 (em mi ic : Nat) : hp (DD em mi ic) 165 1 = 11 := congrArg (fun x : MI => hd0 (x.2.2.1 1).1) (mq_165 em mi ic)
theorem hp165_2 (em mi ic : Nat) : hp (DD em mi ic) 165 2 = 57 := congrArg (fun x : MI => hd0 (x.2.2.1 2).1) (mq_165 em mi ic)
theorem hp165_3 (em mi ic : Nat) : hp (DD em mi ic) 165 3 = 61 := congrArg (fun x : MI => hd0 (x.2.2.1 3).1) (mq_165 em mi ic)
theorem hp165_4 (em mi ic : Nat) : hp (DD em mi ic) 165 4 = 62 := congrArg (fun x : MI => hd0 (x.2.2.1 4).1) (mq_165 em mi ic)
theorem hp165_5 (em mi ic : Nat) : hp (DD em mi ic) 165 5 = 67 := congrArg (fun x : MI => hd0 (x.2.2.1 5).1) (mq_165 em mi ic)
theorem mq_166 (em mi ic : Nat) : (DD em mi ic).1 166 = mt166 := rfl
theorem mb166 (em mi ic : Nat) : mBytes (DD em mi ic) 166 = cX7_hallOf := congrArg (fun x : MI => x.1.2.1) (mq_166 em mi ic)
theorem mo166 (em mi ic : Nat) : mOwn (DD em mi ic) 166 = "Twelvehundred$Placing" := congrArg (fun x : MI => x.1.1.cls) (mq_166 em mi ic)
theorem mn166 (em mi ic : Nat) : mName (DD em mi ic) 166 = yX7_hallOf := congrArg (fun x : MI => x.1.1) (mq_166 em mi ic)
theorem rt_166 (em mi ic : Nat) : mRet (DD em mi ic) 166 = some (.object "Twelvehundred$Hall") := congrArg (fun x : MI => x.1.2.2.2) (mq_166 em mi ic)
theorem ml_166 (em mi ic : Nat) : mMaxL (DD em mi ic) 166 = 2 := congrArg (fun x : MI => x.1.2.2.1) (mq_166 em mi ic)
theorem hh166 (em mi ic : Nat) : mHH (DD em mi ic) 166 = [] := congrArg (fun x : MI => x.2.2.2.2) (mq_166 em mi ic)
theorem hp166_0 (em mi ic : Nat) : hp (DD em mi ic) 166 0 = 0 := congrArg (fun x : MI => hd0 (x.2.2.1 0).1) (mq_166 em mi ic)
theorem hp166_1 (em mi ic : Nat) : hp (DD em mi ic) 166 1 = 31 := congrArg (fun x : MI => hd0 (x.2.2.1 1).1) (mq_166 em mi ic)
theorem hp166_2 (em mi ic : Nat) : hp (DD em mi ic) 166 2 = 32 := congrArg (fun x : MI => hd0 (x.2.2.1 2).1) (mq_166 em mi ic)
theorem mq_167 (em mi ic : Nat) : (DD em mi ic).1 167 = mt167 := rfl
theorem mb167 (em mi ic : Nat) : mBytes (DD em mi ic) 167 = cX11_hasMember := congrArg (fun x : MI => x.1.2.1) (mq_167 em mi ic)
theorem mo167 (em mi ic : Nat) : mOwn (DD em mi ic) 167 = "Twelvehundred" := congrArg (fun x : MI => x.1.1.cls) (mq_167 em mi ic)
theorem mn167 (em mi ic : Nat) : mName (DD em mi ic) 167 = yX11_hasMember := congrArg (fun x : MI => x.1.1) (mq_167 em mi ic)
theorem rt_167 (em mi ic : Nat) : mRet (DD em mi ic) 167 = some .boolean := congrArg (fun x : MI => x.1.2.2.2) (mq_167 em mi ic)
theorem ml_167 (em mi ic : Nat) : mMaxL (DD em mi ic) 167 = 2 := congrArg (fun x : MI => x.1.2.2.1) (mq_167 em mi ic)
theorem hh167 (em mi ic : Nat) : mHH (DD em mi ic) 167 = [] := congrArg (fun x : MI => x.2.2.2.2) (mq_167 em mi ic)
theorem hp167_0 (em mi ic : Nat) : hp (DD em mi ic) 167 0 = 0 := congrArg (fun x : MI => hd0 (x.2.2.1 0).1) (mq_167 em mi ic)
theorem hp167_1 (em mi ic : Nat) : hp (DD em mi ic) 167 1 = 13 := congrArg (fun x : MI => hd0 (x.2.2.1 1).1) (mq_167 em mi ic)
theorem hp167_2 (em mi ic : Nat) : hp (DD em mi ic) 167 2 = 14 := congrArg (fun x : MI => hd0 (x.2.2.1 2).1) (mq_167 em mi ic)
theorem mq_168 (em mi ic : Nat) : (DD em mi ic).1 168 = mt168 := rfl
theorem mb168 (em mi ic : Nat) : mBytes (DD em mi ic) 168 = cX14_placing := congrArg (fun x : MI => x.1.2.1) (mq_168 em mi ic)
theorem mo168 (em mi ic : Nat) : mOwn (DD em mi ic) 168 = "TwelvehundredModel" := congrArg (fun x : MI => x.1.1.cls) (mq_168 em mi ic)
theorem mn168 (em mi ic : Nat) : mName (DD em mi ic) 168 = yX14_placing := congrArg (fun x : MI => x.1.1) (mq_168 em mi ic)
theorem rt_168 (em mi ic : Nat) : mRet (DD em mi ic) 168 = some (.array .int) := congrArg (fun x : MI => x.1.2.2.2) (mq_168 em mi ic)
theorem ml_168 (em mi ic : Nat) : mMaxL (DD em mi ic) 168 = 6 := congrArg (fun x : MI => x.1.2.2.1) (mq_168 em mi ic)
theorem hh168 (em mi ic : Nat) : mHH (DD em mi ic) 168 = [] := congrArg (fun x : MI => x.2.2.2.2) (mq_168 em mi ic)
theorem hp168_0 (em mi ic : Nat) : hp (DD em mi ic) 168 0 = 0 := congrArg (fun x : MI => hd0 (x.2.2.1 0).1) (mq_168 em mi ic)
theorem hp168_1 (em mi ic : Nat) : hp (DD em mi ic) 168 1 = 22 := congrArg (fun x : MI => hd0 (x.2.2.1 1).1) (mq_168 em mi ic)
theorem hp168_2 (em mi ic : Nat) : hp (DD em mi ic) 168 2 = 50 := congrArg (fun x : MI => hd0 (x.2.2.1 2).1) (mq_168 em mi ic)
theorem hp168_3 (em mi ic : Nat) : hp (DD em mi ic) 168 3 = 52 := congrArg (fun x : MI => hd0 (x.2.2.1 3).1) (mq_168 em mi ic)
theorem hp168_4 (em mi ic : Nat) : hp (DD em mi ic) 168 4 = 68 := congrArg (fun x : MI => hd0 (x.2.2.1 4).1) (mq_168 em mi ic)
theorem hp168_5 (em mi ic : Nat) : hp (DD em mi ic) 168 5 = 73 := congrArg (fun x : MI => hd0 (x.2.2.1 5).1) (mq_168 em mi ic)
theorem hp168_6 (em mi ic : Nat) : hp (DD em mi ic) 168 6 = 83 := congrArg (fun x : MI => hd0 (x.2.2.1 6).1) (mq_168 em mi ic)
theorem hp168_7 (em mi ic : Nat) : hp (DD em mi ic) 168 7 = 116 := congrArg (fun x : MI => hd0 (x.2.2.1 7).1) (mq_168 em mi ic)
theorem hp168_8 (em mi ic : Nat) : hp (DD em mi ic) 168 8 = 120 := congrArg (fun x : MI => hd0 (x.2.2.1 8).1) (mq_168 em mi ic)
theorem hp168_9 (em mi ic : Nat) : hp (DD em mi ic) 168 9 = 126 := congrArg (fun x : MI => hd0 (x.2.2.1 9).1) (mq_168 em mi ic)
theorem hp168_10 (em mi ic : Nat) : hp (DD em mi ic) 168 10 = 138 := congrArg (fun x : MI => hd0 (x.2.2.1 10).1) (mq_168 em mi ic)
theorem hp168_11 (em mi ic : Nat) : hp (DD em mi ic) 168 11 = 173 := congrArg (fun x : MI => hd0 (x.2.2.1 11).1) (mq_168 em mi ic)
theorem hp168_12 (em mi ic : Nat) : hp (DD em mi ic) 168 12 = 179 := congrArg (fun x : MI => hd0 (x.2.2.1 12).1) (mq_168 em mi ic)
theorem hp168_13 (em mi ic : Nat) : hp (DD em mi ic) 168 13 = 197 := congrArg (fun x : MI => hd0 (x.2.2.1 13).1) (mq_168 em mi ic)
theorem hp168_14 (em mi ic : Nat) : hp (DD em mi ic) 168 14 = 200 := congrArg (fun x : MI => hd0 (x.2.2.1 14).1) (mq_168 em mi ic)
theorem mq_169 (em mi ic : Nat) : (DD em mi ic).1 169 = mt169 := rfl
theorem mb169 (em mi ic : Nat) : mBytes (DD em mi ic) 169 = cX7_guestsOf := congrArg (fun x : MI => x.1.2.1) (mq_169 em mi ic)
theorem mo169 (em mi ic : Nat) : mOwn (DD em mi ic) 169 = "Twelvehundred$Placing" := congrArg (fun x : MI => x.1.1.cls) (mq_169 em mi ic)
theorem mn169 (em mi ic : Nat) : mName (DD em mi ic) 169 = yX7_guestsOf := congrArg (fun x : MI => x.1.1) (mq_169 em mi ic)
theorem rt_169 (em mi ic : Nat) : mRet (DD em mi ic) 169 = some .int := congrArg (fun x : MI => x.1.2.2.2) (mq_169 em mi ic)
theorem ml_169 (em mi ic : Nat) : mMaxL (DD em mi ic) 169 = 4 := congrArg (fun x : MI => x.1.2.2.1) (mq_169 em mi ic)
theorem hh169 (em mi ic : Nat) : mHH (DD em mi ic) 169 = [] := congrArg (fun x : MI => x.2.2.2.2) (mq_169 em mi ic)
theorem hp169_0 (em mi ic : Nat) : hp (DD em mi ic) 169 0 = 0 := congrArg (fun x : MI => hd0 (x.2.2.1 0).1) (mq_169 em mi ic)
theorem hp169_1 (em mi ic : Nat) : hp (DD em mi ic) 169 1 = 4 := congrArg (fun x : MI => hd0 (x.2.2.1 1).1) (mq_169 em mi ic)
theorem hp169_2 (em mi ic : Nat) : hp (DD em mi ic) 169 2 = 29 := congrArg (fun x : MI => hd0 (x.2.2.1 2).1) (mq_169 em mi ic)
theorem hp169_3 (em mi ic : Nat) : hp (DD em mi ic) 169 3 = 35 := congrArg (fun x : MI => hd0 (x.2.2.1 3).1) (mq_169 em mi ic)
theorem mq_170 (em mi ic : Nat) : (DD em mi ic).1 170 = mt170 := rfl
theorem mb170 (em mi ic : Nat) : mBytes (DD em mi ic) 170 = cX14_having := congrArg (fun x : MI => x.1.2.1) (mq_170 em mi ic)
theorem mo170 (em mi ic : Nat) : mOwn (DD em mi ic) 170 = "TwelvehundredModel" := congrArg (fun x : MI => x.1.1.cls) (mq_170 em mi ic)
theorem mn170 (em mi ic : Nat) : mName (DD em mi ic) 170 = yX14_having := congrArg (fun x : MI => x.1.1) (mq_170 em mi ic)
theorem rt_170 (em mi ic : Nat) : mRet (DD em mi ic) 170 = some .int := congrArg (fun x : MI => x.1.2.2.2) (mq_170 em mi ic)
theorem ml_170 (em mi ic : Nat) : mMaxL (DD em mi ic) 170 = 5 := congrArg (fun x : MI => x.1.2.2.1) (mq_170 em mi ic)
theorem hh170 (em mi ic : Nat) : mHH (DD em mi ic) 170 = [] := congrArg (fun x : MI => x.2.2.2.2) (mq_170 em mi ic)
theorem hp170_0 (em mi ic : Nat) : hp (DD em mi ic) 170 0 = 0 := congrArg (fun x : MI => hd0 (x.2.2.1 0).1) (mq_170 em mi ic)
theorem hp170_1 (em mi ic : Nat) : hp (DD em mi ic) 170 1 = 5 := congrArg (fun x : MI => hd0 (x.2.2.1 1).1) (mq_170 em mi ic)
theorem hp170_2 (em mi ic : Nat) : hp (DD em mi ic) 170 2 = 28 := congrArg (fun x : MI => hd0 (x.2.2.1 2).1) (mq_170 em mi ic)
theorem hp170_3 (em mi ic : Nat) : hp (DD em mi ic) 170 3 = 29 := congrArg (fun x : MI => hd0 (x.2.2.1 3).1) (mq_170 em mi ic)
theorem hp170_4 (em mi ic : Nat) : hp (DD em mi ic) 170 4 = 37 := congrArg (fun x : MI => hd0 (x.2.2.1 4).1) (mq_170 em mi ic)
theorem mq_171 (em mi ic : Nat) : (DD em mi ic).1 171 = mt171 := rfl
theorem mb171 (em mi ic : Nat) : mBytes (DD em mi ic) 171 = cX8_countOf := congrArg (fun x : MI => x.1.2.1) (mq_171 em mi ic)
theorem mo171 (em mi ic : Nat) : mOwn (DD em mi ic) 171 = "Twelvehundred$Rescue" := congrArg (fun x : MI => x.1.1.cls) (mq_171 em mi ic)
theorem mn171 (em mi ic : Nat) : mName (DD em mi ic) 171 = yX8_countOf := congrArg (fun x : MI => x.1.1) (mq_171 em mi ic)
theorem rt_171 (em mi ic : Nat) : mRet (DD em mi ic) 171 = some .int := congrArg (fun x : MI => x.1.2.2.2) (mq_171 em mi ic)
theorem ml_171 (em mi ic : Nat) : mMaxL (DD em mi ic) 171 = 4 := congrArg (fun x : MI => x.1.2.2.1) (mq_171 em mi ic)
theorem hh171 (em mi ic : Nat) : mHH (DD em mi ic) 171 = [] := congrArg (fun x : MI => x.2.2.2.2) (mq_171 em mi ic)
theorem hp171_0 (em mi ic : Nat) : hp (DD em mi ic) 171 0 = 0 := congrArg (fun x : MI => hd0 (x.2.2.1 0).1) (mq_171 em mi ic)
theorem hp171_1 (em mi ic : Nat) : hp (DD em mi ic) 171 1 = 4 := congrArg (fun x : MI => hd0 (x.2.2.1 1).1) (mq_171 em mi ic)
theorem hp171_2 (em mi ic : Nat) : hp (DD em mi ic) 171 2 = 38 := congrArg (fun x : MI => hd0 (x.2.2.1 2).1) (mq_171 em mi ic)
theorem hp171_3 (em mi ic : Nat) : hp (DD em mi ic) 171 3 = 39 := congrArg (fun x : MI => hd0 (x.2.2.1 3).1) (mq_171 em mi ic)
theorem hp171_4 (em mi ic : Nat) : hp (DD em mi ic) 171 4 = 50 := congrArg (fun x : MI => hd0 (x.2.2.1 4).1) (mq_171 em mi ic)
theorem mq_172 (em mi ic : Nat) : (DD em mi ic).1 172 = mt172 := rfl
theorem mb172 (em mi ic : Nat) : mBytes (DD em mi ic) 172 = cX4_lastingAt := congrArg (fun x : MI => x.1.2.1) (mq_172 em mi ic)
theorem mo172 (em mi ic : Nat) : mOwn (DD em mi ic) 172 = "Twelvehundred$Larder" := congrArg (fun x : MI => x.1.1.cls) (mq_172 em mi ic)
theorem mn172 (em mi ic : Nat) : mName (DD em mi ic) 172 = yX4_lastingAt := congrArg (fun x : MI => x.1.1) (mq_172 em mi ic)
theorem rt_172 (em mi ic : Nat) : mRet (DD em mi ic) 172 = some .int := congrArg (fun x : MI => x.1.2.2.2) (mq_172 em mi ic)
theorem ml_172 (em mi ic : Nat) : mMaxL (DD em mi ic) 172 = 5 := congrArg (fun x : MI => x.1.2.2.1) (mq_172 em mi ic)
theorem hh172 (em mi ic : Nat) : mHH (DD em mi ic) 172 = [] := congrArg (fun x : MI => x.2.2.2.2) (mq_172 em mi ic)
theorem hp172_0 (em mi ic : Nat) : hp (DD em mi ic) 172 0 = 0 := congrArg (fun x : MI => hd0 (x.2.2.1 0).1) (mq_172 em mi ic)
theorem hp172_1 (em mi ic : Nat) : hp (DD em mi ic) 172 1 = 4 := congrArg (fun x : MI => hd0 (x.2.2.1 1).1) (mq_172 em mi ic)
theorem hp172_2 (em mi ic : Nat) : hp (DD em mi ic) 172 2 = 45 := congrArg (fun x : MI => hd0 (x.2.2.1 2).1) (mq_172 em mi ic)
theorem hp172_3 (em mi ic : Nat) : hp (DD em mi ic) 172 3 = 51 := congrArg (fun x : MI => hd0 (x.2.2.1 3).1) (mq_172 em mi ic)
theorem mq_173 (em mi ic : Nat) : (DD em mi ic).1 173 = mt173 := rfl
theorem mb173 (em mi ic : Nat) : mBytes (DD em mi ic) 173 = cX14_asked := congrArg (fun x : MI => x.1.2.1) (mq_173 em mi ic)
theorem mo173 (em mi ic : Nat) : mOwn (DD em mi ic) 173 = "TwelvehundredModel" := congrArg (fun x : MI => x.1.1.cls) (mq_173 em mi ic)
theorem mn173 (em mi ic : Nat) : mName (DD em mi ic) 173 = yX14_asked := congrArg (fun x : MI => x.1.1) (mq_173 em mi ic)
theorem rt_173 (em mi ic : Nat) : mRet (DD em mi ic) 173 = some .int := congrArg (fun x : MI => x.1.2.2.2) (mq_173 em mi ic)
theorem ml_173 (em mi ic : Nat) : mMaxL (DD em mi ic) 173 = 6 := congrArg (fun x : MI => x.1.2.2.1) (mq_173 em mi ic)
theorem hh173 (em mi ic : Nat) : mHH (DD em mi ic) 173 = [] := congrArg (fun x : MI => x.2.2.2.2) (mq_173 em mi ic)
theorem hp173_0 (em mi ic : Nat) : hp (DD em mi ic) 173 0 = 0 := congrArg (fun x : MI => hd0 (x.2.2.1 0).1) (mq_173 em mi ic)
theorem hp173_1 (em mi ic : Nat) : hp (DD em mi ic) 173 1 = 10 := congrArg (fun x : MI => hd0 (x.2.2.1 1).1) (mq_173 em mi ic)
theorem hp173_2 (em mi ic : Nat) : hp (DD em mi ic) 173 2 = 20 := congrArg (fun x : MI => hd0 (x.2.2.1 2).1) (mq_173 em mi ic)
theorem hp173_3 (em mi ic : Nat) : hp (DD em mi ic) 173 3 = 66 := congrArg (fun x : MI => hd0 (x.2.2.1 3).1) (mq_173 em mi ic)
theorem hp173_4 (em mi ic : Nat) : hp (DD em mi ic) 173 4 = 70 := congrArg (fun x : MI => hd0 (x.2.2.1 4).1) (mq_173 em mi ic)
theorem hp173_5 (em mi ic : Nat) : hp (DD em mi ic) 173 5 = 71 := congrArg (fun x : MI => hd0 (x.2.2.1 5).1) (mq_173 em mi ic)
theorem hp173_6 (em mi ic : Nat) : hp (DD em mi ic) 173 6 = 79 := congrArg (fun x : MI => hd0 (x.2.2.1 6).1) (mq_173 em mi ic)
theorem hp173_7 (em mi ic : Nat) : hp (DD em mi ic) 173 7 = 85 := congrArg (fun x : MI => hd0 (x.2.2.1 7).1) (mq_173 em mi ic)
theorem mq_174 (em mi ic : Nat) : (DD em mi ic).1 174 = mt174 := rfl
theorem mb174 (em mi ic : Nat) : mBytes (DD em mi ic) 174 = cX14_mealsLeft := congrArg (fun x : MI => x.1.2.1) (mq_174 em mi ic)
theorem mo174 (em mi ic : Nat) : mOwn (DD em mi ic) 174 = "TwelvehundredModel" := congrArg (fun x : MI => x.1.1.cls) (mq_174 em mi ic)
theorem mn174 (em mi ic : Nat) : mName (DD em mi ic) 174 = yX14_mealsLeft := congrArg (fun x : MI => x.1.1) (mq_174 em mi ic)
theorem rt_174 (em mi ic : Nat) : mRet (DD em mi ic) 174 = some .int := congrArg (fun x : MI => x.1.2.2.2) (mq_174 em mi ic)
theorem ml_174 (em mi ic : Nat) : mMaxL (DD em mi ic) 174 = 4 := congrArg (fun x : MI => x.1.2.2.1) (mq_174 em mi ic)
theorem hh174 (em mi ic : Nat) : mHH (DD em mi ic) 174 = [] := congrArg (fun x : MI => x.2.2.2.2) (mq_174 em mi ic)
theorem hp174_0 (em mi ic : Nat) : hp (DD em mi ic) 174 0 = 0 := congrArg (fun x : MI => hd0 (x.2.2.1 0).1) (mq_174 em mi ic)
theorem hp174_1 (em mi ic : Nat) : hp (DD em mi ic) 174 1 = 10 := congrArg (fun x : MI => hd0 (x.2.2.1 1).1) (mq_174 em mi ic)
theorem hp174_2 (em mi ic : Nat) : hp (DD em mi ic) 174 2 = 38 := congrArg (fun x : MI => hd0 (x.2.2.1 2).1) (mq_174 em mi ic)
theorem mq_175 (em mi ic : Nat) : (DD em mi ic).1 175 = mt175 := rfl
theorem mb175 (em mi ic : Nat) : mBytes (DD em mi ic) 175 = cJ5_init_d00df := congrArg (fun x : MI => x.1.2.1) (mq_175 em mi ic)
theorem mo175 (em mi ic : Nat) : mOwn (DD em mi ic) 175 = "java/lang/AbstractStringBuilder" := congrArg (fun x : MI => x.1.1.cls) (mq_175 em mi ic)
theorem mn175 (em mi ic : Nat) : mName (DD em mi ic) 175 = yJ5_init_d00df := congrArg (fun x : MI => x.1.1) (mq_175 em mi ic)
theorem rt_175 (em mi ic : Nat) : mRet (DD em mi ic) 175 = none := congrArg (fun x : MI => x.1.2.2.2) (mq_175 em mi ic)
theorem ml_175 (em mi ic : Nat) : mMaxL (DD em mi ic) 175 = 2 := congrArg (fun x : MI => x.1.2.2.1) (mq_175 em mi ic)
theorem hh175 (em mi ic : Nat) : mHH (DD em mi ic) 175 = [] := congrArg (fun x : MI => x.2.2.2.2) (mq_175 em mi ic)
theorem hp175_0 (em mi ic : Nat) : hp (DD em mi ic) 175 0 = 0 := congrArg (fun x : MI => hd0 (x.2.2.1 0).1) (mq_175 em mi ic)
theorem hp175_1 (em mi ic : Nat) : hp (DD em mi ic) 175 1 = 25 := congrArg (fun x : MI => hd0 (x.2.2.1 1).1) (mq_175 em mi ic)
theorem hp175_2 (em mi ic : Nat) : hp (DD em mi ic) 175 2 = 38 := congrArg (fun x : MI => hd0 (x.2.2.1 2).1) (mq_175 em mi ic)
theorem mq_176 (em mi ic : Nat) : (DD em mi ic).1 176 = mt176 := rfl
theorem mb176 (em mi ic : Nat) : mBytes (DD em mi ic) 176 = cJ5_append_3fe6f := congrArg (fun x : MI => x.1.2.1) (mq_176 em mi ic)
theorem mo176 (em mi ic : Nat) : mOwn (DD em mi ic) 176 = "java/lang/AbstractStringBuilder" := congrArg (fun x : MI => x.1.1.cls) (mq_176 em mi ic)
theorem mn176 (em mi ic : Nat) : mName (DD em mi ic) 176 = yJ5_append_3fe6f := congrArg (fun x : MI => x.1.1) (mq_176 em mi ic)
theorem rt_176 (em mi ic : Nat) : mRet (DD em mi ic) 176 = some (.object "java/lang/AbstractStringBuilder") := congrArg (fun x : MI => x.1.2.2.2) (mq_176 em mi ic)
theorem ml_176 (em mi ic : Nat) : mMaxL (DD em mi ic) 176 = 2 := congrArg (fun x : MI => x.1.2.2.1) (mq_176 em mi ic)
theorem hh176 (em mi ic : Nat) : mHH (DD em mi ic) 176 = [] := congrArg (fun x : MI => x.2.2.2.2) (mq_176 em mi ic)
theorem hp176_0 (em mi ic : Nat) : hp (DD em mi ic) 176 0 = 0 := congrArg (fun x : MI => hd0 (x.2.2.1 0).1) (mq_176 em mi ic)
theorem hp176_1 (em mi ic : Nat) : hp (DD em mi ic) 176 1 = 45 := congrArg (fun x : MI => hd0 (x.2.2.1 1).1) (mq_176 em mi ic)
theorem hp176_2 (em mi ic : Nat) : hp (DD em mi ic) 176 2 = 56 := congrArg (fun x : MI => hd0 (x.2.2.1 2).1) (mq_176 em mi ic)
theorem hp176_3 (em mi ic : Nat) : hp (DD em mi ic) 176 3 = 75 := congrArg (fun x : MI => hd0 (x.2.2.1 3).1) (mq_176 em mi ic)
theorem mq_177 (em mi ic : Nat) : (DD em mi ic).1 177 = mt177 := rfl
theorem mb177 (em mi ic : Nat) : mBytes (DD em mi ic) 177 = cJ0_init_81219 := congrArg (fun x : MI => x.1.2.1) (mq_177 em mi ic)
theorem mo177 (em mi ic : Nat) : mOwn (DD em mi ic) 177 = "java/lang/String" := congrArg (fun x : MI => x.1.1.cls) (mq_177 em mi ic)
theorem mn177 (em mi ic : Nat) : mName (DD em mi ic) 177 = yJ0_init_81219 := congrArg (fun x : MI => x.1.1) (mq_177 em mi ic)
theorem rt_177 (em mi ic : Nat) : mRet (DD em mi ic) 177 = none := congrArg (fun x : MI => x.1.2.2.2) (mq_177 em mi ic)
theorem ml_177 (em mi ic : Nat) : mMaxL (DD em mi ic) 177 = 2 := congrArg (fun x : MI => x.1.2.2.1) (mq_177 em mi ic)
theorem hh177 (em mi ic : Nat) : mHH (DD em mi ic) 177 = [] := congrArg (fun x : MI => x.2.2.2.2) (mq_177 em mi ic)
theorem hp177_0 (em mi ic : Nat) : hp (DD em mi ic) 177 0 = 0 := congrArg (fun x : MI => hd0 (x.2.2.1 0).1) (mq_177 em mi ic)
theorem mq_178 (em mi ic : Nat) : (DD em mi ic).1 178 = mt178 := rfl
theorem mb178 (em mi ic : Nat) : mBytes (DD em mi ic) 178 = cX8_canReach := congrArg (fun x : MI => x.1.2.1) (mq_178 em mi ic)
theorem mo178 (em mi ic : Nat) : mOwn (DD em mi ic) 178 = "Twelvehundred$Rescue" := congrArg (fun x : MI => x.1.1.cls) (mq_178 em mi ic)
theorem mn178 (em mi ic : Nat) : mName (DD em mi ic) 178 = yX8_canReach := congrArg (fun x : MI => x.1.1) (mq_178 em mi ic)
theorem rt_178 (em mi ic : Nat) : mRet (DD em mi ic) 178 = some .boolean := congrArg (fun x : MI => x.1.2.2.2) (mq_178 em mi ic)
theorem ml_178 (em mi ic : Nat) : mMaxL (DD em mi ic) 178 = 3 := congrArg (fun x : MI => x.1.2.2.1) (mq_178 em mi ic)
theorem hh178 (em mi ic : Nat) : mHH (DD em mi ic) 178 = [] := congrArg (fun x : MI => x.2.2.2.2) (mq_178 em mi ic)
theorem hp178_0 (em mi ic : Nat) : hp (DD em mi ic) 178 0 = 0 := congrArg (fun x : MI => hd0 (x.2.2.1 0).1) (mq_178 em mi ic)
theorem hp178_1 (em mi ic : Nat) : hp (DD em mi ic) 178 1 = 2 := congrArg (fun x : MI => hd0 (x.2.2.1 1).1) (mq_178 em mi ic)
theorem hp178_2 (em mi ic : Nat) : hp (DD em mi ic) 178 2 = 42 := congrArg (fun x : MI => hd0 (x.2.2.1 2).1) (mq_178 em mi ic)
theorem hp178_3 (em mi ic : Nat) : hp (DD em mi ic) 178 3 = 48 := congrArg (fun x : MI => hd0 (x.2.2.1 3).1) (mq_178 em mi ic)
theorem mq_179 (em mi ic : Nat) : (DD em mi ic).1 179 = mt179 := rfl
theorem mb179 (em mi ic : Nat) : mBytes (DD em mi ic) 179 = cX7_put := congrArg (fun x : MI => x.1.2.1) (mq_179 em mi ic)
theorem mo179 (em mi ic : Nat) : mOwn (DD em mi ic) 179 = "Twelvehundred$Placing" := congrArg (fun x : MI => x.1.1.cls) (mq_179 em mi ic)
theorem mn179 (em mi ic : Nat) : mName (DD em mi ic) 179 = yX7_put := congrArg (fun x : MI => x.1.1) (mq_179 em mi ic)
theorem rt_179 (em mi ic : Nat) : mRet (DD em mi ic) 179 = none := congrArg (fun x : MI => x.1.2.2.2) (mq_179 em mi ic)
theorem ml_179 (em mi ic : Nat) : mMaxL (DD em mi ic) 179 = 3 := congrArg (fun x : MI => x.1.2.2.1) (mq_179 em mi ic)
theorem hh179 (em mi ic : Nat) : mHH (DD em mi ic) 179 = [] := congrArg (fun x : MI => x.2.2.2.2) (mq_179 em mi ic)
theorem hp179_0 (em mi ic : Nat) : hp (DD em mi ic) 179 0 = 0 := congrArg (fun x : MI => hd0 (x.2.2.1 0).1) (mq_179 em mi ic)
theorem hp179_1 (em mi ic : Nat) : hp (DD em mi ic) 179 1 = 29 := congrArg (fun x : MI => hd0 (x.2.2.1 1).1) (mq_179 em mi ic)
theorem mq_180 (em mi ic : Nat) : (DD em mi ic).1 180 = mt180 := rfl
theorem mb180 (em mi ic : Nat) : mBytes (DD em mi ic) 180 = cJ6_bitCount_0f7a4 := congrArg (fun x : MI => x.1.2.1) (mq_180 em mi ic)
theorem mo180 (em mi ic : Nat) : mOwn (DD em mi ic) 180 = "java/lang/Integer" := congrArg (fun x : MI => x.1.1.cls) (mq_180 em mi ic)
theorem mn180 (em mi ic : Nat) : mName (DD em mi ic) 180 = yJ6_bitCount_0f7a4 := congrArg (fun x : MI => x.1.1) (mq_180 em mi ic)
theorem rt_180 (em mi ic : Nat) : mRet (DD em mi ic) 180 = some .int := congrArg (fun x : MI => x.1.2.2.2) (mq_180 em mi ic)
theorem ml_180 (em mi ic : Nat) : mMaxL (DD em mi ic) 180 = 1 := congrArg (fun x : MI => x.1.2.2.1) (mq_180 em mi ic)
theorem hh180 (em mi ic : Nat) : mHH (DD em mi ic) 180 = [] := congrArg (fun x : MI => x.2.2.2.2) (mq_180 em mi ic)
theorem hp180_0 (em mi ic : Nat) : hp (DD em mi ic) 180 0 = 0 := congrArg (fun x : MI => hd0 (x.2.2.1 0).1) (mq_180 em mi ic)
theorem mq_181 (em mi ic : Nat) : (DD em mi ic).1 181 = mt181 := rfl
theorem mb181 (em mi ic : Nat) : mBytes (DD em mi ic) 181 = cX7_hasEnvyUpTo := congrArg (fun x : MI => x.1.2.1) (mq_181 em mi ic)
theorem mo181 (em mi ic : Nat) : mOwn (DD em mi ic) 181 = "Twelvehundred$Placing" := congrArg (fun x : MI => x.1.1.cls) (mq_181 em mi ic)
theorem mn181 (em mi ic : Nat) : mName (DD em mi ic) 181 = yX7_hasEnvyUpTo := congrArg (fun x : MI => x.1.1) (mq_181 em mi ic)
theorem rt_181 (em mi ic : Nat) : mRet (DD em mi ic) 181 = some .boolean := congrArg (fun x : MI => x.1.2.2.2) (mq_181 em mi ic)
theorem ml_181 (em mi ic : Nat) : mMaxL (DD em mi ic) 181 = 5 := congrArg (fun x : MI => x.1.2.2.1) (mq_181 em mi ic)
theorem hh181 (em mi ic : Nat) : mHH (DD em mi ic) 181 = [] := congrArg (fun x : MI => x.2.2.2.2) (mq_181 em mi ic)
theorem hp181_0 (em mi ic : Nat) : hp (DD em mi ic) 181 0 = 0 := congrArg (fun x : MI => hd0 (x.2.2.1 0).1) (mq_181 em mi ic)
theorem hp181_1 (em mi ic : Nat) : hp (DD em mi ic) 181 1 = 15 := congrArg (fun x : MI => hd0 (x.2.2.1 1).1) (mq_181 em mi ic)
theorem hp181_2 (em mi ic : Nat) : hp (DD em mi ic) 181 2 = 17 := congrArg (fun x : MI => hd0 (x.2.2.1 2).1) (mq_181 em mi ic)
theorem hp181_3 (em mi ic : Nat) : hp (DD em mi ic) 181 3 = 31 := congrArg (fun x : MI => hd0 (x.2.2.1 3).1) (mq_181 em mi ic)
theorem hp181_4 (em mi ic : Nat) : hp (DD em mi ic) 181 4 = 78 := congrArg (fun x : MI => hd0 (x.2.2.1 4).1) (mq_181 em mi ic)
theorem hp181_5 (em mi ic : Nat) : hp (DD em mi ic) 181 5 = 80 := congrArg (fun x : MI => hd0 (x.2.2.1 5).1) (mq_181 em mi ic)
theorem hp181_6 (em mi ic : Nat) : hp (DD em mi ic) 181 6 = 86 := congrArg (fun x : MI => hd0 (x.2.2.1 6).1) (mq_181 em mi ic)
theorem mq_182 (em mi ic : Nat) : (DD em mi ic).1 182 = mt182 := rfl
theorem mb182 (em mi ic : Nat) : mBytes (DD em mi ic) 182 = cX7_wantsEmptyRoom := congrArg (fun x : MI => x.1.2.1) (mq_182 em mi ic)
theorem mo182 (em mi ic : Nat) : mOwn (DD em mi ic) 182 = "Twelvehundred$Placing" := congrArg (fun x : MI => x.1.1.cls) (mq_182 em mi ic)
theorem mn182 (em mi ic : Nat) : mName (DD em mi ic) 182 = yX7_wantsEmptyRoom := congrArg (fun x : MI => x.1.1) (mq_182 em mi ic)
theorem rt_182 (em mi ic : Nat) : mRet (DD em mi ic) 182 = some .boolean := congrArg (fun x : MI => x.1.2.2.2) (mq_182 em mi ic)
theorem ml_182 (em mi ic : Nat) : mMaxL (DD em mi ic) 182 = 4 := congrArg (fun x : MI => x.1.2.2.1) (mq_182 em mi ic)
theorem hh182 (em mi ic : Nat) : mHH (DD em mi ic) 182 = [] := congrArg (fun x : MI => x.2.2.2.2) (mq_182 em mi ic)
theorem hp182_0 (em mi ic : Nat) : hp (DD em mi ic) 182 0 = 0 := congrArg (fun x : MI => hd0 (x.2.2.1 0).1) (mq_182 em mi ic)
theorem hp182_1 (em mi ic : Nat) : hp (DD em mi ic) 182 1 = 2 := congrArg (fun x : MI => hd0 (x.2.2.1 1).1) (mq_182 em mi ic)
theorem hp182_2 (em mi ic : Nat) : hp (DD em mi ic) 182 2 = 48 := congrArg (fun x : MI => hd0 (x.2.2.1 2).1) (mq_182 em mi ic)
theorem hp182_3 (em mi ic : Nat) : hp (DD em mi ic) 182 3 = 54 := congrArg (fun x : MI => hd0 (x.2.2.1 3).1) (mq_182 em mi ic)
theorem mq_183 (em mi ic : Nat) : (DD em mi ic).1 183 = mt183 := rfl
theorem mb183 (em mi ic : Nat) : mBytes (DD em mi ic) 183 = cX14_ratherHas := congrArg (fun x : MI => x.1.2.1) (mq_183 em mi ic)
theorem mo183 (em mi ic : Nat) : mOwn (DD em mi ic) 183 = "TwelvehundredModel" := congrArg (fun x : MI => x.1.1.cls) (mq_183 em mi ic)
theorem mn183 (em mi ic : Nat) : mName (DD em mi ic) 183 = yX14_ratherHas := congrArg (fun x : MI => x.1.1) (mq_183 em mi ic)
theorem rt_183 (em mi ic : Nat) : mRet (DD em mi ic) 183 = some .boolean := congrArg (fun x : MI => x.1.2.2.2) (mq_183 em mi ic)
theorem ml_183 (em mi ic : Nat) : mMaxL (DD em mi ic) 183 = 5 := congrArg (fun x : MI => x.1.2.2.1) (mq_183 em mi ic)
theorem hh183 (em mi ic : Nat) : mHH (DD em mi ic) 183 = [] := congrArg (fun x : MI => x.2.2.2.2) (mq_183 em mi ic)
theorem hp183_0 (em mi ic : Nat) : hp (DD em mi ic) 183 0 = 0 := congrArg (fun x : MI => hd0 (x.2.2.1 0).1) (mq_183 em mi ic)
theorem hp183_1 (em mi ic : Nat) : hp (DD em mi ic) 183 1 = 10 := congrArg (fun x : MI => hd0 (x.2.2.1 1).1) (mq_183 em mi ic)
theorem hp183_2 (em mi ic : Nat) : hp (DD em mi ic) 183 2 = 19 := congrArg (fun x : MI => hd0 (x.2.2.1 2).1) (mq_183 em mi ic)
theorem hp183_3 (em mi ic : Nat) : hp (DD em mi ic) 183 3 = 20 := congrArg (fun x : MI => hd0 (x.2.2.1 3).1) (mq_183 em mi ic)
theorem hp183_4 (em mi ic : Nat) : hp (DD em mi ic) 183 4 = 21 := congrArg (fun x : MI => hd0 (x.2.2.1 4).1) (mq_183 em mi ic)
theorem hp183_5 (em mi ic : Nat) : hp (DD em mi ic) 183 5 = 51 := congrArg (fun x : MI => hd0 (x.2.2.1 5).1) (mq_183 em mi ic)
theorem hp183_6 (em mi ic : Nat) : hp (DD em mi ic) 183 6 = 55 := congrArg (fun x : MI => hd0 (x.2.2.1 6).1) (mq_183 em mi ic)
theorem hp183_7 (em mi ic : Nat) : hp (DD em mi ic) 183 7 = 56 := congrArg (fun x : MI => hd0 (x.2.2.1 7).1) (mq_183 em mi ic)
theorem mq_184 (em mi ic : Nat) : (DD em mi ic).1 184 = mt184 := rfl
theorem mb184 (em mi ic : Nat) : mBytes (DD em mi ic) 184 = cX14_isBetterLiked := congrArg (fun x : MI => x.1.2.1) (mq_184 em mi ic)
theorem mo184 (em mi ic : Nat) : mOwn (DD em mi ic) 184 = "TwelvehundredModel" := congrArg (fun x : MI => x.1.1.cls) (mq_184 em mi ic)
theorem mn184 (em mi ic : Nat) : mName (DD em mi ic) 184 = yX14_isBetterLiked := congrArg (fun x : MI => x.1.1) (mq_184 em mi ic)
theorem rt_184 (em mi ic : Nat) : mRet (DD em mi ic) 184 = some .boolean := congrArg (fun x : MI => x.1.2.2.2) (mq_184 em mi ic)
theorem ml_184 (em mi ic : Nat) : mMaxL (DD em mi ic) 184 = 5 := congrArg (fun x : MI => x.1.2.2.1) (mq_184 em mi ic)
theorem hh184 (em mi ic : Nat) : mHH (DD em mi ic) 184 = [] := congrArg (fun x : MI => x.2.2.2.2) (mq_184 em mi ic)
theorem hp184_0 (em mi ic : Nat) : hp (DD em mi ic) 184 0 = 0 := congrArg (fun x : MI => hd0 (x.2.2.1 0).1) (mq_184 em mi ic)
theorem hp184_1 (em mi ic : Nat) : hp (DD em mi ic) 184 1 = 42 := congrArg (fun x : MI => hd0 (x.2.2.1 1).1) (mq_184 em mi ic)
theorem hp184_2 (em mi ic : Nat) : hp (DD em mi ic) 184 2 = 71 := congrArg (fun x : MI => hd0 (x.2.2.1 2).1) (mq_184 em mi ic)
theorem hp184_3 (em mi ic : Nat) : hp (DD em mi ic) 184 3 = 75 := congrArg (fun x : MI => hd0 (x.2.2.1 3).1) (mq_184 em mi ic)
theorem hp184_4 (em mi ic : Nat) : hp (DD em mi ic) 184 4 = 76 := congrArg (fun x : MI => hd0 (x.2.2.1 4).1) (mq_184 em mi ic)
theorem mq_185 (em mi ic : Nat) : (DD em mi ic).1 185 = mt185 := rfl
theorem mb185 (em mi ic : Nat) : mBytes (DD em mi ic) 185 = cX1_isNear := congrArg (fun x : MI => x.1.2.1) (mq_185 em mi ic)
theorem mo185 (em mi ic : Nat) : mOwn (DD em mi ic) 185 = "Twelvehundred$Bulletin" := congrArg (fun x : MI => x.1.1.cls) (mq_185 em mi ic)
theorem mn185 (em mi ic : Nat) : mName (DD em mi ic) 185 = yX1_isNear := congrArg (fun x : MI => x.1.1) (mq_185 em mi ic)
theorem rt_185 (em mi ic : Nat) : mRet (DD em mi ic) 185 = some .boolean := congrArg (fun x : MI => x.1.2.2.2) (mq_185 em mi ic)
theorem ml_185 (em mi ic : Nat) : mMaxL (DD em mi ic) 185 = 5 := congrArg (fun x : MI => x.1.2.2.1) (mq_185 em mi ic)
theorem hh185 (em mi ic : Nat) : mHH (DD em mi ic) 185 = [] := congrArg (fun x : MI => x.2.2.2.2) (mq_185 em mi ic)
theorem hp185_0 (em mi ic : Nat) : hp (DD em mi ic) 185 0 = 0 := congrArg (fun x : MI => hd0 (x.2.2.1 0).1) (mq_185 em mi ic)
theorem hp185_1 (em mi ic : Nat) : hp (DD em mi ic) 185 1 = 7 := congrArg (fun x : MI => hd0 (x.2.2.1 1).1) (mq_185 em mi ic)
theorem hp185_2 (em mi ic : Nat) : hp (DD em mi ic) 185 2 = 40 := congrArg (fun x : MI => hd0 (x.2.2.1 2).1) (mq_185 em mi ic)
theorem hp185_3 (em mi ic : Nat) : hp (DD em mi ic) 185 3 = 67 := congrArg (fun x : MI => hd0 (x.2.2.1 3).1) (mq_185 em mi ic)
theorem hp185_4 (em mi ic : Nat) : hp (DD em mi ic) 185 4 = 71 := congrArg (fun x : MI => hd0 (x.2.2.1 4).1) (mq_185 em mi ic)
theorem hp185_5 (em mi ic : Nat) : hp (DD em mi ic) 185 5 = 72 := congrArg (fun x : MI => hd0 (x.2.2.1 5).1) (mq_185 em mi ic)
theorem mq_186 (em mi ic : Nat) : (DD em mi ic).1 186 = mt186 := rfl
theorem mb186 (em mi ic : Nat) : mBytes (DD em mi ic) 186 = cX14_digits := congrArg (fun x : MI => x.1.2.1) (mq_186 em mi ic)
theorem mo186 (em mi ic : Nat) : mOwn (DD em mi ic) 186 = "TwelvehundredModel" := congrArg (fun x : MI => x.1.1.cls) (mq_186 em mi ic)
theorem mn186 (em mi ic : Nat) : mName (DD em mi ic) 186 = yX14_digits := congrArg (fun x : MI => x.1.1) (mq_186 em mi ic)
theorem rt_186 (em mi ic : Nat) : mRet (DD em mi ic) 186 = some .int := congrArg (fun x : MI => x.1.2.2.2) (mq_186 em mi ic)
theorem ml_186 (em mi ic : Nat) : mMaxL (DD em mi ic) 186 = 1 := congrArg (fun x : MI => x.1.2.2.1) (mq_186 em mi ic)
theorem hh186 (em mi ic : Nat) : mHH (DD em mi ic) 186 = [] := congrArg (fun x : MI => x.2.2.2.2) (mq_186 em mi ic)
theorem hp186_0 (em mi ic : Nat) : hp (DD em mi ic) 186 0 = 0 := congrArg (fun x : MI => hd0 (x.2.2.1 0).1) (mq_186 em mi ic)
theorem hp186_1 (em mi ic : Nat) : hp (DD em mi ic) 186 1 = 10 := congrArg (fun x : MI => hd0 (x.2.2.1 1).1) (mq_186 em mi ic)
theorem hp186_2 (em mi ic : Nat) : hp (DD em mi ic) 186 2 = 19 := congrArg (fun x : MI => hd0 (x.2.2.1 2).1) (mq_186 em mi ic)
theorem mq_187 (em mi ic : Nat) : (DD em mi ic).1 187 = mt187 := rfl
theorem mb187 (em mi ic : Nat) : mBytes (DD em mi ic) 187 = cJ9_abs_0f7a4 := congrArg (fun x : MI => x.1.2.1) (mq_187 em mi ic)
theorem mo187 (em mi ic : Nat) : mOwn (DD em mi ic) 187 = "java/lang/Math" := congrArg (fun x : MI => x.1.1.cls) (mq_187 em mi ic)
theorem mn187 (em mi ic : Nat) : mName (DD em mi ic) 187 = yJ9_abs_0f7a4 := congrArg (fun x : MI => x.1.1) (mq_187 em mi ic)
theorem rt_187 (em mi ic : Nat) : mRet (DD em mi ic) 187 = some .int := congrArg (fun x : MI => x.1.2.2.2) (mq_187 em mi ic)
theorem ml_187 (em mi ic : Nat) : mMaxL (DD em mi ic) 187 = 1 := congrArg (fun x : MI => x.1.2.2.1) (mq_187 em mi ic)
theorem hh187 (em mi ic : Nat) : mHH (DD em mi ic) 187 = [] := congrArg (fun x : MI => x.2.2.2.2) (mq_187 em mi ic)
theorem hp187_0 (em mi ic : Nat) : hp (DD em mi ic) 187 0 = 0 := congrArg (fun x : MI => hd0 (x.2.2.1 0).1) (mq_187 em mi ic)
theorem hp187_1 (em mi ic : Nat) : hp (DD em mi ic) 187 1 = 9 := congrArg (fun x : MI => hd0 (x.2.2.1 1).1) (mq_187 em mi ic)
theorem hp187_2 (em mi ic : Nat) : hp (DD em mi ic) 187 2 = 10 := congrArg (fun x : MI => hd0 (x.2.2.1 2).1) (mq_187 em mi ic)
theorem mq_188 (em mi ic : Nat) : (DD em mi ic).1 188 = mt188 := rfl
theorem mb188 (em mi ic : Nat) : mBytes (DD em mi ic) 188 = cX14_leaves := congrArg (fun x : MI => x.1.2.1) (mq_188 em mi ic)
theorem mo188 (em mi ic : Nat) : mOwn (DD em mi ic) 188 = "TwelvehundredModel" := congrArg (fun x : MI => x.1.1.cls) (mq_188 em mi ic)
theorem mn188 (em mi ic : Nat) : mName (DD em mi ic) 188 = yX14_leaves := congrArg (fun x : MI => x.1.1) (mq_188 em mi ic)
theorem rt_188 (em mi ic : Nat) : mRet (DD em mi ic) 188 = some .boolean := congrArg (fun x : MI => x.1.2.2.2) (mq_188 em mi ic)
theorem ml_188 (em mi ic : Nat) : mMaxL (DD em mi ic) 188 = 3 := congrArg (fun x : MI => x.1.2.2.1) (mq_188 em mi ic)
theorem hh188 (em mi ic : Nat) : mHH (DD em mi ic) 188 = [] := congrArg (fun x : MI => x.2.2.2.2) (mq_188 em mi ic)
theorem hp188_0 (em mi ic : Nat) : hp (DD em mi ic) 188 0 = 0 := congrArg (fun x : MI => hd0 (x.2.2.1 0).1) (mq_188 em mi ic)
theorem hp188_1 (em mi ic : Nat) : hp (DD em mi ic) 188 1 = 2 := congrArg (fun x : MI => hd0 (x.2.2.1 1).1) (mq_188 em mi ic)
theorem hp188_2 (em mi ic : Nat) : hp (DD em mi ic) 188 2 = 25 := congrArg (fun x : MI => hd0 (x.2.2.1 2).1) (mq_188 em mi ic)
theorem hp188_3 (em mi ic : Nat) : hp (DD em mi ic) 188 3 = 33 := congrArg (fun x : MI => hd0 (x.2.2.1 3).1) (mq_188 em mi ic)
theorem mq_189 (em mi ic : Nat) : (DD em mi ic).1 189 = mt189 := rfl
theorem mb189 (em mi ic : Nat) : mBytes (DD em mi ic) 189 = cX7_isBetterForAny := congrArg (fun x : MI => x.1.2.1) (mq_189 em mi ic)
theorem mo189 (em mi ic : Nat) : mOwn (DD em mi ic) 189 = "Twelvehundred$Placing" := congrArg (fun x : MI => x.1.1.cls) (mq_189 em mi ic)
theorem mn189 (em mi ic : Nat) : mName (DD em mi ic) 189 = yX7_isBetterForAny := congrArg (fun x : MI => x.1.1) (mq_189 em mi ic)
theorem rt_189 (em mi ic : Nat) : mRet (DD em mi ic) 189 = some .boolean := congrArg (fun x : MI => x.1.2.2.2) (mq_189 em mi ic)
theorem ml_189 (em mi ic : Nat) : mMaxL (DD em mi ic) 189 = 4 := congrArg (fun x : MI => x.1.2.2.1) (mq_189 em mi ic)
theorem hh189 (em mi ic : Nat) : mHH (DD em mi ic) 189 = [] := congrArg (fun x : MI => x.2.2.2.2) (mq_189 em mi ic)
theorem hp189_0 (em mi ic : Nat) : hp (DD em mi ic) 189 0 = 0 := congrArg (fun x : MI => hd0 (x.2.2.1 0).1) (mq_189 em mi ic)
theorem hp189_1 (em mi ic : Nat) : hp (DD em mi ic) 189 1 = 2 := congrArg (fun x : MI => hd0 (x.2.2.1 1).1) (mq_189 em mi ic)
theorem hp189_2 (em mi ic : Nat) : hp (DD em mi ic) 189 2 = 44 := congrArg (fun x : MI => hd0 (x.2.2.1 2).1) (mq_189 em mi ic)
theorem hp189_3 (em mi ic : Nat) : hp (DD em mi ic) 189 3 = 50 := congrArg (fun x : MI => hd0 (x.2.2.1 3).1) (mq_189 em mi ic)
theorem mq_190 (em mi ic : Nat) : (DD em mi ic).1 190 = mt190 := rfl
theorem mb190 (em mi ic : Nat) : mBytes (DD em mi ic) 190 = cX7_hasRoom := congrArg (fun x : MI => x.1.2.1) (mq_190 em mi ic)
theorem mo190 (em mi ic : Nat) : mOwn (DD em mi ic) 190 = "Twelvehundred$Placing" := congrArg (fun x : MI => x.1.1.cls) (mq_190 em mi ic)
theorem mn190 (em mi ic : Nat) : mName (DD em mi ic) 190 = yX7_hasRoom := congrArg (fun x : MI => x.1.1) (mq_190 em mi ic)
theorem rt_190 (em mi ic : Nat) : mRet (DD em mi ic) 190 = some .boolean := congrArg (fun x : MI => x.1.2.2.2) (mq_190 em mi ic)
theorem ml_190 (em mi ic : Nat) : mMaxL (DD em mi ic) 190 = 2 := congrArg (fun x : MI => x.1.2.2.1) (mq_190 em mi ic)
theorem hh190 (em mi ic : Nat) : mHH (DD em mi ic) 190 = [] := congrArg (fun x : MI => x.2.2.2.2) (mq_190 em mi ic)
theorem hp190_0 (em mi ic : Nat) : hp (DD em mi ic) 190 0 = 0 := congrArg (fun x : MI => hd0 (x.2.2.1 0).1) (mq_190 em mi ic)
theorem hp190_1 (em mi ic : Nat) : hp (DD em mi ic) 190 1 = 19 := congrArg (fun x : MI => hd0 (x.2.2.1 1).1) (mq_190 em mi ic)
theorem hp190_2 (em mi ic : Nat) : hp (DD em mi ic) 190 2 = 20 := congrArg (fun x : MI => hd0 (x.2.2.1 2).1) (mq_190 em mi ic)
theorem mq_191 (em mi ic : Nat) : (DD em mi ic).1 191 = mt191 := rfl
theorem mb191 (em mi ic : Nat) : mBytes (DD em mi ic) 191 = cX1_areTogether := congrArg (fun x : MI => x.1.2.1) (mq_191 em mi ic)
theorem mo191 (em mi ic : Nat) : mOwn (DD em mi ic) 191 = "Twelvehundred$Bulletin" := congrArg (fun x : MI => x.1.1.cls) (mq_191 em mi ic)
theorem mn191 (em mi ic : Nat) : mName (DD em mi ic) 191 = yX1_areTogether := congrArg (fun x : MI => x.1.1) (mq_191 em mi ic)
theorem rt_191 (em mi ic : Nat) : mRet (DD em mi ic) 191 = some .boolean := congrArg (fun x : MI => x.1.2.2.2) (mq_191 em mi ic)
theorem ml_191 (em mi ic : Nat) : mMaxL (DD em mi ic) 191 = 2 := congrArg (fun x : MI => x.1.2.2.1) (mq_191 em mi ic)
theorem hh191 (em mi ic : Nat) : mHH (DD em mi ic) 191 = [] := congrArg (fun x : MI => x.2.2.2.2) (mq_191 em mi ic)
theorem hp191_0 (em mi ic : Nat) : hp (DD em mi ic) 191 0 = 0 := congrArg (fun x : MI => hd0 (x.2.2.1 0).1) (mq_191 em mi ic)
theorem hp191_1 (em mi ic : Nat) : hp (DD em mi ic) 191 1 = 32 := congrArg (fun x : MI => hd0 (x.2.2.1 1).1) (mq_191 em mi ic)
theorem hp191_2 (em mi ic : Nat) : hp (DD em mi ic) 191 2 = 33 := congrArg (fun x : MI => hd0 (x.2.2.1 2).1) (mq_191 em mi ic)
theorem mq_192 (em mi ic : Nat) : (DD em mi ic).1 192 = mt192 := rfl
theorem mb192 (em mi ic : Nat) : mBytes (DD em mi ic) 192 = cX1_join := congrArg (fun x : MI => x.1.2.1) (mq_192 em mi ic)
theorem mo192 (em mi ic : Nat) : mOwn (DD em mi ic) 192 = "Twelvehundred$Bulletin" := congrArg (fun x : MI => x.1.1.cls) (mq_192 em mi ic)
theorem mn192 (em mi ic : Nat) : mName (DD em mi ic) 192 = yX1_join := congrArg (fun x : MI => x.1.1) (mq_192 em mi ic)
theorem rt_192 (em mi ic : Nat) : mRet (DD em mi ic) 192 = none := congrArg (fun x : MI => x.1.2.2.2) (mq_192 em mi ic)
theorem ml_192 (em mi ic : Nat) : mMaxL (DD em mi ic) 192 = 4 := congrArg (fun x : MI => x.1.2.2.1) (mq_192 em mi ic)
theorem hh192 (em mi ic : Nat) : mHH (DD em mi ic) 192 = [] := congrArg (fun x : MI => x.2.2.2.2) (mq_192 em mi ic)
theorem hp192_0 (em mi ic : Nat) : hp (DD em mi ic) 192 0 = 0 := congrArg (fun x : MI => hd0 (x.2.2.1 0).1) (mq_192 em mi ic)
theorem hp192_1 (em mi ic : Nat) : hp (DD em mi ic) 192 1 = 2 := congrArg (fun x : MI => hd0 (x.2.2.1 1).1) (mq_192 em mi ic)
theorem hp192_2 (em mi ic : Nat) : hp (DD em mi ic) 192 2 = 46 := congrArg (fun x : MI => hd0 (x.2.2.1 2).1) (mq_192 em mi ic)
theorem hp192_3 (em mi ic : Nat) : hp (DD em mi ic) 192 3 = 52 := congrArg (fun x : MI => hd0 (x.2.2.1 3).1) (mq_192 em mi ic)
theorem mq_193 (em mi ic : Nat) : (DD em mi ic).1 193 = mt193 := rfl
theorem mb193 (em mi ic : Nat) : mBytes (DD em mi ic) 193 = cX14_isBest := congrArg (fun x : MI => x.1.2.1) (mq_193 em mi ic)
theorem mo193 (em mi ic : Nat) : mOwn (DD em mi ic) 193 = "TwelvehundredModel" := congrArg (fun x : MI => x.1.1.cls) (mq_193 em mi ic)
theorem mn193 (em mi ic : Nat) : mName (DD em mi ic) 193 = yX14_isBest := congrArg (fun x : MI => x.1.1) (mq_193 em mi ic)
theorem rt_193 (em mi ic : Nat) : mRet (DD em mi ic) 193 = some .boolean := congrArg (fun x : MI => x.1.2.2.2) (mq_193 em mi ic)
theorem ml_193 (em mi ic : Nat) : mMaxL (DD em mi ic) 193 = 6 := congrArg (fun x : MI => x.1.2.2.1) (mq_193 em mi ic)
theorem hh193 (em mi ic : Nat) : mHH (DD em mi ic) 193 = [] := congrArg (fun x : MI => x.2.2.2.2) (mq_193 em mi ic)
theorem hp193_0 (em mi ic : Nat) : hp (DD em mi ic) 193 0 = 0 := congrArg (fun x : MI => hd0 (x.2.2.1 0).1) (mq_193 em mi ic)
theorem hp193_1 (em mi ic : Nat) : hp (DD em mi ic) 193 1 = 16 := congrArg (fun x : MI => hd0 (x.2.2.1 1).1) (mq_193 em mi ic)
theorem hp193_2 (em mi ic : Nat) : hp (DD em mi ic) 193 2 = 19 := congrArg (fun x : MI => hd0 (x.2.2.1 2).1) (mq_193 em mi ic)
theorem hp193_3 (em mi ic : Nat) : hp (DD em mi ic) 193 3 = 45 := congrArg (fun x : MI => hd0 (x.2.2.1 3).1) (mq_193 em mi ic)
theorem hp193_4 (em mi ic : Nat) : hp (DD em mi ic) 193 4 = 51 := congrArg (fun x : MI => hd0 (x.2.2.1 4).1) (mq_193 em mi ic)
theorem hp193_5 (em mi ic : Nat) : hp (DD em mi ic) 193 5 = 53 := congrArg (fun x : MI => hd0 (x.2.2.1 5).1) (mq_193 em mi ic)
theorem hp193_6 (em mi ic : Nat) : hp (DD em mi ic) 193 6 = 76 := congrArg (fun x : MI => hd0 (x.2.2.1 6).1) (mq_193 em mi ic)
theorem hp193_7 (em mi ic : Nat) : hp (DD em mi ic) 193 7 = 77 := congrArg (fun x : MI => hd0 (x.2.2.1 7).1) (mq_193 em mi ic)
theorem hp193_8 (em mi ic : Nat) : hp (DD em mi ic) 193 8 = 82 := congrArg (fun x : MI => hd0 (x.2.2.1 8).1) (mq_193 em mi ic)
theorem hp193_9 (em mi ic : Nat) : hp (DD em mi ic) 193 9 = 108 := congrArg (fun x : MI => hd0 (x.2.2.1 9).1) (mq_193 em mi ic)
theorem hp193_10 (em mi ic : Nat) : hp (DD em mi ic) 193 10 = 114 := congrArg (fun x : MI => hd0 (x.2.2.1 10).1) (mq_193 em mi ic)
theorem mq_194 (em mi ic : Nat) : (DD em mi ic).1 194 = mt194 := rfl
theorem mb194 (em mi ic : Nat) : mBytes (DD em mi ic) 194 = cJ0_coder_7d493 := congrArg (fun x : MI => x.1.2.1) (mq_194 em mi ic)
theorem mo194 (em mi ic : Nat) : mOwn (DD em mi ic) 194 = "java/lang/String" := congrArg (fun x : MI => x.1.1.cls) (mq_194 em mi ic)
theorem mn194 (em mi ic : Nat) : mName (DD em mi ic) 194 = yJ0_coder_7d493 := congrArg (fun x : MI => x.1.1) (mq_194 em mi ic)
theorem rt_194 (em mi ic : Nat) : mRet (DD em mi ic) 194 = some .byte := congrArg (fun x : MI => x.1.2.2.2) (mq_194 em mi ic)
theorem ml_194 (em mi ic : Nat) : mMaxL (DD em mi ic) 194 = 1 := congrArg (fun x : MI => x.1.2.2.1) (mq_194 em mi ic)
theorem hh194 (em mi ic : Nat) : mHH (DD em mi ic) 194 = [] := congrArg (fun x : MI => x.2.2.2.2) (mq_194 em mi ic)
theorem hp194_0 (em mi ic : Nat) : hp (DD em mi ic) 194 0 = 0 := congrArg (fun x : MI => hd0 (x.2.2.1 0).1) (mq_194 em mi ic)
theorem hp194_1 (em mi ic : Nat) : hp (DD em mi ic) 194 1 = 13 := congrArg (fun x : MI => hd0 (x.2.2.1 1).1) (mq_194 em mi ic)
theorem hp194_2 (em mi ic : Nat) : hp (DD em mi ic) 194 2 = 14 := congrArg (fun x : MI => hd0 (x.2.2.1 2).1) (mq_194 em mi ic)
theorem mq_195 (em mi ic : Nat) : (DD em mi ic).1 195 = mt195 := rfl
theorem mb195 (em mi ic : Nat) : mBytes (DD em mi ic) 195 = cJxa1e45_init_da8c8 := congrArg (fun x : MI => x.1.2.1) (mq_195 em mi ic)
theorem mo195 (em mi ic : Nat) : mOwn (DD em mi ic) 195 = "java/util/AbstractCollection" := congrArg (fun x : MI => x.1.1.cls) (mq_195 em mi ic)
theorem mn195 (em mi ic : Nat) : mName (DD em mi ic) 195 = yJxa1e45_init_da8c8 := congrArg (fun x : MI => x.1.1) (mq_195 em mi ic)
theorem rt_195 (em mi ic : Nat) : mRet (DD em mi ic) 195 = none := congrArg (fun x : MI => x.1.2.2.2) (mq_195 em mi ic)
theorem ml_195 (em mi ic : Nat) : mMaxL (DD em mi ic) 195 = 1 := congrArg (fun x : MI => x.1.2.2.1) (mq_195 em mi ic)
theorem hh195 (em mi ic : Nat) : mHH (DD em mi ic) 195 = [] := congrArg (fun x : MI => x.2.2.2.2) (mq_195 em mi ic)
theorem hp195_0 (em mi ic : Nat) : hp (DD em mi ic) 195 0 = 0 := congrArg (fun x : MI => hd0 (x.2.2.1 0).1) (mq_195 em mi ic)
theorem mq_196 (em mi ic : Nat) : (DD em mi ic).1 196 = mt196 := rfl
theorem mb196 (em mi ic : Nat) : mBytes (DD em mi ic) 196 = cJx4a65c_grow_d5877 := congrArg (fun x : MI => x.1.2.1) (mq_196 em mi ic)
theorem mo196 (em mi ic : Nat) : mOwn (DD em mi ic) 196 = "java/util/ArrayList" := congrArg (fun x : MI => x.1.1.cls) (mq_196 em mi ic)
theorem mn196 (em mi ic : Nat) : mName (DD em mi ic) 196 = yJx4a65c_grow_d5877 := congrArg (fun x : MI => x.1.1) (mq_196 em mi ic)
theorem rt_196 (em mi ic : Nat) : mRet (DD em mi ic) 196 = some (.array (.object "java/lang/Object")) := congrArg (fun x : MI => x.1.2.2.2) (mq_196 em mi ic)
theorem ml_196 (em mi ic : Nat) : mMaxL (DD em mi ic) 196 = 1 := congrArg (fun x : MI => x.1.2.2.1) (mq_196 em mi ic)
theorem hh196 (em mi ic : Nat) : mHH (DD em mi ic) 196 = [] := congrArg (fun x : MI => x.2.2.2.2) (mq_196 em mi ic)
theorem hp196_0 (em mi ic : Nat) : hp (DD em mi ic) 196 0 = 0 := congrArg (fun x : MI => hd0 (x.2.2.1 0).1) (mq_196 em mi ic)
theorem mq_197 (em mi ic : Nat) : (DD em mi ic).1 197 = mt197 := rfl
theorem mb197 (em mi ic : Nat) : mBytes (DD em mi ic) 197 = cX0_askNext := congrArg (fun x : MI => x.1.2.1) (mq_197 em mi ic)
theorem mo197 (em mi ic : Nat) : mOwn (DD em mi ic) 197 = "Twelvehundred$Asking" := congrArg (fun x : MI => x.1.1.cls) (mq_197 em mi ic)
theorem mn197 (em mi ic : Nat) : mName (DD em mi ic) 197 = yX0_askNext := congrArg (fun x : MI => x.1.1) (mq_197 em mi ic)
theorem rt_197 (em mi ic : Nat) : mRet (DD em mi ic) 197 = none := congrArg (fun x : MI => x.1.2.2.2) (mq_197 em mi ic)
theorem ml_197 (em mi ic : Nat) : mMaxL (DD em mi ic) 197 = 4 := congrArg (fun x : MI => x.1.2.2.1) (mq_197 em mi ic)
theorem hh197 (em mi ic : Nat) : mHH (DD em mi ic) 197 = [] := congrArg (fun x : MI => x.2.2.2.2) (mq_197 em mi ic)
theorem hp197_0 (em mi ic : Nat) : hp (DD em mi ic) 197 0 = 0 := congrArg (fun x : MI => hd0 (x.2.2.1 0).1) (mq_197 em mi ic)
theorem hp197_1 (em mi ic : Nat) : hp (DD em mi ic) 197 1 = 2 := congrArg (fun x : MI => hd0 (x.2.2.1 1).1) (mq_197 em mi ic)
theorem hp197_2 (em mi ic : Nat) : hp (DD em mi ic) 197 2 = 61 := congrArg (fun x : MI => hd0 (x.2.2.1 2).1) (mq_197 em mi ic)
theorem hp197_3 (em mi ic : Nat) : hp (DD em mi ic) 197 3 = 67 := congrArg (fun x : MI => hd0 (x.2.2.1 3).1) (mq_197 em mi ic)
theorem mq_198 (em mi ic : Nat) : (DD em mi ic).1 198 = mt198 := rfl
theorem mb198 (em mi ic : Nat) : mBytes (DD em mi ic) 198 = cJ3_checkIndex_8e157 := congrArg (fun x : MI => x.1.2.1) (mq_198 em mi ic)
theorem mo198 (em mi ic : Nat) : mOwn (DD em mi ic) 198 = "jdk/internal/util/Preconditions" := congrArg (fun x : MI => x.1.1.cls) (mq_198 em mi ic)
theorem mn198 (em mi ic : Nat) : mName (DD em mi ic) 198 = yJ3_checkIndex_8e157 := congrArg (fun x : MI => x.1.1) (mq_198 em mi ic)
theorem rt_198 (em mi ic : Nat) : mRet (DD em mi ic) 198 = some .int := congrArg (fun x : MI => x.1.2.2.2) (mq_198 em mi ic)
theorem ml_198 (em mi ic : Nat) : mMaxL (DD em mi ic) 198 = 3 := congrArg (fun x : MI => x.1.2.2.1) (mq_198 em mi ic)
theorem hh198 (em mi ic : Nat) : mHH (DD em mi ic) 198 = [] := congrArg (fun x : MI => x.2.2.2.2) (mq_198 em mi ic)
theorem hp198_0 (em mi ic : Nat) : hp (DD em mi ic) 198 0 = 0 := congrArg (fun x : MI => hd0 (x.2.2.1 0).1) (mq_198 em mi ic)
theorem hp198_1 (em mi ic : Nat) : hp (DD em mi ic) 198 1 = 9 := congrArg (fun x : MI => hd0 (x.2.2.1 1).1) (mq_198 em mi ic)
theorem hp198_2 (em mi ic : Nat) : hp (DD em mi ic) 198 2 = 16 := congrArg (fun x : MI => hd0 (x.2.2.1 2).1) (mq_198 em mi ic)
theorem mq_199 (em mi ic : Nat) : (DD em mi ic).1 199 = mt199 := rfl
theorem mb199 (em mi ic : Nat) : mBytes (DD em mi ic) 199 = cX4_nextToSpoil := congrArg (fun x : MI => x.1.2.1) (mq_199 em mi ic)
theorem mo199 (em mi ic : Nat) : mOwn (DD em mi ic) 199 = "Twelvehundred$Larder" := congrArg (fun x : MI => x.1.1.cls) (mq_199 em mi ic)
theorem mn199 (em mi ic : Nat) : mName (DD em mi ic) 199 = yX4_nextToSpoil := congrArg (fun x : MI => x.1.1) (mq_199 em mi ic)
theorem rt_199 (em mi ic : Nat) : mRet (DD em mi ic) 199 = some (.object "Twelvehundred$Lot") := congrArg (fun x : MI => x.1.2.2.2) (mq_199 em mi ic)
theorem ml_199 (em mi ic : Nat) : mMaxL (DD em mi ic) 199 = 4 := congrArg (fun x : MI => x.1.2.2.1) (mq_199 em mi ic)
theorem hh199 (em mi ic : Nat) : mHH (DD em mi ic) 199 = [] := congrArg (fun x : MI => x.2.2.2.2) (mq_199 em mi ic)
theorem hp199_0 (em mi ic : Nat) : hp (DD em mi ic) 199 0 = 0 := congrArg (fun x : MI => hd0 (x.2.2.1 0).1) (mq_199 em mi ic)
theorem hp199_1 (em mi ic : Nat) : hp (DD em mi ic) 199 1 = 4 := congrArg (fun x : MI => hd0 (x.2.2.1 1).1) (mq_199 em mi ic)
theorem hp199_2 (em mi ic : Nat) : hp (DD em mi ic) 199 2 = 49 := congrArg (fun x : MI => hd0 (x.2.2.1 2).1) (mq_199 em mi ic)
theorem hp199_3 (em mi ic : Nat) : hp (DD em mi ic) 199 3 = 51 := congrArg (fun x : MI => hd0 (x.2.2.1 3).1) (mq_199 em mi ic)
theorem hp199_4 (em mi ic : Nat) : hp (DD em mi ic) 199 4 = 57 := congrArg (fun x : MI => hd0 (x.2.2.1 4).1) (mq_199 em mi ic)
theorem mq_200 (em mi ic : Nat) : (DD em mi ic).1 200 = mt200 := rfl
theorem mb200 (em mi ic : Nat) : mBytes (DD em mi ic) 200 = cJxd2413_init_da8c8 := congrArg (fun x : MI => x.1.2.1) (mq_200 em mi ic)
theorem mo200 (em mi ic : Nat) : mOwn (DD em mi ic) 200 = "java/lang/Number" := congrArg (fun x : MI => x.1.1.cls) (mq_200 em mi ic)
theorem mn200 (em mi ic : Nat) : mName (DD em mi ic) 200 = yJxd2413_init_da8c8 := congrArg (fun x : MI => x.1.1) (mq_200 em mi ic)
theorem rt_200 (em mi ic : Nat) : mRet (DD em mi ic) 200 = none := congrArg (fun x : MI => x.1.2.2.2) (mq_200 em mi ic)
theorem ml_200 (em mi ic : Nat) : mMaxL (DD em mi ic) 200 = 1 := congrArg (fun x : MI => x.1.2.2.1) (mq_200 em mi ic)
theorem hh200 (em mi ic : Nat) : mHH (DD em mi ic) 200 = [] := congrArg (fun x : MI => x.2.2.2.2) (mq_200 em mi ic)
theorem hp200_0 (em mi ic : Nat) : hp (DD em mi ic) 200 0 = 0 := congrArg (fun x : MI => hd0 (x.2.2.1 0).1) (mq_200 em mi ic)
theorem mq_201 (em mi ic : Nat) : (DD em mi ic).1 201 = mt201 := rfl
theorem mb201 (em mi ic : Nat) : mBytes (DD em mi ic) 201 = cJ5_ensureCapacityInternal_d00df := congrArg (fun x : MI => x.1.2.1) (mq_201 em mi ic)
theorem mo201 (em mi ic : Nat) : mOwn (DD em mi ic) 201 = "java/lang/AbstractStringBuilder" := congrArg (fun x : MI => x.1.1.cls) (mq_201 em mi ic)
theorem mn201 (em mi ic : Nat) : mName (DD em mi ic) 201 = yJ5_ensureCapacityInternal_d00df := congrArg (fun x : MI => x.1.1) (mq_201 em mi ic)
theorem rt_201 (em mi ic : Nat) : mRet (DD em mi ic) 201 = none := congrArg (fun x : MI => x.1.2.2.2) (mq_201 em mi ic)
theorem ml_201 (em mi ic : Nat) : mMaxL (DD em mi ic) 201 = 3 := congrArg (fun x : MI => x.1.2.2.1) (mq_201 em mi ic)
theorem hh201 (em mi ic : Nat) : mHH (DD em mi ic) 201 = [] := congrArg (fun x : MI => x.2.2.2.2) (mq_201 em mi ic)
theorem hp201_0 (em mi ic : Nat) : hp (DD em mi ic) 201 0 = 0 := congrArg (fun x : MI => hd0 (x.2.2.1 0).1) (mq_201 em mi ic)
theorem hp201_1 (em mi ic : Nat) : hp (DD em mi ic) 201 1 = 38 := congrArg (fun x : MI => hd0 (x.2.2.1 1).1) (mq_201 em mi ic)
theorem mq_202 (em mi ic : Nat) : (DD em mi ic).1 202 = mt202 := rfl
theorem mb202 (em mi ic : Nat) : mBytes (DD em mi ic) 202 = cJ5_isLatin1_aae02 := congrArg (fun x : MI => x.1.2.1) (mq_202 em mi ic)
theorem mo202 (em mi ic : Nat) : mOwn (DD em mi ic) 202 = "java/lang/AbstractStringBuilder" := congrArg (fun x : MI => x.1.1.cls) (mq_202 em mi ic)
theorem mn202 (em mi ic : Nat) : mName (DD em mi ic) 202 = yJ5_isLatin1_aae02 := congrArg (fun x : MI => x.1.1) (mq_202 em mi ic)
theorem rt_202 (em mi ic : Nat) : mRet (DD em mi ic) 202 = some .boolean := congrArg (fun x : MI => x.1.2.2.2) (mq_202 em mi ic)
theorem ml_202 (em mi ic : Nat) : mMaxL (DD em mi ic) 202 = 1 := congrArg (fun x : MI => x.1.2.2.1) (mq_202 em mi ic)
theorem hh202 (em mi ic : Nat) : mHH (DD em mi ic) 202 = [] := congrArg (fun x : MI => x.2.2.2.2) (mq_202 em mi ic)
theorem hp202_0 (em mi ic : Nat) : hp (DD em mi ic) 202 0 = 0 := congrArg (fun x : MI => hd0 (x.2.2.1 0).1) (mq_202 em mi ic)
theorem hp202_1 (em mi ic : Nat) : hp (DD em mi ic) 202 1 = 17 := congrArg (fun x : MI => hd0 (x.2.2.1 1).1) (mq_202 em mi ic)
theorem hp202_2 (em mi ic : Nat) : hp (DD em mi ic) 202 2 = 18 := congrArg (fun x : MI => hd0 (x.2.2.1 2).1) (mq_202 em mi ic)
theorem mq_203 (em mi ic : Nat) : (DD em mi ic).1 203 = mt203 := rfl
theorem mb203 (em mi ic : Nat) : mBytes (DD em mi ic) 203 = cJ1_canEncode_fc78d := congrArg (fun x : MI => x.1.2.1) (mq_203 em mi ic)
theorem mo203 (em mi ic : Nat) : mOwn (DD em mi ic) 203 = "java/lang/StringLatin1" := congrArg (fun x : MI => x.1.1.cls) (mq_203 em mi ic)
theorem mn203 (em mi ic : Nat) : mName (DD em mi ic) 203 = yJ1_canEncode_fc78d := congrArg (fun x : MI => x.1.1) (mq_203 em mi ic)
theorem rt_203 (em mi ic : Nat) : mRet (DD em mi ic) 203 = some .boolean := congrArg (fun x : MI => x.1.2.2.2) (mq_203 em mi ic)
theorem ml_203 (em mi ic : Nat) : mMaxL (DD em mi ic) 203 = 1 := congrArg (fun x : MI => x.1.2.2.1) (mq_203 em mi ic)
theorem hh203 (em mi ic : Nat) : mHH (DD em mi ic) 203 = [] := congrArg (fun x : MI => x.2.2.2.2) (mq_203 em mi ic)
theorem hp203_0 (em mi ic : Nat) : hp (DD em mi ic) 203 0 = 0 := congrArg (fun x : MI => hd0 (x.2.2.1 0).1) (mq_203 em mi ic)
theorem hp203_1 (em mi ic : Nat) : hp (DD em mi ic) 203 1 = 11 := congrArg (fun x : MI => hd0 (x.2.2.1 1).1) (mq_203 em mi ic)
theorem hp203_2 (em mi ic : Nat) : hp (DD em mi ic) 203 2 = 12 := congrArg (fun x : MI => hd0 (x.2.2.1 2).1) (mq_203 em mi ic)
theorem mq_204 (em mi ic : Nat) : (DD em mi ic).1 204 = mt204 := rfl
theorem mb204 (em mi ic : Nat) : mBytes (DD em mi ic) 204 = cJ0_init_db425 := congrArg (fun x : MI => x.1.2.1) (mq_204 em mi ic)
theorem mo204 (em mi ic : Nat) : mOwn (DD em mi ic) 204 = "java/lang/String" := congrArg (fun x : MI => x.1.1.cls) (mq_204 em mi ic)
theorem mn204 (em mi ic : Nat) : mName (DD em mi ic) 204 = yJ0_init_db425 := congrArg (fun x : MI => x.1.1) (mq_204 em mi ic)
theorem rt_204 (em mi ic : Nat) : mRet (DD em mi ic) 204 = none := congrArg (fun x : MI => x.1.2.2.2) (mq_204 em mi ic)
theorem ml_204 (em mi ic : Nat) : mMaxL (DD em mi ic) 204 = 5 := congrArg (fun x : MI => x.1.2.2.1) (mq_204 em mi ic)
theorem hh204 (em mi ic : Nat) : mHH (DD em mi ic) 204 = [] := congrArg (fun x : MI => x.2.2.2.2) (mq_204 em mi ic)
theorem hp204_0 (em mi ic : Nat) : hp (DD em mi ic) 204 0 = 0 := congrArg (fun x : MI => hd0 (x.2.2.1 0).1) (mq_204 em mi ic)
theorem hp204_1 (em mi ic : Nat) : hp (DD em mi ic) 204 1 = 41 := congrArg (fun x : MI => hd0 (x.2.2.1 1).1) (mq_204 em mi ic)
theorem hp204_2 (em mi ic : Nat) : hp (DD em mi ic) 204 2 = 79 := congrArg (fun x : MI => hd0 (x.2.2.1 2).1) (mq_204 em mi ic)
theorem hp204_3 (em mi ic : Nat) : hp (DD em mi ic) 204 3 = 97 := congrArg (fun x : MI => hd0 (x.2.2.1 3).1) (mq_204 em mi ic)
theorem mq_205 (em mi ic : Nat) : (DD em mi ic).1 205 = mt205 := rfl
theorem mb205 (em mi ic : Nat) : mBytes (DD em mi ic) 205 = cX8_canReachAsLateAs := congrArg (fun x : MI => x.1.2.1) (mq_205 em mi ic)
theorem mo205 (em mi ic : Nat) : mOwn (DD em mi ic) 205 = "Twelvehundred$Rescue" := congrArg (fun x : MI => x.1.1.cls) (mq_205 em mi ic)
theorem mn205 (em mi ic : Nat) : mName (DD em mi ic) 205 = yX8_canReachAsLateAs := congrArg (fun x : MI => x.1.1) (mq_205 em mi ic)
theorem rt_205 (em mi ic : Nat) : mRet (DD em mi ic) 205 = some .boolean := congrArg (fun x : MI => x.1.2.2.2) (mq_205 em mi ic)
theorem ml_205 (em mi ic : Nat) : mMaxL (DD em mi ic) 205 = 6 := congrArg (fun x : MI => x.1.2.2.1) (mq_205 em mi ic)
theorem hh205 (em mi ic : Nat) : mHH (DD em mi ic) 205 = [] := congrArg (fun x : MI => x.2.2.2.2) (mq_205 em mi ic)
theorem hp205_0 (em mi ic : Nat) : hp (DD em mi ic) 205 0 = 0 := congrArg (fun x : MI => hd0 (x.2.2.1 0).1) (mq_205 em mi ic)
theorem hp205_1 (em mi ic : Nat) : hp (DD em mi ic) 205 1 = 9 := congrArg (fun x : MI => hd0 (x.2.2.1 1).1) (mq_205 em mi ic)
theorem hp205_2 (em mi ic : Nat) : hp (DD em mi ic) 205 2 = 27 := congrArg (fun x : MI => hd0 (x.2.2.1 2).1) (mq_205 em mi ic)
theorem hp205_3 (em mi ic : Nat) : hp (DD em mi ic) 205 3 = 80 := congrArg (fun x : MI => hd0 (x.2.2.1 3).1) (mq_205 em mi ic)
theorem hp205_4 (em mi ic : Nat) : hp (DD em mi ic) 205 4 = 81 := congrArg (fun x : MI => hd0 (x.2.2.1 4).1) (mq_205 em mi ic)
theorem hp205_5 (em mi ic : Nat) : hp (DD em mi ic) 205 5 = 93 := congrArg (fun x : MI => hd0 (x.2.2.1 5).1) (mq_205 em mi ic)
theorem hp205_6 (em mi ic : Nat) : hp (DD em mi ic) 205 6 = 108 := congrArg (fun x : MI => hd0 (x.2.2.1 6).1) (mq_205 em mi ic)
theorem hp205_7 (em mi ic : Nat) : hp (DD em mi ic) 205 7 = 109 := congrArg (fun x : MI => hd0 (x.2.2.1 7).1) (mq_205 em mi ic)
theorem mq_206 (em mi ic : Nat) : (DD em mi ic).1 206 = mt206 := rfl
theorem mb206 (em mi ic : Nat) : mBytes (DD em mi ic) 206 = cX7_couldOust := congrArg (fun x : MI => x.1.2.1) (mq_206 em mi ic)
theorem mo206 (em mi ic : Nat) : mOwn (DD em mi ic) 206 = "Twelvehundred$Placing" := congrArg (fun x : MI => x.1.1.cls) (mq_206 em mi ic)
theorem mn206 (em mi ic : Nat) : mName (DD em mi ic) 206 = yX7_couldOust := congrArg (fun x : MI => x.1.1) (mq_206 em mi ic)
theorem rt_206 (em mi ic : Nat) : mRet (DD em mi ic) 206 = some .boolean := congrArg (fun x : MI => x.1.2.2.2) (mq_206 em mi ic)
theorem ml_206 (em mi ic : Nat) : mMaxL (DD em mi ic) 206 = 3 := congrArg (fun x : MI => x.1.2.2.1) (mq_206 em mi ic)
theorem hh206 (em mi ic : Nat) : mHH (DD em mi ic) 206 = [] := congrArg (fun x : MI => x.2.2.2.2) (mq_206 em mi ic)
theorem hp206_0 (em mi ic : Nat) : hp (DD em mi ic) 206 0 = 0 := congrArg (fun x : MI => hd0 (x.2.2.1 0).1) (mq_206 em mi ic)
theorem hp206_1 (em mi ic : Nat) : hp (DD em mi ic) 206 1 = 29 := congrArg (fun x : MI => hd0 (x.2.2.1 1).1) (mq_206 em mi ic)
theorem hp206_2 (em mi ic : Nat) : hp (DD em mi ic) 206 2 = 30 := congrArg (fun x : MI => hd0 (x.2.2.1 2).1) (mq_206 em mi ic)
theorem mq_207 (em mi ic : Nat) : (DD em mi ic).1 207 = mt207 := rfl
theorem mb207 (em mi ic : Nat) : mBytes (DD em mi ic) 207 = cX3_wouldRather := congrArg (fun x : MI => x.1.2.1) (mq_207 em mi ic)
theorem mo207 (em mi ic : Nat) : mOwn (DD em mi ic) 207 = "Twelvehundred$Household" := congrArg (fun x : MI => x.1.1.cls) (mq_207 em mi ic)
theorem mn207 (em mi ic : Nat) : mName (DD em mi ic) 207 = yX3_wouldRather := congrArg (fun x : MI => x.1.1) (mq_207 em mi ic)
theorem rt_207 (em mi ic : Nat) : mRet (DD em mi ic) 207 = some .boolean := congrArg (fun x : MI => x.1.2.2.2) (mq_207 em mi ic)
theorem ml_207 (em mi ic : Nat) : mMaxL (DD em mi ic) 207 = 5 := congrArg (fun x : MI => x.1.2.2.1) (mq_207 em mi ic)
theorem hh207 (em mi ic : Nat) : mHH (DD em mi ic) 207 = [] := congrArg (fun x : MI => x.2.2.2.2) (mq_207 em mi ic)
theorem hp207_0 (em mi ic : Nat) : hp (DD em mi ic) 207 0 = 0 := congrArg (fun x : MI => hd0 (x.2.2.1 0).1) (mq_207 em mi ic)
theorem hp207_1 (em mi ic : Nat) : hp (DD em mi ic) 207 1 = 8 := congrArg (fun x : MI => hd0 (x.2.2.1 1).1) (mq_207 em mi ic)
theorem hp207_2 (em mi ic : Nat) : hp (DD em mi ic) 207 2 = 16 := congrArg (fun x : MI => hd0 (x.2.2.1 2).1) (mq_207 em mi ic)
theorem hp207_3 (em mi ic : Nat) : hp (DD em mi ic) 207 3 = 17 := congrArg (fun x : MI => hd0 (x.2.2.1 3).1) (mq_207 em mi ic)
theorem hp207_4 (em mi ic : Nat) : hp (DD em mi ic) 207 4 = 18 := congrArg (fun x : MI => hd0 (x.2.2.1 4).1) (mq_207 em mi ic)
theorem hp207_5 (em mi ic : Nat) : hp (DD em mi ic) 207 5 = 67 := congrArg (fun x : MI => hd0 (x.2.2.1 5).1) (mq_207 em mi ic)
theorem hp207_6 (em mi ic : Nat) : hp (DD em mi ic) 207 6 = 71 := congrArg (fun x : MI => hd0 (x.2.2.1 6).1) (mq_207 em mi ic)
theorem hp207_7 (em mi ic : Nat) : hp (DD em mi ic) 207 7 = 86 := congrArg (fun x : MI => hd0 (x.2.2.1 7).1) (mq_207 em mi ic)
theorem hp207_8 (em mi ic : Nat) : hp (DD em mi ic) 207 8 = 87 := congrArg (fun x : MI => hd0 (x.2.2.1 8).1) (mq_207 em mi ic)
theorem mq_208 (em mi ic : Nat) : (DD em mi ic).1 208 = mt208 := rfl
theorem mb208 (em mi ic : Nat) : mBytes (DD em mi ic) 208 = cX14_miles := congrArg (fun x : MI => x.1.2.1) (mq_208 em mi ic)
theorem mo208 (em mi ic : Nat) : mOwn (DD em mi ic) 208 = "TwelvehundredModel" := congrArg (fun x : MI => x.1.1.cls) (mq_208 em mi ic)
theorem mn208 (em mi ic : Nat) : mName (DD em mi ic) 208 = yX14_miles := congrArg (fun x : MI => x.1.1) (mq_208 em mi ic)
theorem rt_208 (em mi ic : Nat) : mRet (DD em mi ic) 208 = some .int := congrArg (fun x : MI => x.1.2.2.2) (mq_208 em mi ic)
theorem ml_208 (em mi ic : Nat) : mMaxL (DD em mi ic) 208 = 3 := congrArg (fun x : MI => x.1.2.2.1) (mq_208 em mi ic)
theorem hh208 (em mi ic : Nat) : mHH (DD em mi ic) 208 = [] := congrArg (fun x : MI => x.2.2.2.2) (mq_208 em mi ic)
theorem hp208_0 (em mi ic : Nat) : hp (DD em mi ic) 208 0 = 0 := congrArg (fun x : MI => hd0 (x.2.2.1 0).1) (mq_208 em mi ic)
theorem mq_209 (em mi ic : Nat) : (DD em mi ic).1 209 = mt209 := rfl
theorem mb209 (em mi ic : Nat) : mBytes (DD em mi ic) 209 = cJx4a65c_grow_92f84 := congrArg (fun x : MI => x.1.2.1) (mq_209 em mi ic)
theorem mo209 (em mi ic : Nat) : mOwn (DD em mi ic) 209 = "java/util/ArrayList" := congrArg (fun x : MI => x.1.1.cls) (mq_209 em mi ic)
theorem mn209 (em mi ic : Nat) : mName (DD em mi ic) 209 = yJx4a65c_grow_92f84 := congrArg (fun x : MI => x.1.1) (mq_209 em mi ic)
theorem rt_209 (em mi ic : Nat) : mRet (DD em mi ic) 209 = some (.array (.object "java/lang/Object")) := congrArg (fun x : MI => x.1.2.2.2) (mq_209 em mi ic)
theorem ml_209 (em mi ic : Nat) : mMaxL (DD em mi ic) 209 = 4 := congrArg (fun x : MI => x.1.2.2.1) (mq_209 em mi ic)
theorem hh209 (em mi ic : Nat) : mHH (DD em mi ic) 209 = [] := congrArg (fun x : MI => x.2.2.2.2) (mq_209 em mi ic)
theorem hp209_0 (em mi ic : Nat) : hp (DD em mi ic) 209 0 = 0 := congrArg (fun x : MI => hd0 (x.2.2.1 0).1) (mq_209 em mi ic)
theorem hp209_1 (em mi ic : Nat) : hp (DD em mi ic) 209 1 = 20 := congrArg (fun x : MI => hd0 (x.2.2.1 1).1) (mq_209 em mi ic)
theorem hp209_2 (em mi ic : Nat) : hp (DD em mi ic) 209 2 = 45 := congrArg (fun x : MI => hd0 (x.2.2.1 2).1) (mq_209 em mi ic)
theorem mq_210 (em mi ic : Nat) : (DD em mi ic).1 210 = mt210 := rfl
theorem mb210 (em mi ic : Nat) : mBytes (DD em mi ic) 210 = cX0_favouriteNotAsked := congrArg (fun x : MI => x.1.2.1) (mq_210 em mi ic)
theorem mo210 (em mi ic : Nat) : mOwn (DD em mi ic) 210 = "Twelvehundred$Asking" := congrArg (fun x : MI => x.1.1.cls) (mq_210 em mi ic)
theorem mn210 (em mi ic : Nat) : mName (DD em mi ic) 210 = yX0_favouriteNotAsked := congrArg (fun x : MI => x.1.1) (mq_210 em mi ic)
theorem rt_210 (em mi ic : Nat) : mRet (DD em mi ic) 210 = some (.object "Twelvehundred$Hall") := congrArg (fun x : MI => x.1.2.2.2) (mq_210 em mi ic)
theorem ml_210 (em mi ic : Nat) : mMaxL (DD em mi ic) 210 = 5 := congrArg (fun x : MI => x.1.2.2.1) (mq_210 em mi ic)
theorem hh210 (em mi ic : Nat) : mHH (DD em mi ic) 210 = [] := congrArg (fun x : MI => x.2.2.2.2) (mq_210 em mi ic)
theorem hp210_0 (em mi ic : Nat) : hp (DD em mi ic) 210 0 = 0 := congrArg (fun x : MI => hd0 (x.2.2.1 0).1) (mq_210 em mi ic)
theorem hp210_1 (em mi ic : Nat) : hp (DD em mi ic) 210 1 = 4 := congrArg (fun x : MI => hd0 (x.2.2.1 1).1) (mq_210 em mi ic)
theorem hp210_2 (em mi ic : Nat) : hp (DD em mi ic) 210 2 = 51 := congrArg (fun x : MI => hd0 (x.2.2.1 2).1) (mq_210 em mi ic)
theorem hp210_3 (em mi ic : Nat) : hp (DD em mi ic) 210 3 = 57 := congrArg (fun x : MI => hd0 (x.2.2.1 3).1) (mq_210 em mi ic)
theorem mq_211 (em mi ic : Nat) : (DD em mi ic).1 211 = mt211 := rfl
theorem mb211 (em mi ic : Nat) : mBytes (DD em mi ic) 211 = cX0_ask := congrArg (fun x : MI => x.1.2.1) (mq_211 em mi ic)
theorem mo211 (em mi ic : Nat) : mOwn (DD em mi ic) 211 = "Twelvehundred$Asking" := congrArg (fun x : MI => x.1.1.cls) (mq_211 em mi ic)
theorem mn211 (em mi ic : Nat) : mName (DD em mi ic) 211 = yX0_ask := congrArg (fun x : MI => x.1.1) (mq_211 em mi ic)
theorem rt_211 (em mi ic : Nat) : mRet (DD em mi ic) 211 = none := congrArg (fun x : MI => x.1.2.2.2) (mq_211 em mi ic)
theorem ml_211 (em mi ic : Nat) : mMaxL (DD em mi ic) 211 = 4 := congrArg (fun x : MI => x.1.2.2.1) (mq_211 em mi ic)
theorem hh211 (em mi ic : Nat) : mHH (DD em mi ic) 211 = [] := congrArg (fun x : MI => x.2.2.2.2) (mq_211 em mi ic)
theorem hp211_0 (em mi ic : Nat) : hp (DD em mi ic) 211 0 = 0 := congrArg (fun x : MI => hd0 (x.2.2.1 0).1) (mq_211 em mi ic)
theorem hp211_1 (em mi ic : Nat) : hp (DD em mi ic) 211 1 = 47 := congrArg (fun x : MI => hd0 (x.2.2.1 1).1) (mq_211 em mi ic)
theorem hp211_2 (em mi ic : Nat) : hp (DD em mi ic) 211 2 = 68 := congrArg (fun x : MI => hd0 (x.2.2.1 2).1) (mq_211 em mi ic)
theorem hp211_3 (em mi ic : Nat) : hp (DD em mi ic) 211 3 = 107 := congrArg (fun x : MI => hd0 (x.2.2.1 3).1) (mq_211 em mi ic)
theorem mq_212 (em mi ic : Nat) : (DD em mi ic).1 212 = mt212 := rfl
theorem mb212 (em mi ic : Nat) : mBytes (DD em mi ic) 212 = cJ5_getValue_6d5f1 := congrArg (fun x : MI => x.1.2.1) (mq_212 em mi ic)
theorem mo212 (em mi ic : Nat) : mOwn (DD em mi ic) 212 = "java/lang/AbstractStringBuilder" := congrArg (fun x : MI => x.1.1.cls) (mq_212 em mi ic)
theorem mn212 (em mi ic : Nat) : mName (DD em mi ic) 212 = yJ5_getValue_6d5f1 := congrArg (fun x : MI => x.1.1) (mq_212 em mi ic)
theorem rt_212 (em mi ic : Nat) : mRet (DD em mi ic) 212 = some (.array .byte) := congrArg (fun x : MI => x.1.2.2.2) (mq_212 em mi ic)
theorem ml_212 (em mi ic : Nat) : mMaxL (DD em mi ic) 212 = 1 := congrArg (fun x : MI => x.1.2.2.1) (mq_212 em mi ic)
theorem hh212 (em mi ic : Nat) : mHH (DD em mi ic) 212 = [] := congrArg (fun x : MI => x.2.2.2.2) (mq_212 em mi ic)
theorem hp212_0 (em mi ic : Nat) : hp (DD em mi ic) 212 0 = 0 := congrArg (fun x : MI => hd0 (x.2.2.1 0).1) (mq_212 em mi ic)
theorem mq_213 (em mi ic : Nat) : (DD em mi ic).1 213 = mt213 := rfl
theorem mb213 (em mi ic : Nat) : mBytes (DD em mi ic) 213 = cJ4_length_8abf5 := congrArg (fun x : MI => x.1.2.1) (mq_213 em mi ic)
theorem mo213 (em mi ic : Nat) : mOwn (DD em mi ic) 213 = "java/lang/StringBuilder" := congrArg (fun x : MI => x.1.1.cls) (mq_213 em mi ic)
theorem mn213 (em mi ic : Nat) : mName (DD em mi ic) 213 = yJ4_length_8abf5 := congrArg (fun x : MI => x.1.1) (mq_213 em mi ic)
theorem rt_213 (em mi ic : Nat) : mRet (DD em mi ic) 213 = some .int := congrArg (fun x : MI => x.1.2.2.2) (mq_213 em mi ic)
theorem ml_213 (em mi ic : Nat) : mMaxL (DD em mi ic) 213 = 1 := congrArg (fun x : MI => x.1.2.2.1) (mq_213 em mi ic)
theorem hh213 (em mi ic : Nat) : mHH (DD em mi ic) 213 = [] := congrArg (fun x : MI => x.2.2.2.2) (mq_213 em mi ic)
theorem hp213_0 (em mi ic : Nat) : hp (DD em mi ic) 213 0 = 0 := congrArg (fun x : MI => hd0 (x.2.2.1 0).1) (mq_213 em mi ic)
theorem mq_214 (em mi ic : Nat) : (DD em mi ic).1 214 = mt214 := rfl
theorem mb214 (em mi ic : Nat) : mBytes (DD em mi ic) 214 = cJ7_copyOfRange_39247 := congrArg (fun x : MI => x.1.2.1) (mq_214 em mi ic)
theorem mo214 (em mi ic : Nat) : mOwn (DD em mi ic) 214 = "java/util/Arrays" := congrArg (fun x : MI => x.1.1.cls) (mq_214 em mi ic)
theorem mn214 (em mi ic : Nat) : mName (DD em mi ic) 214 = yJ7_copyOfRange_39247 := congrArg (fun x : MI => x.1.1) (mq_214 em mi ic)
theorem rt_214 (em mi ic : Nat) : mRet (DD em mi ic) 214 = some (.array .byte) := congrArg (fun x : MI => x.1.2.2.2) (mq_214 em mi ic)
theorem ml_214 (em mi ic : Nat) : mMaxL (DD em mi ic) 214 = 3 := congrArg (fun x : MI => x.1.2.2.1) (mq_214 em mi ic)
theorem hh214 (em mi ic : Nat) : mHH (DD em mi ic) 214 = [] := congrArg (fun x : MI => x.2.2.2.2) (mq_214 em mi ic)
theorem hp214_0 (em mi ic : Nat) : hp (DD em mi ic) 214 0 = 0 := congrArg (fun x : MI => hd0 (x.2.2.1 0).1) (mq_214 em mi ic)
theorem hp214_1 (em mi ic : Nat) : hp (DD em mi ic) 214 1 = 10 := congrArg (fun x : MI => hd0 (x.2.2.1 1).1) (mq_214 em mi ic)
theorem hp214_2 (em mi ic : Nat) : hp (DD em mi ic) 214 2 = 17 := congrArg (fun x : MI => hd0 (x.2.2.1 2).1) (mq_214 em mi ic)
theorem mq_215 (em mi ic : Nat) : (DD em mi ic).1 215 = mt215 := rfl
theorem mb215 (em mi ic : Nat) : mBytes (DD em mi ic) 215 = cX3_goesBefore := congrArg (fun x : MI => x.1.2.1) (mq_215 em mi ic)
theorem mo215 (em mi ic : Nat) : mOwn (DD em mi ic) 215 = "Twelvehundred$Household" := congrArg (fun x : MI => x.1.1.cls) (mq_215 em mi ic)
theorem mn215 (em mi ic : Nat) : mName (DD em mi ic) 215 = yX3_goesBefore := congrArg (fun x : MI => x.1.1) (mq_215 em mi ic)
theorem rt_215 (em mi ic : Nat) : mRet (DD em mi ic) 215 = some .boolean := congrArg (fun x : MI => x.1.2.2.2) (mq_215 em mi ic)
theorem ml_215 (em mi ic : Nat) : mMaxL (DD em mi ic) 215 = 2 := congrArg (fun x : MI => x.1.2.2.1) (mq_215 em mi ic)
theorem hh215 (em mi ic : Nat) : mHH (DD em mi ic) 215 = [] := congrArg (fun x : MI => x.2.2.2.2) (mq_215 em mi ic)
theorem hp215_0 (em mi ic : Nat) : hp (DD em mi ic) 215 0 = 0 := congrArg (fun x : MI => hd0 (x.2.2.1 0).1) (mq_215 em mi ic)
theorem hp215_1 (em mi ic : Nat) : hp (DD em mi ic) 215 1 = 16 := congrArg (fun x : MI => hd0 (x.2.2.1 1).1) (mq_215 em mi ic)
theorem hp215_2 (em mi ic : Nat) : hp (DD em mi ic) 215 2 = 42 := congrArg (fun x : MI => hd0 (x.2.2.1 2).1) (mq_215 em mi ic)
theorem hp215_3 (em mi ic : Nat) : hp (DD em mi ic) 215 3 = 46 := congrArg (fun x : MI => hd0 (x.2.2.1 3).1) (mq_215 em mi ic)
theorem hp215_4 (em mi ic : Nat) : hp (DD em mi ic) 215 4 = 61 := congrArg (fun x : MI => hd0 (x.2.2.1 4).1) (mq_215 em mi ic)
theorem hp215_5 (em mi ic : Nat) : hp (DD em mi ic) 215 5 = 62 := congrArg (fun x : MI => hd0 (x.2.2.1 5).1) (mq_215 em mi ic)
theorem mq_216 (em mi ic : Nat) : (DD em mi ic).1 216 = mt216 := rfl
theorem mb216 (em mi ic : Nat) : mBytes (DD em mi ic) 216 = cJ8_newLength_cabcc := congrArg (fun x : MI => x.1.2.1) (mq_216 em mi ic)
theorem mo216 (em mi ic : Nat) : mOwn (DD em mi ic) 216 = "jdk/internal/util/ArraysSupport" := congrArg (fun x : MI => x.1.1.cls) (mq_216 em mi ic)
theorem mn216 (em mi ic : Nat) : mName (DD em mi ic) 216 = yJ8_newLength_cabcc := congrArg (fun x : MI => x.1.1) (mq_216 em mi ic)
theorem rt_216 (em mi ic : Nat) : mRet (DD em mi ic) 216 = some .int := congrArg (fun x : MI => x.1.2.2.2) (mq_216 em mi ic)
theorem ml_216 (em mi ic : Nat) : mMaxL (DD em mi ic) 216 = 4 := congrArg (fun x : MI => x.1.2.2.1) (mq_216 em mi ic)
theorem hh216 (em mi ic : Nat) : mHH (DD em mi ic) 216 = [] := congrArg (fun x : MI => x.2.2.2.2) (mq_216 em mi ic)
theorem hp216_0 (em mi ic : Nat) : hp (DD em mi ic) 216 0 = 0 := congrArg (fun x : MI => hd0 (x.2.2.1 0).1) (mq_216 em mi ic)
theorem hp216_1 (em mi ic : Nat) : hp (DD em mi ic) 216 1 = 21 := congrArg (fun x : MI => hd0 (x.2.2.1 1).1) (mq_216 em mi ic)
theorem mq_217 (em mi ic : Nat) : (DD em mi ic).1 217 = mt217 := rfl
theorem mb217 (em mi ic : Nat) : mBytes (DD em mi ic) 217 = cJ7_copyOf_1904c := congrArg (fun x : MI => x.1.2.1) (mq_217 em mi ic)
theorem mo217 (em mi ic : Nat) : mOwn (DD em mi ic) 217 = "java/util/Arrays" := congrArg (fun x : MI => x.1.1.cls) (mq_217 em mi ic)
theorem mn217 (em mi ic : Nat) : mName (DD em mi ic) 217 = yJ7_copyOf_1904c := congrArg (fun x : MI => x.1.1) (mq_217 em mi ic)
theorem rt_217 (em mi ic : Nat) : mRet (DD em mi ic) 217 = some (.array (.object "java/lang/Object")) := congrArg (fun x : MI => x.1.2.2.2) (mq_217 em mi ic)
theorem ml_217 (em mi ic : Nat) : mMaxL (DD em mi ic) 217 = 2 := congrArg (fun x : MI => x.1.2.2.1) (mq_217 em mi ic)
theorem hh217 (em mi ic : Nat) : mHH (DD em mi ic) 217 = [] := congrArg (fun x : MI => x.2.2.2.2) (mq_217 em mi ic)
theorem hp217_0 (em mi ic : Nat) : hp (DD em mi ic) 217 0 = 0 := congrArg (fun x : MI => hd0 (x.2.2.1 0).1) (mq_217 em mi ic)
theorem mq_218 (em mi ic : Nat) : (DD em mi ic).1 218 = mt218 := rfl
theorem mb218 (em mi ic : Nat) : mBytes (DD em mi ic) 218 = cX0_hasAsked := congrArg (fun x : MI => x.1.2.1) (mq_218 em mi ic)
theorem mo218 (em mi ic : Nat) : mOwn (DD em mi ic) 218 = "Twelvehundred$Asking" := congrArg (fun x : MI => x.1.1.cls) (mq_218 em mi ic)
theorem mn218 (em mi ic : Nat) : mName (DD em mi ic) 218 = yX0_hasAsked := congrArg (fun x : MI => x.1.1) (mq_218 em mi ic)
theorem rt_218 (em mi ic : Nat) : mRet (DD em mi ic) 218 = some .boolean := congrArg (fun x : MI => x.1.2.2.2) (mq_218 em mi ic)
theorem ml_218 (em mi ic : Nat) : mMaxL (DD em mi ic) 218 = 3 := congrArg (fun x : MI => x.1.2.2.1) (mq_218 em mi ic)
theorem hh218 (em mi ic : Nat) : mHH (DD em mi ic) 218 = [] := congrArg (fun x : MI => x.2.2.2.2) (mq_218 em mi ic)
theorem hp218_0 (em mi ic : Nat) : hp (DD em mi ic) 218 0 = 0 := congrArg (fun x : MI => hd0 (x.2.2.1 0).1) (mq_218 em mi ic)
theorem hp218_1 (em mi ic : Nat) : hp (DD em mi ic) 218 1 = 42 := congrArg (fun x : MI => hd0 (x.2.2.1 1).1) (mq_218 em mi ic)
theorem hp218_2 (em mi ic : Nat) : hp (DD em mi ic) 218 2 = 43 := congrArg (fun x : MI => hd0 (x.2.2.1 2).1) (mq_218 em mi ic)
theorem mq_219 (em mi ic : Nat) : (DD em mi ic).1 219 = mt219 := rfl
theorem mb219 (em mi ic : Nat) : mBytes (DD em mi ic) 219 = cX7_leastOf := congrArg (fun x : MI => x.1.2.1) (mq_219 em mi ic)
theorem mo219 (em mi ic : Nat) : mOwn (DD em mi ic) 219 = "Twelvehundred$Placing" := congrArg (fun x : MI => x.1.1.cls) (mq_219 em mi ic)
theorem mn219 (em mi ic : Nat) : mName (DD em mi ic) 219 = yX7_leastOf := congrArg (fun x : MI => x.1.1) (mq_219 em mi ic)
theorem rt_219 (em mi ic : Nat) : mRet (DD em mi ic) 219 = some (.object "Twelvehundred$Household") := congrArg (fun x : MI => x.1.2.2.2) (mq_219 em mi ic)
theorem ml_219 (em mi ic : Nat) : mMaxL (DD em mi ic) 219 = 5 := congrArg (fun x : MI => x.1.2.2.1) (mq_219 em mi ic)
theorem hh219 (em mi ic : Nat) : mHH (DD em mi ic) 219 = [] := congrArg (fun x : MI => x.2.2.2.2) (mq_219 em mi ic)
theorem hp219_0 (em mi ic : Nat) : hp (DD em mi ic) 219 0 = 0 := congrArg (fun x : MI => hd0 (x.2.2.1 0).1) (mq_219 em mi ic)
theorem hp219_1 (em mi ic : Nat) : hp (DD em mi ic) 219 1 = 4 := congrArg (fun x : MI => hd0 (x.2.2.1 1).1) (mq_219 em mi ic)
theorem hp219_2 (em mi ic : Nat) : hp (DD em mi ic) 219 2 = 51 := congrArg (fun x : MI => hd0 (x.2.2.1 2).1) (mq_219 em mi ic)
theorem hp219_3 (em mi ic : Nat) : hp (DD em mi ic) 219 3 = 54 := congrArg (fun x : MI => hd0 (x.2.2.1 3).1) (mq_219 em mi ic)
theorem hp219_4 (em mi ic : Nat) : hp (DD em mi ic) 219 4 = 60 := congrArg (fun x : MI => hd0 (x.2.2.1 4).1) (mq_219 em mi ic)
theorem mq_220 (em mi ic : Nat) : (DD em mi ic).1 220 = mt220 := rfl
theorem mb220 (em mi ic : Nat) : mBytes (DD em mi ic) 220 = cJ5_length_8abf5 := congrArg (fun x : MI => x.1.2.1) (mq_220 em mi ic)
theorem mo220 (em mi ic : Nat) : mOwn (DD em mi ic) 220 = "java/lang/AbstractStringBuilder" := congrArg (fun x : MI => x.1.1.cls) (mq_220 em mi ic)
theorem mn220 (em mi ic : Nat) : mName (DD em mi ic) 220 = yJ5_length_8abf5 := congrArg (fun x : MI => x.1.1) (mq_220 em mi ic)
theorem rt_220 (em mi ic : Nat) : mRet (DD em mi ic) 220 = some .int := congrArg (fun x : MI => x.1.2.2.2) (mq_220 em mi ic)
theorem ml_220 (em mi ic : Nat) : mMaxL (DD em mi ic) 220 = 1 := congrArg (fun x : MI => x.1.2.2.1) (mq_220 em mi ic)
theorem hh220 (em mi ic : Nat) : mHH (DD em mi ic) 220 = [] := congrArg (fun x : MI => x.2.2.2.2) (mq_220 em mi ic)
theorem hp220_0 (em mi ic : Nat) : hp (DD em mi ic) 220 0 = 0 := congrArg (fun x : MI => hd0 (x.2.2.1 0).1) (mq_220 em mi ic)
theorem mq_221 (em mi ic : Nat) : (DD em mi ic).1 221 = mt221 := rfl
theorem mb221 (em mi ic : Nat) : mBytes (DD em mi ic) 221 = cJ7_copyOfRangeByte_39247 := congrArg (fun x : MI => x.1.2.1) (mq_221 em mi ic)
theorem mo221 (em mi ic : Nat) : mOwn (DD em mi ic) 221 = "java/util/Arrays" := congrArg (fun x : MI => x.1.1.cls) (mq_221 em mi ic)
theorem mn221 (em mi ic : Nat) : mName (DD em mi ic) 221 = yJ7_copyOfRangeByte_39247 := congrArg (fun x : MI => x.1.1) (mq_221 em mi ic)
theorem rt_221 (em mi ic : Nat) : mRet (DD em mi ic) 221 = some (.array .byte) := congrArg (fun x : MI => x.1.2.2.2) (mq_221 em mi ic)
theorem ml_221 (em mi ic : Nat) : mMaxL (DD em mi ic) 221 = 5 := congrArg (fun x : MI => x.1.2.2.1) (mq_221 em mi ic)
theorem hh221 (em mi ic : Nat) : mHH (DD em mi ic) 221 = [] := congrArg (fun x : MI => x.2.2.2.2) (mq_221 em mi ic)
theorem hp221_0 (em mi ic : Nat) : hp (DD em mi ic) 221 0 = 0 := congrArg (fun x : MI => hd0 (x.2.2.1 0).1) (mq_221 em mi ic)
theorem mq_222 (em mi ic : Nat) : (DD em mi ic).1 222 = mt222 := rfl
theorem mb222 (em mi ic : Nat) : mBytes (DD em mi ic) 222 = cJ7_copyOf_6403c := congrArg (fun x : MI => x.1.2.1) (mq_222 em mi ic)
theorem mo222 (em mi ic : Nat) : mOwn (DD em mi ic) 222 = "java/util/Arrays" := congrArg (fun x : MI => x.1.1.cls) (mq_222 em mi ic)
theorem mn222 (em mi ic : Nat) : mName (DD em mi ic) 222 = yJ7_copyOf_6403c := congrArg (fun x : MI => x.1.1) (mq_222 em mi ic)
theorem rt_222 (em mi ic : Nat) : mRet (DD em mi ic) 222 = some (.array (.object "java/lang/Object")) := congrArg (fun x : MI => x.1.2.2.2) (mq_222 em mi ic)
theorem ml_222 (em mi ic : Nat) : mMaxL (DD em mi ic) 222 = 4 := congrArg (fun x : MI => x.1.2.2.1) (mq_222 em mi ic)
theorem hh222 (em mi ic : Nat) : mHH (DD em mi ic) 222 = [] := congrArg (fun x : MI => x.2.2.2.2) (mq_222 em mi ic)
theorem hp222_0 (em mi ic : Nat) : hp (DD em mi ic) 222 0 = 0 := congrArg (fun x : MI => hd0 (x.2.2.1 0).1) (mq_222 em mi ic)
theorem hp222_1 (em mi ic : Nat) : hp (DD em mi ic) 222 1 = 13 := congrArg (fun x : MI => hd0 (x.2.2.1 1).1) (mq_222 em mi ic)
theorem hp222_2 (em mi ic : Nat) : hp (DD em mi ic) 222 2 = 24 := congrArg (fun x : MI => hd0 (x.2.2.1 2).1) (mq_222 em mi ic)
theorem mq_223 (em mi ic : Nat) : (DD em mi ic).1 223 = mt223 := rfl
theorem mb223 (em mi ic : Nat) : mBytes (DD em mi ic) 223 = cJ7_checkLength_df160 := congrArg (fun x : MI => x.1.2.1) (mq_223 em mi ic)
theorem mo223 (em mi ic : Nat) : mOwn (DD em mi ic) 223 = "java/util/Arrays" := congrArg (fun x : MI => x.1.1.cls) (mq_223 em mi ic)
theorem mn223 (em mi ic : Nat) : mName (DD em mi ic) 223 = yJ7_checkLength_df160 := congrArg (fun x : MI => x.1.1) (mq_223 em mi ic)
theorem rt_223 (em mi ic : Nat) : mRet (DD em mi ic) 223 = none := congrArg (fun x : MI => x.1.2.2.2) (mq_223 em mi ic)
theorem ml_223 (em mi ic : Nat) : mMaxL (DD em mi ic) 223 = 2 := congrArg (fun x : MI => x.1.2.2.1) (mq_223 em mi ic)
theorem hh223 (em mi ic : Nat) : mHH (DD em mi ic) 223 = [] := congrArg (fun x : MI => x.2.2.2.2) (mq_223 em mi ic)
theorem hp223_0 (em mi ic : Nat) : hp (DD em mi ic) 223 0 = 0 := congrArg (fun x : MI => hd0 (x.2.2.1 0).1) (mq_223 em mi ic)
theorem hp223_1 (em mi ic : Nat) : hp (DD em mi ic) 223 1 = 37 := congrArg (fun x : MI => hd0 (x.2.2.1 1).1) (mq_223 em mi ic)
theorem nmh_0 : "Twelvehundred" ≠ "java/lang/invoke/MethodHandle" := by decide
theorem nvh_0 : "Twelvehundred" ≠ "java/lang/invoke/VarHandle" := by decide
theorem cp_0 : (parseMethodDescriptor "()V").map (fun d => d.parameters.length) = some 0 := by decide +kernel
theorem ce_1 (G : va_G) (a0 a1 a2 a3 : ClassId) (n0 : Nat) (em mi ic : Nat) : CalleeOk (VV G a0 a1 a2 a3 n0) (DD em mi ic) 1 0 := oc_ce (mn1 em mi ic) (mb1 em mi ic) (ml_1 em mi ic) (rt_1 em mi ic) (hh1 em mi ic) tw_90 tw_47 nmh_0 nvh_0 cp_0 (Nat.le_of_ble_eq_true rfl)
theorem nmh_1 : "TwelvehundredModel" ≠ "java/lang/invoke/MethodHandle" := by decide
theorem nvh_1 : "TwelvehundredModel" ≠ "java/lang/invoke/VarHandle" := by decide
theorem ce_2 (G : va_G) (a0 a1 a2 a3 : ClassId) (n0 : Nat) (em mi ic : Nat) : CalleeOk (VV G a0 a1 a2 a3 n0) (DD em mi ic) 2 0 := oc_ce (mn2 em mi ic) (mb2 em mi ic) (ml_2 em mi ic) (rt_2 em mi ic) (hh2 em mi ic) tw_1278 tw_57 nmh_1 nvh_1 cp_0 (Nat.le_of_ble_eq_true rfl)
theorem nmh_2 : "TwelvehundredLaw$Out" ≠ "java/lang/invoke/MethodHandle" := by decide
theorem nvh_2 : "TwelvehundredLaw$Out" ≠ "java/lang/invoke/VarHandle" := by decide
theorem ce_3 (G : va_G) (a0 a1 a2 a3 : ClassId) (n0 : Nat) (em mi ic : Nat) : CalleeOk (VV G a0 a1 a2 a3 n0) (DD em mi ic) 3 0 := oc_ce (mn3 em mi ic) (mb3 em mi ic) (ml_3 em mi ic) (rt_3 em mi ic) (hh3 em mi ic) tw_875 tw_58 nmh_2 nvh_2 cp_0 (Nat.le_of_ble_eq_true rfl)
theorem nmh_3 : "TwelvehundredLaw" ≠ "java/lang/invoke/MethodHandle" := by decide
theorem nvh_3 : "TwelvehundredLaw" ≠ "java/lang/invoke/VarHandle" := by decide
theorem cp_1 : (parseMethodDescriptor "(LTwelvehundred;IILTwelvehundredLaw$Out;)I").map (fun d => d.parameters.length) = some 4 := by decide +kernel
theorem ce_4 (G : va_G) (a0 a1 a2 a3 : ClassId) (n0 : Nat) (em mi ic : Nat) : CalleeOk (VV G a0 a1 a2 a3 n0) (DD em mi ic) 4 4 := ⟨tw_883, tw_46, nmh_3, nvh_3, cp_1, Nat.le_of_ble_eq_true rfl⟩
theorem cp_2 : (parseMethodDescriptor "(II)I").map (fun d => d.parameters.length) = some 2 := by decide +kernel
theorem ce_5 (G : va_G) (a0 a1 a2 a3 : ClassId) (n0 : Nat) (em mi ic : Nat) : CalleeOk (VV G a0 a1 a2 a3 n0) (DD em mi ic) 5 2 := oc_ce (mn5 em mi ic) (mb5 em mi ic) (ml_5 em mi ic) (rt_5 em mi ic) (hh5 em mi ic) tw_1344 tw_57 nmh_1 nvh_1 cp_2 (Nat.le_of_ble_eq_true rfl)
theorem ce_6 (G : va_G) (a0 a1 a2 a3 : ClassId) (n0 : Nat) (em mi ic : Nat) : CalleeOk (VV G a0 a1 a2 a3 n0) (DD em mi ic) 6 4 := ⟨tw_984, tw_46, nmh_3, nvh_3, cp_1, Nat.le_of_ble_eq_true rfl⟩
theorem ce_7 (G : va_G) (a0 a1 a2 a3 : ClassId) (n0 : Nat) (em mi ic : Nat) : CalleeOk (VV G a0 a1 a2 a3 n0) (DD em mi ic) 7 2 := oc_ce (mn7 em mi ic) (mb7 em mi ic) (ml_7 em mi ic) (rt_7 em mi ic) (hh7 em mi ic) tw_1357 tw_57 nmh_1 nvh_1 cp_2 (Nat.le_of_ble_eq_true rfl)
theorem ce_8 (G : va_G) (a0 a1 a2 a3 : ClassId) (n0 : Nat) (em mi ic : Nat) : CalleeOk (VV G a0 a1 a2 a3 n0) (DD em mi ic) 8 4 := ⟨tw_1050, tw_46, nmh_3, nvh_3, cp_1, Nat.le_of_ble_eq_true rfl⟩
theorem ce_9 (G : va_G) (a0 a1 a2 a3 : ClassId) (n0 : Nat) (em mi ic : Nat) : CalleeOk (VV G a0 a1 a2 a3 n0) (DD em mi ic) 9 2 := oc_ce (mn9 em mi ic) (mb9 em mi ic) (ml_9 em mi ic) (rt_9 em mi ic) (hh9 em mi ic) tw_1361 tw_57 nmh_1 nvh_1 cp_2 (Nat.le_of_ble_eq_true rfl)
theorem cp_3 : (parseMethodDescriptor "(LTwelvehundred;IIZLTwelvehundredLaw$Out;)I").map (fun d => d.parameters.length) = some 5 := by decide +kernel
theorem ce_10 (G : va_G) (a0 a1 a2 a3 : ClassId) (n0 : Nat) (em mi ic : Nat) : CalleeOk (VV G a0 a1 a2 a3 n0) (DD em mi ic) 10 5 := ⟨tw_1059, tw_46, nmh_3, nvh_3, cp_3, Nat.le_of_ble_eq_true rfl⟩
theorem cp_4 : (parseMethodDescriptor "(IIZ)I").map (fun d => d.parameters.length) = some 3 := by decide +kernel
theorem ce_11 (G : va_G) (a0 a1 a2 a3 : ClassId) (n0 : Nat) (em mi ic : Nat) : CalleeOk (VV G a0 a1 a2 a3 n0) (DD em mi ic) 11 3 := oc_ce (mn11 em mi ic) (mb11 em mi ic) (ml_11 em mi ic) (rt_11 em mi ic) (hh11 em mi ic) tw_1371 tw_57 nmh_1 nvh_1 cp_4 (Nat.le_of_ble_eq_true rfl)
theorem ce_12 (G : va_G) (a0 a1 a2 a3 : ClassId) (n0 : Nat) (em mi ic : Nat) : CalleeOk (VV G a0 a1 a2 a3 n0) (DD em mi ic) 12 4 := ⟨tw_1100, tw_46, nmh_3, nvh_3, cp_1, Nat.le_of_ble_eq_true rfl⟩
theorem ce_13 (G : va_G) (a0 a1 a2 a3 : ClassId) (n0 : Nat) (em mi ic : Nat) : CalleeOk (VV G a0 a1 a2 a3 n0) (DD em mi ic) 13 2 := oc_ce (mn13 em mi ic) (mb13 em mi ic) (ml_13 em mi ic) (rt_13 em mi ic) (hh13 em mi ic) tw_1402 tw_57 nmh_1 nvh_1 cp_2 (Nat.le_of_ble_eq_true rfl)
theorem cp_5 : (parseMethodDescriptor "(LTwelvehundred;ILTwelvehundredLaw$Out;)I").map (fun d => d.parameters.length) = some 3 := by decide +kernel
theorem ce_14 (G : va_G) (a0 a1 a2 a3 : ClassId) (n0 : Nat) (em mi ic : Nat) : CalleeOk (VV G a0 a1 a2 a3 n0) (DD em mi ic) 14 3 := ⟨tw_1108, tw_46, nmh_3, nvh_3, cp_5, Nat.le_of_ble_eq_true rfl⟩
theorem cp_6 : (parseMethodDescriptor "(I)I").map (fun d => d.parameters.length) = some 1 := by decide +kernel
theorem ce_15 (G : va_G) (a0 a1 a2 a3 : ClassId) (n0 : Nat) (em mi ic : Nat) : CalleeOk (VV G a0 a1 a2 a3 n0) (DD em mi ic) 15 1 := oc_ce (mn15 em mi ic) (mb15 em mi ic) (ml_15 em mi ic) (rt_15 em mi ic) (hh15 em mi ic) tw_1406 tw_57 nmh_1 nvh_1 cp_6 (Nat.le_of_ble_eq_true rfl)
theorem ce_16 (G : va_G) (a0 a1 a2 a3 : ClassId) (n0 : Nat) (em mi ic : Nat) : CalleeOk (VV G a0 a1 a2 a3 n0) (DD em mi ic) 16 3 := ⟨tw_1116, tw_46, nmh_3, nvh_3, cp_5, Nat.le_of_ble_eq_true rfl⟩
theorem ce_17 (G : va_G) (a0 a1 a2 a3 : ClassId) (n0 : Nat) (em mi ic : Nat) : CalleeOk (VV G a0 a1 a2 a3 n0) (DD em mi ic) 17 1 := oc_ce (mn17 em mi ic) (mb17 em mi ic) (ml_17 em mi ic) (rt_17 em mi ic) (hh17 em mi ic) tw_1410 tw_57 nmh_1 nvh_1 cp_6 (Nat.le_of_ble_eq_true rfl)
theorem ce_18 (G : va_G) (a0 a1 a2 a3 : ClassId) (n0 : Nat) (em mi ic : Nat) : CalleeOk (VV G a0 a1 a2 a3 n0) (DD em mi ic) 18 3 := ⟨tw_1124, tw_46, nmh_3, nvh_3, cp_5, Nat.le_of_ble_eq_true rfl⟩
theorem ce_19 (G : va_G) (a0 a1 a2 a3 : ClassId) (n0 : Nat) (em mi ic : Nat) : CalleeOk (VV G a0 a1 a2 a3 n0) (DD em mi ic) 19 1 := oc_ce (mn19 em mi ic) (mb19 em mi ic) (ml_19 em mi ic) (rt_19 em mi ic) (hh19 em mi ic) tw_1418 tw_57 nmh_1 nvh_1 cp_6 (Nat.le_of_ble_eq_true rfl)
theorem cp_7 : (parseMethodDescriptor "()I").map (fun d => d.parameters.length) = some 0 := by decide +kernel
theorem ce_20 (G : va_G) (a0 a1 a2 a3 : ClassId) (n0 : Nat) (em mi ic : Nat) : CalleeOk (VV G a0 a1 a2 a3 n0) (DD em mi ic) 20 0 := oc_ce (mn20 em mi ic) (mb20 em mi ic) (ml_20 em mi ic) (rt_20 em mi ic) (hh20 em mi ic) tw_1340 tw_57 nmh_1 nvh_1 cp_7 (Nat.le_of_ble_eq_true rfl)
theorem ce_21 (G : va_G) (a0 a1 a2 a3 : ClassId) (n0 : Nat) (em mi ic : Nat) : CalleeOk (VV G a0 a1 a2 a3 n0) (DD em mi ic) 21 4 := ⟨tw_1148, tw_46, nmh_3, nvh_3, cp_1, Nat.le_of_ble_eq_true rfl⟩
theorem ce_22 (G : va_G) (a0 a1 a2 a3 : ClassId) (n0 : Nat) (em mi ic : Nat) : CalleeOk (VV G a0 a1 a2 a3 n0) (DD em mi ic) 22 2 := oc_ce (mn22 em mi ic) (mb22 em mi ic) (ml_22 em mi ic) (rt_22 em mi ic) (hh22 em mi ic) tw_1474 tw_57 nmh_1 nvh_1 cp_2 (Nat.le_of_ble_eq_true rfl)
theorem ce_23 (G : va_G) (a0 a1 a2 a3 : ClassId) (n0 : Nat) (em mi ic : Nat) : CalleeOk (VV G a0 a1 a2 a3 n0) (DD em mi ic) 23 3 := ⟨tw_1176, tw_46, nmh_3, nvh_3, cp_5, Nat.le_of_ble_eq_true rfl⟩
theorem ce_24 (G : va_G) (a0 a1 a2 a3 : ClassId) (n0 : Nat) (em mi ic : Nat) : CalleeOk (VV G a0 a1 a2 a3 n0) (DD em mi ic) 24 1 := oc_ce (mn24 em mi ic) (mb24 em mi ic) (ml_24 em mi ic) (rt_24 em mi ic) (hh24 em mi ic) tw_1478 tw_57 nmh_1 nvh_1 cp_6 (Nat.le_of_ble_eq_true rfl)
theorem ce_25 (G : va_G) (a0 a1 a2 a3 : ClassId) (n0 : Nat) (em mi ic : Nat) : CalleeOk (VV G a0 a1 a2 a3 n0) (DD em mi ic) 25 3 := ⟨tw_1193, tw_46, nmh_3, nvh_3, cp_5, Nat.le_of_ble_eq_true rfl⟩
theorem ce_26 (G : va_G) (a0 a1 a2 a3 : ClassId) (n0 : Nat) (em mi ic : Nat) : CalleeOk (VV G a0 a1 a2 a3 n0) (DD em mi ic) 26 1 := oc_ce (mn26 em mi ic) (mb26 em mi ic) (ml_26 em mi ic) (rt_26 em mi ic) (hh26 em mi ic) tw_1482 tw_57 nmh_1 nvh_1 cp_6 (Nat.le_of_ble_eq_true rfl)
theorem cp_8 : (parseMethodDescriptor "(LTwelvehundred;IZLTwelvehundredLaw$Out;)I").map (fun d => d.parameters.length) = some 4 := by decide +kernel
theorem ce_27 (G : va_G) (a0 a1 a2 a3 : ClassId) (n0 : Nat) (em mi ic : Nat) : CalleeOk (VV G a0 a1 a2 a3 n0) (DD em mi ic) 27 4 := ⟨tw_1226, tw_46, nmh_3, nvh_3, cp_8, Nat.le_of_ble_eq_true rfl⟩
theorem cp_9 : (parseMethodDescriptor "(IZ)I").map (fun d => d.parameters.length) = some 2 := by decide +kernel
theorem ce_28 (G : va_G) (a0 a1 a2 a3 : ClassId) (n0 : Nat) (em mi ic : Nat) : CalleeOk (VV G a0 a1 a2 a3 n0) (DD em mi ic) 28 2 := oc_ce (mn28 em mi ic) (mb28 em mi ic) (ml_28 em mi ic) (rt_28 em mi ic) (hh28 em mi ic) tw_1510 tw_57 nmh_1 nvh_1 cp_9 (Nat.le_of_ble_eq_true rfl)
theorem ce_29 (G : va_G) (a0 a1 a2 a3 : ClassId) (n0 : Nat) (em mi ic : Nat) : CalleeOk (VV G a0 a1 a2 a3 n0) (DD em mi ic) 29 0 := oc_ce (mn29 em mi ic) (mb29 em mi ic) (ml_29 em mi ic) (rt_29 em mi ic) (hh29 em mi ic) tw_281 tw_47 nmh_0 nvh_0 cp_7 (Nat.le_of_ble_eq_true rfl)
theorem ce_30 (G : va_G) (a0 a1 a2 a3 : ClassId) (n0 : Nat) (em mi ic : Nat) : CalleeOk (VV G a0 a1 a2 a3 n0) (DD em mi ic) 30 0 := oc_ce (mn30 em mi ic) (mb30 em mi ic) (ml_30 em mi ic) (rt_30 em mi ic) (hh30 em mi ic) tw_1539 tw_57 nmh_1 nvh_1 cp_7 (Nat.le_of_ble_eq_true rfl)
theorem ce_31 (G : va_G) (a0 a1 a2 a3 : ClassId) (n0 : Nat) (em mi ic : Nat) : CalleeOk (VV G a0 a1 a2 a3 n0) (DD em mi ic) 31 4 := ⟨tw_1234, tw_46, nmh_3, nvh_3, cp_1, Nat.le_of_ble_eq_true rfl⟩
theorem ce_32 (G : va_G) (a0 a1 a2 a3 : ClassId) (n0 : Nat) (em mi ic : Nat) : CalleeOk (VV G a0 a1 a2 a3 n0) (DD em mi ic) 32 2 := oc_ce (mn32 em mi ic) (mb32 em mi ic) (ml_32 em mi ic) (rt_32 em mi ic) (hh32 em mi ic) tw_1543 tw_57 nmh_1 nvh_1 cp_2 (Nat.le_of_ble_eq_true rfl)
theorem ce_33 (G : va_G) (a0 a1 a2 a3 : ClassId) (n0 : Nat) (em mi ic : Nat) : CalleeOk (VV G a0 a1 a2 a3 n0) (DD em mi ic) 33 4 := ⟨tw_1238, tw_46, nmh_3, nvh_3, cp_1, Nat.le_of_ble_eq_true rfl⟩
theorem ce_34 (G : va_G) (a0 a1 a2 a3 : ClassId) (n0 : Nat) (em mi ic : Nat) : CalleeOk (VV G a0 a1 a2 a3 n0) (DD em mi ic) 34 2 := oc_ce (mn34 em mi ic) (mb34 em mi ic) (ml_34 em mi ic) (rt_34 em mi ic) (hh34 em mi ic) tw_1559 tw_57 nmh_1 nvh_1 cp_2 (Nat.le_of_ble_eq_true rfl)
theorem ce_35 (G : va_G) (a0 a1 a2 a3 : ClassId) (n0 : Nat) (em mi ic : Nat) : CalleeOk (VV G a0 a1 a2 a3 n0) (DD em mi ic) 35 4 := ⟨tw_1242, tw_46, nmh_3, nvh_3, cp_1, Nat.le_of_ble_eq_true rfl⟩
theorem ce_36 (G : va_G) (a0 a1 a2 a3 : ClassId) (n0 : Nat) (em mi ic : Nat) : CalleeOk (VV G a0 a1 a2 a3 n0) (DD em mi ic) 36 2 := oc_ce (mn36 em mi ic) (mb36 em mi ic) (ml_36 em mi ic) (rt_36 em mi ic) (hh36 em mi ic) tw_1595 tw_57 nmh_1 nvh_1 cp_2 (Nat.le_of_ble_eq_true rfl)
theorem ce_37 (G : va_G) (a0 a1 a2 a3 : ClassId) (n0 : Nat) (em mi ic : Nat) : CalleeOk (VV G a0 a1 a2 a3 n0) (DD em mi ic) 37 4 := ⟨tw_1246, tw_46, nmh_3, nvh_3, cp_1, Nat.le_of_ble_eq_true rfl⟩
theorem ce_38 (G : va_G) (a0 a1 a2 a3 : ClassId) (n0 : Nat) (em mi ic : Nat) : CalleeOk (VV G a0 a1 a2 a3 n0) (DD em mi ic) 38 2 := oc_ce (mn38 em mi ic) (mb38 em mi ic) (ml_38 em mi ic) (rt_38 em mi ic) (hh38 em mi ic) tw_1611 tw_57 nmh_1 nvh_1 cp_2 (Nat.le_of_ble_eq_true rfl)
theorem ce_39 (G : va_G) (a0 a1 a2 a3 : ClassId) (n0 : Nat) (em mi ic : Nat) : CalleeOk (VV G a0 a1 a2 a3 n0) (DD em mi ic) 39 3 := ⟨tw_1250, tw_46, nmh_3, nvh_3, cp_5, Nat.le_of_ble_eq_true rfl⟩
theorem ce_40 (G : va_G) (a0 a1 a2 a3 : ClassId) (n0 : Nat) (em mi ic : Nat) : CalleeOk (VV G a0 a1 a2 a3 n0) (DD em mi ic) 40 1 := oc_ce (mn40 em mi ic) (mb40 em mi ic) (ml_40 em mi ic) (rt_40 em mi ic) (hh40 em mi ic) tw_1615 tw_57 nmh_1 nvh_1 cp_6 (Nat.le_of_ble_eq_true rfl)
theorem cp_10 : (parseMethodDescriptor "()Ljava/lang/String;").map (fun d => d.parameters.length) = some 0 := by decide +kernel
theorem ce_41 (G : va_G) (a0 a1 a2 a3 : ClassId) (n0 : Nat) (em mi ic : Nat) : CalleeOk (VV G a0 a1 a2 a3 n0) (DD em mi ic) 41 0 := oc_ce (mn41 em mi ic) (mb41 em mi ic) (ml_41 em mi ic) (rt_41 em mi ic) (hh41 em mi ic) tw_285 tw_47 nmh_0 nvh_0 cp_10 (Nat.le_of_ble_eq_true rfl)
theorem ce_42 (G : va_G) (a0 a1 a2 a3 : ClassId) (n0 : Nat) (em mi ic : Nat) : CalleeOk (VV G a0 a1 a2 a3 n0) (DD em mi ic) 42 0 := oc_ce (mn42 em mi ic) (mb42 em mi ic) (ml_42 em mi ic) (rt_42 em mi ic) (hh42 em mi ic) tw_1631 tw_57 nmh_1 nvh_1 cp_10 (Nat.le_of_ble_eq_true rfl)
theorem ce_43 (G : va_G) (a0 a1 a2 a3 : ClassId) (n0 : Nat) (em mi ic : Nat) : CalleeOk (VV G a0 a1 a2 a3 n0) (DD em mi ic) 43 3 := ⟨tw_1254, tw_46, nmh_3, nvh_3, cp_5, Nat.le_of_ble_eq_true rfl⟩
theorem cp_11 : (parseMethodDescriptor "(I)Z").map (fun d => d.parameters.length) = some 1 := by decide +kernel
theorem ce_44 (G : va_G) (a0 a1 a2 a3 : ClassId) (n0 : Nat) (em mi ic : Nat) : CalleeOk (VV G a0 a1 a2 a3 n0) (DD em mi ic) 44 1 := oc_ce (mn44 em mi ic) (mb44 em mi ic) (ml_44 em mi ic) (rt_44 em mi ic) (hh44 em mi ic) tw_1643 tw_57 nmh_1 nvh_1 cp_11 (Nat.le_of_ble_eq_true rfl)
theorem ce_45 (G : va_G) (a0 a1 a2 a3 : ClassId) (n0 : Nat) (em mi ic : Nat) : CalleeOk (VV G a0 a1 a2 a3 n0) (DD em mi ic) 45 0 := oc_ce (mn45 em mi ic) (mb45 em mi ic) (ml_45 em mi ic) (rt_45 em mi ic) (hh45 em mi ic) tw_643 tw_47 nmh_0 nvh_0 cp_7 (Nat.le_of_ble_eq_true rfl)
theorem ce_46 (G : va_G) (a0 a1 a2 a3 : ClassId) (n0 : Nat) (em mi ic : Nat) : CalleeOk (VV G a0 a1 a2 a3 n0) (DD em mi ic) 46 0 := oc_ce (mn46 em mi ic) (mb46 em mi ic) (ml_46 em mi ic) (rt_46 em mi ic) (hh46 em mi ic) tw_1647 tw_57 nmh_1 nvh_1 cp_7 (Nat.le_of_ble_eq_true rfl)
theorem ce_47 (G : va_G) (a0 a1 a2 a3 : ClassId) (n0 : Nat) (em mi ic : Nat) : CalleeOk (VV G a0 a1 a2 a3 n0) (DD em mi ic) 47 1 := oc_ce (mn47 em mi ic) (mb47 em mi ic) (ml_47 em mi ic) (rt_47 em mi ic) (hh47 em mi ic) tw_680 tw_47 nmh_0 nvh_0 cp_11 (Nat.le_of_ble_eq_true rfl)
theorem ce_48 (G : va_G) (a0 a1 a2 a3 : ClassId) (n0 : Nat) (em mi ic : Nat) : CalleeOk (VV G a0 a1 a2 a3 n0) (DD em mi ic) 48 1 := oc_ce (mn48 em mi ic) (mb48 em mi ic) (ml_48 em mi ic) (rt_48 em mi ic) (hh48 em mi ic) tw_1651 tw_57 nmh_1 nvh_1 cp_11 (Nat.le_of_ble_eq_true rfl)
theorem ce_49 (G : va_G) (a0 a1 a2 a3 : ClassId) (n0 : Nat) (em mi ic : Nat) : CalleeOk (VV G a0 a1 a2 a3 n0) (DD em mi ic) 49 4 := ⟨tw_1263, tw_46, nmh_3, nvh_3, cp_1, Nat.le_of_ble_eq_true rfl⟩
theorem ce_50 (G : va_G) (a0 a1 a2 a3 : ClassId) (n0 : Nat) (em mi ic : Nat) : CalleeOk (VV G a0 a1 a2 a3 n0) (DD em mi ic) 50 2 := oc_ce (mn50 em mi ic) (mb50 em mi ic) (ml_50 em mi ic) (rt_50 em mi ic) (hh50 em mi ic) tw_1660 tw_57 nmh_1 nvh_1 cp_2 (Nat.le_of_ble_eq_true rfl)
theorem ce_51 (G : va_G) (a0 a1 a2 a3 : ClassId) (n0 : Nat) (em mi ic : Nat) : CalleeOk (VV G a0 a1 a2 a3 n0) (DD em mi ic) 51 4 := ⟨tw_1267, tw_46, nmh_3, nvh_3, cp_1, Nat.le_of_ble_eq_true rfl⟩
theorem cp_12 : (parseMethodDescriptor "(II)Z").map (fun d => d.parameters.length) = some 2 := by decide +kernel
theorem ce_52 (G : va_G) (a0 a1 a2 a3 : ClassId) (n0 : Nat) (em mi ic : Nat) : CalleeOk (VV G a0 a1 a2 a3 n0) (DD em mi ic) 52 2 := oc_ce (mn52 em mi ic) (mb52 em mi ic) (ml_52 em mi ic) (rt_52 em mi ic) (hh52 em mi ic) tw_1668 tw_57 nmh_1 nvh_1 cp_12 (Nat.le_of_ble_eq_true rfl)
theorem cp_13 : (parseMethodDescriptor "()Z").map (fun d => d.parameters.length) = some 0 := by decide +kernel
theorem ce_53 (G : va_G) (a0 a1 a2 a3 : ClassId) (n0 : Nat) (em mi ic : Nat) : CalleeOk (VV G a0 a1 a2 a3 n0) (DD em mi ic) 53 0 := oc_ce (mn53 em mi ic) (mb53 em mi ic) (ml_53 em mi ic) (rt_53 em mi ic) (hh53 em mi ic) tw_745 tw_47 nmh_0 nvh_0 cp_13 (Nat.le_of_ble_eq_true rfl)
theorem ce_54 (G : va_G) (a0 a1 a2 a3 : ClassId) (n0 : Nat) (em mi ic : Nat) : CalleeOk (VV G a0 a1 a2 a3 n0) (DD em mi ic) 54 0 := oc_ce (mn54 em mi ic) (mb54 em mi ic) (ml_54 em mi ic) (rt_54 em mi ic) (hh54 em mi ic) tw_1672 tw_57 nmh_1 nvh_1 cp_13 (Nat.le_of_ble_eq_true rfl)
theorem cp_14 : (parseMethodDescriptor "()J").map (fun d => d.parameters.length) = some 0 := by decide +kernel
theorem ce_55 (G : va_G) (a0 a1 a2 a3 : ClassId) (n0 : Nat) (em mi ic : Nat) : CalleeOk (VV G a0 a1 a2 a3 n0) (DD em mi ic) 55 0 := oc_ce (mn55 em mi ic) (mb55 em mi ic) (ml_55 em mi ic) (rt_55 em mi ic) (hh55 em mi ic) tw_789 tw_47 nmh_0 nvh_0 cp_14 (Nat.le_of_ble_eq_true rfl)
theorem ce_56 (G : va_G) (a0 a1 a2 a3 : ClassId) (n0 : Nat) (em mi ic : Nat) : CalleeOk (VV G a0 a1 a2 a3 n0) (DD em mi ic) 56 0 := oc_ce (mn56 em mi ic) (mb56 em mi ic) (ml_56 em mi ic) (rt_56 em mi ic) (hh56 em mi ic) tw_1684 tw_57 nmh_1 nvh_1 cp_14 (Nat.le_of_ble_eq_true rfl)
theorem nmh_4 : "Twelvehundred$River" ≠ "java/lang/invoke/MethodHandle" := by decide
theorem nvh_4 : "Twelvehundred$River" ≠ "java/lang/invoke/VarHandle" := by decide
theorem ce_57 (G : va_G) (a0 a1 a2 a3 : ClassId) (n0 : Nat) (em mi ic : Nat) : CalleeOk (VV G a0 a1 a2 a3 n0) (DD em mi ic) 57 0 := oc_ce (mn57 em mi ic) (mb57 em mi ic) (ml_57 em mi ic) (rt_57 em mi ic) (hh57 em mi ic) tw_98 tw_48 nmh_4 nvh_4 cp_0 (Nat.le_of_ble_eq_true rfl)
theorem nmh_5 : "java/util/ArrayList" ≠ "java/lang/invoke/MethodHandle" := by decide
theorem nvh_5 : "java/util/ArrayList" ≠ "java/lang/invoke/VarHandle" := by decide
theorem ce_58 (G : va_G) (a0 a1 a2 a3 : ClassId) (n0 : Nat) (em mi ic : Nat) : CalleeOk (VV G a0 a1 a2 a3 n0) (DD em mi ic) 58 0 := oc_ce (mn58 em mi ic) (mb58 em mi ic) (ml_58 em mi ic) (rt_58 em mi ic) (hh58 em mi ic) tw_117 tw_51 nmh_5 nvh_5 cp_0 (Nat.le_of_ble_eq_true rfl)
theorem nmh_6 : "Twelvehundred$Placing" ≠ "java/lang/invoke/MethodHandle" := by decide
theorem nvh_6 : "Twelvehundred$Placing" ≠ "java/lang/invoke/VarHandle" := by decide
theorem cp_15 : (parseMethodDescriptor "(Ljava/util/ArrayList;Ljava/util/ArrayList;)V").map (fun d => d.parameters.length) = some 2 := by decide +kernel
theorem ce_59 (G : va_G) (a0 a1 a2 a3 : ClassId) (n0 : Nat) (em mi ic : Nat) : CalleeOk (VV G a0 a1 a2 a3 n0) (DD em mi ic) 59 2 := oc_ce (mn59 em mi ic) (mb59 em mi ic) (ml_59 em mi ic) (rt_59 em mi ic) (hh59 em mi ic) tw_146 tw_52 nmh_6 nvh_6 cp_15 (Nat.le_of_ble_eq_true rfl)
theorem nmh_7 : "Twelvehundred$Rescue" ≠ "java/lang/invoke/MethodHandle" := by decide
theorem nvh_7 : "Twelvehundred$Rescue" ≠ "java/lang/invoke/VarHandle" := by decide
theorem cp_16 : (parseMethodDescriptor "(LTwelvehundred$River;Ljava/util/ArrayList;)V").map (fun d => d.parameters.length) = some 2 := by decide +kernel
theorem ce_60 (G : va_G) (a0 a1 a2 a3 : ClassId) (n0 : Nat) (em mi ic : Nat) : CalleeOk (VV G a0 a1 a2 a3 n0) (DD em mi ic) 60 2 := oc_ce (mn60 em mi ic) (mb60 em mi ic) (ml_60 em mi ic) (rt_60 em mi ic) (hh60 em mi ic) tw_164 tw_53 nmh_7 nvh_7 cp_16 (Nat.le_of_ble_eq_true rfl)
theorem nmh_8 : "Twelvehundred$Asking" ≠ "java/lang/invoke/MethodHandle" := by decide
theorem nvh_8 : "Twelvehundred$Asking" ≠ "java/lang/invoke/VarHandle" := by decide
theorem cp_17 : (parseMethodDescriptor "(Ljava/util/ArrayList;Ljava/util/ArrayList;LTwelvehundred$Placing;)V").map (fun d => d.parameters.length) = some 3 := by decide +kernel
theorem ce_61 (G : va_G) (a0 a1 a2 a3 : ClassId) (n0 : Nat) (em mi ic : Nat) : CalleeOk (VV G a0 a1 a2 a3 n0) (DD em mi ic) 61 3 := oc_ce (mn61 em mi ic) (mb61 em mi ic) (ml_61 em mi ic) (rt_61 em mi ic) (hh61 em mi ic) tw_185 tw_54 nmh_8 nvh_8 cp_17 (Nat.le_of_ble_eq_true rfl)
theorem nmh_9 : "Twelvehundred$Larder" ≠ "java/lang/invoke/MethodHandle" := by decide
theorem nvh_9 : "Twelvehundred$Larder" ≠ "java/lang/invoke/VarHandle" := by decide
theorem ce_62 (G : va_G) (a0 a1 a2 a3 : ClassId) (n0 : Nat) (em mi ic : Nat) : CalleeOk (VV G a0 a1 a2 a3 n0) (DD em mi ic) 62 0 := oc_ce (mn62 em mi ic) (mb62 em mi ic) (ml_62 em mi ic) (rt_62 em mi ic) (hh62 em mi ic) tw_209 tw_55 nmh_9 nvh_9 cp_0 (Nat.le_of_ble_eq_true rfl)
theorem nmh_10 : "Twelvehundred$Bulletin" ≠ "java/lang/invoke/MethodHandle" := by decide
theorem nvh_10 : "Twelvehundred$Bulletin" ≠ "java/lang/invoke/VarHandle" := by decide
theorem ce_63 (G : va_G) (a0 a1 a2 a3 : ClassId) (n0 : Nat) (em mi ic : Nat) : CalleeOk (VV G a0 a1 a2 a3 n0) (DD em mi ic) 63 0 := oc_ce (mn63 em mi ic) (mb63 em mi ic) (ml_63 em mi ic) (rt_63 em mi ic) (hh63 em mi ic) tw_234 tw_56 nmh_10 nvh_10 cp_0 (Nat.le_of_ble_eq_true rfl)
theorem ce_64 (G : va_G) (a0 a1 a2 a3 : ClassId) (n0 : Nat) (em mi ic : Nat) : CalleeOk (VV G a0 a1 a2 a3 n0) (DD em mi ic) 64 2 := oc_ce (mn64 em mi ic) (mb64 em mi ic) (ml_64 em mi ic) (rt_64 em mi ic) (hh64 em mi ic) tw_889 tw_47 nmh_0 nvh_0 cp_2 (Nat.le_of_ble_eq_true rfl)
theorem cp_18 : (parseMethodDescriptor "(III)Z").map (fun d => d.parameters.length) = some 3 := by decide +kernel
theorem ce_65 (G : va_G) (a0 a1 a2 a3 : ClassId) (n0 : Nat) (em mi ic : Nat) : CalleeOk (VV G a0 a1 a2 a3 n0) (DD em mi ic) 65 3 := oc_ce (mn65 em mi ic) (mb65 em mi ic) (ml_65 em mi ic) (rt_65 em mi ic) (hh65 em mi ic) tw_1347 tw_57 nmh_1 nvh_1 cp_18 (Nat.le_of_ble_eq_true rfl)
theorem ce_66 (G : va_G) (a0 a1 a2 a3 : ClassId) (n0 : Nat) (em mi ic : Nat) : CalleeOk (VV G a0 a1 a2 a3 n0) (DD em mi ic) 66 1 := oc_ce (mn66 em mi ic) (mb66 em mi ic) (ml_66 em mi ic) (rt_66 em mi ic) (hh66 em mi ic) tw_1351 tw_57 nmh_1 nvh_1 cp_6 (Nat.le_of_ble_eq_true rfl)
theorem ce_67 (G : va_G) (a0 a1 a2 a3 : ClassId) (n0 : Nat) (em mi ic : Nat) : CalleeOk (VV G a0 a1 a2 a3 n0) (DD em mi ic) 67 0 := oc_ce (mn67 em mi ic) (mb67 em mi ic) (ml_67 em mi ic) (rt_67 em mi ic) (hh67 em mi ic) tw_321 tw_51 nmh_5 nvh_5 cp_7 (Nat.le_of_ble_eq_true rfl)
theorem cp_19 : (parseMethodDescriptor "(Ljava/lang/Object;)Z").map (fun d => d.parameters.length) = some 1 := by decide +kernel
theorem ce_68 (G : va_G) (a0 a1 a2 a3 : ClassId) (n0 : Nat) (em mi ic : Nat) : CalleeOk (VV G a0 a1 a2 a3 n0) (DD em mi ic) 68 1 := oc_ce (mn68 em mi ic) (mb68 em mi ic) (ml_68 em mi ic) (rt_68 em mi ic) (hh68 em mi ic) tw_930 tw_51 nmh_5 nvh_5 cp_19 (Nat.le_of_ble_eq_true rfl)
theorem ce_69 (G : va_G) (a0 a1 a2 a3 : ClassId) (n0 : Nat) (em mi ic : Nat) : CalleeOk (VV G a0 a1 a2 a3 n0) (DD em mi ic) 69 2 := oc_ce (mn69 em mi ic) (mb69 em mi ic) (ml_69 em mi ic) (rt_69 em mi ic) (hh69 em mi ic) tw_988 tw_47 nmh_0 nvh_0 cp_2 (Nat.le_of_ble_eq_true rfl)
theorem ce_70 (G : va_G) (a0 a1 a2 a3 : ClassId) (n0 : Nat) (em mi ic : Nat) : CalleeOk (VV G a0 a1 a2 a3 n0) (DD em mi ic) 70 2 := oc_ce (mn70 em mi ic) (mb70 em mi ic) (ml_70 em mi ic) (rt_70 em mi ic) (hh70 em mi ic) tw_1055 tw_47 nmh_0 nvh_0 cp_2 (Nat.le_of_ble_eq_true rfl)
theorem ce_71 (G : va_G) (a0 a1 a2 a3 : ClassId) (n0 : Nat) (em mi ic : Nat) : CalleeOk (VV G a0 a1 a2 a3 n0) (DD em mi ic) 71 1 := oc_ce (mn71 em mi ic) (mb71 em mi ic) (ml_71 em mi ic) (rt_71 em mi ic) (hh71 em mi ic) tw_1365 tw_57 nmh_1 nvh_1 cp_11 (Nat.le_of_ble_eq_true rfl)
theorem cp_20 : (parseMethodDescriptor "(I)Ljava/lang/Object;").map (fun d => d.parameters.length) = some 1 := by decide +kernel
theorem ce_72 (G : va_G) (a0 a1 a2 a3 : ClassId) (n0 : Nat) (em mi ic : Nat) : CalleeOk (VV G a0 a1 a2 a3 n0) (DD em mi ic) 72 1 := oc_ce (mn72 em mi ic) (mb72 em mi ic) (ml_72 em mi ic) (rt_72 em mi ic) (hh72 em mi ic) tw_325 tw_51 nmh_5 nvh_5 cp_20 (Nat.le_of_ble_eq_true rfl)
theorem ce_73 (G : va_G) (a0 a1 a2 a3 : ClassId) (n0 : Nat) (em mi ic : Nat) : CalleeOk (VV G a0 a1 a2 a3 n0) (DD em mi ic) 73 3 := oc_ce (mn73 em mi ic) (mb73 em mi ic) (ml_73 em mi ic) (rt_73 em mi ic) (hh73 em mi ic) tw_1063 tw_47 nmh_0 nvh_0 cp_4 (Nat.le_of_ble_eq_true rfl)
theorem ce_74 (G : va_G) (a0 a1 a2 a3 : ClassId) (n0 : Nat) (em mi ic : Nat) : CalleeOk (VV G a0 a1 a2 a3 n0) (DD em mi ic) 74 1 := oc_ce (mn74 em mi ic) (mb74 em mi ic) (ml_74 em mi ic) (rt_74 em mi ic) (hh74 em mi ic) tw_1375 tw_57 nmh_1 nvh_1 cp_11 (Nat.le_of_ble_eq_true rfl)
theorem nmh_11 : "TwelvehundredModel$Household" ≠ "java/lang/invoke/MethodHandle" := by decide
theorem nvh_11 : "TwelvehundredModel$Household" ≠ "java/lang/invoke/VarHandle" := by decide
theorem ce_75 (G : va_G) (a0 a1 a2 a3 : ClassId) (n0 : Nat) (em mi ic : Nat) : CalleeOk (VV G a0 a1 a2 a3 n0) (DD em mi ic) 75 0 := oc_ce (mn75 em mi ic) (mb75 em mi ic) (ml_75 em mi ic) (rt_75 em mi ic) (hh75 em mi ic) tw_1380 tw_76 nmh_11 nvh_11 cp_0 (Nat.le_of_ble_eq_true rfl)
theorem ce_76 (G : va_G) (a0 a1 a2 a3 : ClassId) (n0 : Nat) (em mi ic : Nat) : CalleeOk (VV G a0 a1 a2 a3 n0) (DD em mi ic) 76 1 := oc_ce (mn76 em mi ic) (mb76 em mi ic) (ml_76 em mi ic) (rt_76 em mi ic) (hh76 em mi ic) tw_1398 tw_57 nmh_1 nvh_1 cp_11 (Nat.le_of_ble_eq_true rfl)
theorem ce_77 (G : va_G) (a0 a1 a2 a3 : ClassId) (n0 : Nat) (em mi ic : Nat) : CalleeOk (VV G a0 a1 a2 a3 n0) (DD em mi ic) 77 2 := oc_ce (mn77 em mi ic) (mb77 em mi ic) (ml_77 em mi ic) (rt_77 em mi ic) (hh77 em mi ic) tw_1104 tw_47 nmh_0 nvh_0 cp_2 (Nat.le_of_ble_eq_true rfl)
theorem ce_78 (G : va_G) (a0 a1 a2 a3 : ClassId) (n0 : Nat) (em mi ic : Nat) : CalleeOk (VV G a0 a1 a2 a3 n0) (DD em mi ic) 78 1 := oc_ce (mn78 em mi ic) (mb78 em mi ic) (ml_78 em mi ic) (rt_78 em mi ic) (hh78 em mi ic) tw_1112 tw_47 nmh_0 nvh_0 cp_6 (Nat.le_of_ble_eq_true rfl)
theorem ce_79 (G : va_G) (a0 a1 a2 a3 : ClassId) (n0 : Nat) (em mi ic : Nat) : CalleeOk (VV G a0 a1 a2 a3 n0) (DD em mi ic) 79 1 := oc_ce (mn79 em mi ic) (mb79 em mi ic) (ml_79 em mi ic) (rt_79 em mi ic) (hh79 em mi ic) tw_1120 tw_47 nmh_0 nvh_0 cp_6 (Nat.le_of_ble_eq_true rfl)
theorem ce_80 (G : va_G) (a0 a1 a2 a3 : ClassId) (n0 : Nat) (em mi ic : Nat) : CalleeOk (VV G a0 a1 a2 a3 n0) (DD em mi ic) 80 1 := oc_ce (mn80 em mi ic) (mb80 em mi ic) (ml_80 em mi ic) (rt_80 em mi ic) (hh80 em mi ic) tw_1414 tw_57 nmh_1 nvh_1 cp_11 (Nat.le_of_ble_eq_true rfl)
theorem ce_81 (G : va_G) (a0 a1 a2 a3 : ClassId) (n0 : Nat) (em mi ic : Nat) : CalleeOk (VV G a0 a1 a2 a3 n0) (DD em mi ic) 81 1 := oc_ce (mn81 em mi ic) (mb81 em mi ic) (ml_81 em mi ic) (rt_81 em mi ic) (hh81 em mi ic) tw_1128 tw_47 nmh_0 nvh_0 cp_6 (Nat.le_of_ble_eq_true rfl)
theorem ce_82 (G : va_G) (a0 a1 a2 a3 : ClassId) (n0 : Nat) (em mi ic : Nat) : CalleeOk (VV G a0 a1 a2 a3 n0) (DD em mi ic) 82 0 := oc_ce (mn82 em mi ic) (mb82 em mi ic) (ml_82 em mi ic) (rt_82 em mi ic) (hh82 em mi ic) tw_1422 tw_57 nmh_1 nvh_1 cp_7 (Nat.le_of_ble_eq_true rfl)
theorem ce_83 (G : va_G) (a0 a1 a2 a3 : ClassId) (n0 : Nat) (em mi ic : Nat) : CalleeOk (VV G a0 a1 a2 a3 n0) (DD em mi ic) 83 2 := oc_ce (mn83 em mi ic) (mb83 em mi ic) (ml_83 em mi ic) (rt_83 em mi ic) (hh83 em mi ic) tw_1152 tw_47 nmh_0 nvh_0 cp_2 (Nat.le_of_ble_eq_true rfl)
theorem ce_84 (G : va_G) (a0 a1 a2 a3 : ClassId) (n0 : Nat) (em mi ic : Nat) : CalleeOk (VV G a0 a1 a2 a3 n0) (DD em mi ic) 84 1 := oc_ce (mn84 em mi ic) (mb84 em mi ic) (ml_84 em mi ic) (rt_84 em mi ic) (hh84 em mi ic) tw_1180 tw_47 nmh_0 nvh_0 cp_6 (Nat.le_of_ble_eq_true rfl)
theorem cp_21 : (parseMethodDescriptor "()Ljava/util/Iterator;").map (fun d => d.parameters.length) = some 0 := by decide +kernel
theorem ce_85 (G : va_G) (a0 a1 a2 a3 : ClassId) (n0 : Nat) (em mi ic : Nat) : CalleeOk (VV G a0 a1 a2 a3 n0) (DD em mi ic) 85 0 := oc_ce (mn85 em mi ic) (mb85 em mi ic) (ml_85 em mi ic) (rt_85 em mi ic) (hh85 em mi ic) tw_1428 tw_51 nmh_5 nvh_5 cp_21 (Nat.le_of_ble_eq_true rfl)
theorem nmh_12 : "java/util/ArrayList$Itr" ≠ "java/lang/invoke/MethodHandle" := by decide
theorem nvh_12 : "java/util/ArrayList$Itr" ≠ "java/lang/invoke/VarHandle" := by decide
theorem ce_86 (G : va_G) (a0 a1 a2 a3 : ClassId) (n0 : Nat) (em mi ic : Nat) : CalleeOk (VV G a0 a1 a2 a3 n0) (DD em mi ic) 86 0 := oc_ce (mn86 em mi ic) (mb86 em mi ic) (ml_86 em mi ic) (rt_86 em mi ic) (hh86 em mi ic) tw_1457 tw_77 nmh_12 nvh_12 cp_13 (Nat.le_of_ble_eq_true rfl)
theorem cp_22 : (parseMethodDescriptor "()Ljava/lang/Object;").map (fun d => d.parameters.length) = some 0 := by decide +kernel
theorem ce_87 (G : va_G) (a0 a1 a2 a3 : ClassId) (n0 : Nat) (em mi ic : Nat) : CalleeOk (VV G a0 a1 a2 a3 n0) (DD em mi ic) 87 0 := oc_ce (mn87 em mi ic) (mb87 em mi ic) (ml_87 em mi ic) (rt_87 em mi ic) (hh87 em mi ic) tw_1466 tw_77 nmh_12 nvh_12 cp_22 (Nat.le_of_ble_eq_true rfl)
theorem nmh_13 : "java/lang/Math" ≠ "java/lang/invoke/MethodHandle" := by decide
theorem nvh_13 : "java/lang/Math" ≠ "java/lang/invoke/VarHandle" := by decide
theorem ce_88 (G : va_G) (a0 a1 a2 a3 : ClassId) (n0 : Nat) (em mi ic : Nat) : CalleeOk (VV G a0 a1 a2 a3 n0) (DD em mi ic) 88 2 := oc_ce (mn88 em mi ic) (mb88 em mi ic) (ml_88 em mi ic) (rt_88 em mi ic) (hh88 em mi ic) tw_383 tw_66 nmh_13 nvh_13 cp_2 (Nat.le_of_ble_eq_true rfl)
theorem ce_89 (G : va_G) (a0 a1 a2 a3 : ClassId) (n0 : Nat) (em mi ic : Nat) : CalleeOk (VV G a0 a1 a2 a3 n0) (DD em mi ic) 89 1 := oc_ce (mn89 em mi ic) (mb89 em mi ic) (ml_89 em mi ic) (rt_89 em mi ic) (hh89 em mi ic) tw_1197 tw_47 nmh_0 nvh_0 cp_6 (Nat.le_of_ble_eq_true rfl)
theorem ce_90 (G : va_G) (a0 a1 a2 a3 : ClassId) (n0 : Nat) (em mi ic : Nat) : CalleeOk (VV G a0 a1 a2 a3 n0) (DD em mi ic) 90 1 := oc_ce (mn90 em mi ic) (mb90 em mi ic) (ml_90 em mi ic) (rt_90 em mi ic) (hh90 em mi ic) tw_1485 tw_57 nmh_1 nvh_1 cp_11 (Nat.le_of_ble_eq_true rfl)
theorem nmh_14 : "java/lang/Integer" ≠ "java/lang/invoke/MethodHandle" := by decide
theorem nvh_14 : "java/lang/Integer" ≠ "java/lang/invoke/VarHandle" := by decide
theorem cp_23 : (parseMethodDescriptor "(I)Ljava/lang/Integer;").map (fun d => d.parameters.length) = some 1 := by decide +kernel
theorem ce_91 (G : va_G) (a0 a1 a2 a3 : ClassId) (n0 : Nat) (em mi ic : Nat) : CalleeOk (VV G a0 a1 a2 a3 n0) (DD em mi ic) 91 1 := oc_ce (mn91 em mi ic) (mb91 em mi ic) (ml_91 em mi ic) (rt_91 em mi ic) (hh91 em mi ic) tw_1489 tw_73 nmh_14 nvh_14 cp_23 (Nat.le_of_ble_eq_true rfl)
theorem ce_92 (G : va_G) (a0 a1 a2 a3 : ClassId) (n0 : Nat) (em mi ic : Nat) : CalleeOk (VV G a0 a1 a2 a3 n0) (DD em mi ic) 92 2 := oc_ce (mn92 em mi ic) (mb92 em mi ic) (ml_92 em mi ic) (rt_92 em mi ic) (hh92 em mi ic) tw_1230 tw_47 nmh_0 nvh_0 cp_9 (Nat.le_of_ble_eq_true rfl)
theorem ce_93 (G : va_G) (a0 a1 a2 a3 : ClassId) (n0 : Nat) (em mi ic : Nat) : CalleeOk (VV G a0 a1 a2 a3 n0) (DD em mi ic) 93 0 := oc_ce (mn93 em mi ic) (mb93 em mi ic) (ml_93 em mi ic) (rt_93 em mi ic) (hh93 em mi ic) tw_1514 tw_57 nmh_1 nvh_1 cp_7 (Nat.le_of_ble_eq_true rfl)
theorem ce_94 (G : va_G) (a0 a1 a2 a3 : ClassId) (n0 : Nat) (em mi ic : Nat) : CalleeOk (VV G a0 a1 a2 a3 n0) (DD em mi ic) 94 2 := oc_ce (mn94 em mi ic) (mb94 em mi ic) (ml_94 em mi ic) (rt_94 em mi ic) (hh94 em mi ic) tw_810 tw_47 nmh_0 nvh_0 cp_2 (Nat.le_of_ble_eq_true rfl)
theorem ce_95 (G : va_G) (a0 a1 a2 a3 : ClassId) (n0 : Nat) (em mi ic : Nat) : CalleeOk (VV G a0 a1 a2 a3 n0) (DD em mi ic) 95 2 := oc_ce (mn95 em mi ic) (mb95 em mi ic) (ml_95 em mi ic) (rt_95 em mi ic) (hh95 em mi ic) tw_1547 tw_57 nmh_1 nvh_1 cp_2 (Nat.le_of_ble_eq_true rfl)
theorem ce_96 (G : va_G) (a0 a1 a2 a3 : ClassId) (n0 : Nat) (em mi ic : Nat) : CalleeOk (VV G a0 a1 a2 a3 n0) (DD em mi ic) 96 2 := oc_ce (mn96 em mi ic) (mb96 em mi ic) (ml_96 em mi ic) (rt_96 em mi ic) (hh96 em mi ic) tw_839 tw_47 nmh_0 nvh_0 cp_2 (Nat.le_of_ble_eq_true rfl)
theorem ce_97 (G : va_G) (a0 a1 a2 a3 : ClassId) (n0 : Nat) (em mi ic : Nat) : CalleeOk (VV G a0 a1 a2 a3 n0) (DD em mi ic) 97 2 := oc_ce (mn97 em mi ic) (mb97 em mi ic) (ml_97 em mi ic) (rt_97 em mi ic) (hh97 em mi ic) tw_1563 tw_57 nmh_1 nvh_1 cp_2 (Nat.le_of_ble_eq_true rfl)
theorem ce_98 (G : va_G) (a0 a1 a2 a3 : ClassId) (n0 : Nat) (em mi ic : Nat) : CalleeOk (VV G a0 a1 a2 a3 n0) (DD em mi ic) 98 2 := oc_ce (mn98 em mi ic) (mb98 em mi ic) (ml_98 em mi ic) (rt_98 em mi ic) (hh98 em mi ic) tw_846 tw_47 nmh_0 nvh_0 cp_2 (Nat.le_of_ble_eq_true rfl)
theorem ce_99 (G : va_G) (a0 a1 a2 a3 : ClassId) (n0 : Nat) (em mi ic : Nat) : CalleeOk (VV G a0 a1 a2 a3 n0) (DD em mi ic) 99 2 := oc_ce (mn99 em mi ic) (mb99 em mi ic) (ml_99 em mi ic) (rt_99 em mi ic) (hh99 em mi ic) tw_1599 tw_57 nmh_1 nvh_1 cp_2 (Nat.le_of_ble_eq_true rfl)
theorem ce_100 (G : va_G) (a0 a1 a2 a3 : ClassId) (n0 : Nat) (em mi ic : Nat) : CalleeOk (VV G a0 a1 a2 a3 n0) (DD em mi ic) 100 2 := oc_ce (mn100 em mi ic) (mb100 em mi ic) (ml_100 em mi ic) (rt_100 em mi ic) (hh100 em mi ic) tw_854 tw_47 nmh_0 nvh_0 cp_2 (Nat.le_of_ble_eq_true rfl)
theorem ce_101 (G : va_G) (a0 a1 a2 a3 : ClassId) (n0 : Nat) (em mi ic : Nat) : CalleeOk (VV G a0 a1 a2 a3 n0) (DD em mi ic) 101 1 := oc_ce (mn101 em mi ic) (mb101 em mi ic) (ml_101 em mi ic) (rt_101 em mi ic) (hh101 em mi ic) tw_795 tw_47 nmh_0 nvh_0 cp_6 (Nat.le_of_ble_eq_true rfl)
theorem ce_102 (G : va_G) (a0 a1 a2 a3 : ClassId) (n0 : Nat) (em mi ic : Nat) : CalleeOk (VV G a0 a1 a2 a3 n0) (DD em mi ic) 102 1 := oc_ce (mn102 em mi ic) (mb102 em mi ic) (ml_102 em mi ic) (rt_102 em mi ic) (hh102 em mi ic) tw_1619 tw_57 nmh_1 nvh_1 cp_6 (Nat.le_of_ble_eq_true rfl)
theorem nmh_15 : "java/lang/StringBuilder" ≠ "java/lang/invoke/MethodHandle" := by decide
theorem nvh_15 : "java/lang/StringBuilder" ≠ "java/lang/invoke/VarHandle" := by decide
theorem ce_103 (G : va_G) (a0 a1 a2 a3 : ClassId) (n0 : Nat) (em mi ic : Nat) : CalleeOk (VV G a0 a1 a2 a3 n0) (DD em mi ic) 103 0 := oc_ce (mn103 em mi ic) (mb103 em mi ic) (ml_103 em mi ic) (rt_103 em mi ic) (hh103 em mi ic) tw_290 tw_82 nmh_15 nvh_15 cp_0 (Nat.le_of_ble_eq_true rfl)
theorem cp_24 : (parseMethodDescriptor "(LTwelvehundred$Household;)C").map (fun d => d.parameters.length) = some 1 := by decide +kernel
theorem ce_104 (G : va_G) (a0 a1 a2 a3 : ClassId) (n0 : Nat) (em mi ic : Nat) : CalleeOk (VV G a0 a1 a2 a3 n0) (DD em mi ic) 104 1 := oc_ce (mn104 em mi ic) (mb104 em mi ic) (ml_104 em mi ic) (rt_104 em mi ic) (hh104 em mi ic) tw_340 tw_47 nmh_0 nvh_0 cp_24 (Nat.le_of_ble_eq_true rfl)
theorem cp_25 : (parseMethodDescriptor "(C)Ljava/lang/StringBuilder;").map (fun d => d.parameters.length) = some 1 := by decide +kernel
theorem ce_105 (G : va_G) (a0 a1 a2 a3 : ClassId) (n0 : Nat) (em mi ic : Nat) : CalleeOk (VV G a0 a1 a2 a3 n0) (DD em mi ic) 105 1 := oc_ce (mn105 em mi ic) (mb105 em mi ic) (ml_105 em mi ic) (rt_105 em mi ic) (hh105 em mi ic) tw_348 tw_82 nmh_15 nvh_15 cp_25 (Nat.le_of_ble_eq_true rfl)
theorem ce_106 (G : va_G) (a0 a1 a2 a3 : ClassId) (n0 : Nat) (em mi ic : Nat) : CalleeOk (VV G a0 a1 a2 a3 n0) (DD em mi ic) 106 0 := oc_ce (mn106 em mi ic) (mb106 em mi ic) (ml_106 em mi ic) (rt_106 em mi ic) (hh106 em mi ic) tw_441 tw_82 nmh_15 nvh_15 cp_10 (Nat.le_of_ble_eq_true rfl)
theorem ce_107 (G : va_G) (a0 a1 a2 a3 : ClassId) (n0 : Nat) (em mi ic : Nat) : CalleeOk (VV G a0 a1 a2 a3 n0) (DD em mi ic) 107 0 := oc_ce (mn107 em mi ic) (mb107 em mi ic) (ml_107 em mi ic) (rt_107 em mi ic) (hh107 em mi ic) tw_1635 tw_57 nmh_1 nvh_1 cp_10 (Nat.le_of_ble_eq_true rfl)
theorem ce_108 (G : va_G) (a0 a1 a2 a3 : ClassId) (n0 : Nat) (em mi ic : Nat) : CalleeOk (VV G a0 a1 a2 a3 n0) (DD em mi ic) 108 1 := oc_ce (mn108 em mi ic) (mb108 em mi ic) (ml_108 em mi ic) (rt_108 em mi ic) (hh108 em mi ic) tw_1258 tw_47 nmh_0 nvh_0 cp_11 (Nat.le_of_ble_eq_true rfl)
theorem ce_109 (G : va_G) (a0 a1 a2 a3 : ClassId) (n0 : Nat) (em mi ic : Nat) : CalleeOk (VV G a0 a1 a2 a3 n0) (DD em mi ic) 109 1 := oc_ce (mn109 em mi ic) (mb109 em mi ic) (ml_109 em mi ic) (rt_109 em mi ic) (hh109 em mi ic) tw_1591 tw_57 nmh_1 nvh_1 cp_11 (Nat.le_of_ble_eq_true rfl)
theorem ce_110 (G : va_G) (a0 a1 a2 a3 : ClassId) (n0 : Nat) (em mi ic : Nat) : CalleeOk (VV G a0 a1 a2 a3 n0) (DD em mi ic) 110 0 := oc_ce (mn110 em mi ic) (mb110 em mi ic) (ml_110 em mi ic) (rt_110 em mi ic) (hh110 em mi ic) tw_647 tw_53 nmh_7 nvh_7 cp_7 (Nat.le_of_ble_eq_true rfl)
theorem ce_111 (G : va_G) (a0 a1 a2 a3 : ClassId) (n0 : Nat) (em mi ic : Nat) : CalleeOk (VV G a0 a1 a2 a3 n0) (DD em mi ic) 111 1 := oc_ce (mn111 em mi ic) (mb111 em mi ic) (ml_111 em mi ic) (rt_111 em mi ic) (hh111 em mi ic) tw_676 tw_53 nmh_7 nvh_7 cp_6 (Nat.le_of_ble_eq_true rfl)
theorem ce_112 (G : va_G) (a0 a1 a2 a3 : ClassId) (n0 : Nat) (em mi ic : Nat) : CalleeOk (VV G a0 a1 a2 a3 n0) (DD em mi ic) 112 0 := oc_ce (mn112 em mi ic) (mb112 em mi ic) (ml_112 em mi ic) (rt_112 em mi ic) (hh112 em mi ic) tw_1587 tw_57 nmh_1 nvh_1 cp_7 (Nat.le_of_ble_eq_true rfl)
theorem ce_113 (G : va_G) (a0 a1 a2 a3 : ClassId) (n0 : Nat) (em mi ic : Nat) : CalleeOk (VV G a0 a1 a2 a3 n0) (DD em mi ic) 113 1 := oc_ce (mn113 em mi ic) (mb113 em mi ic) (ml_113 em mi ic) (rt_113 em mi ic) (hh113 em mi ic) tw_1607 tw_57 nmh_1 nvh_1 cp_6 (Nat.le_of_ble_eq_true rfl)
theorem ce_114 (G : va_G) (a0 a1 a2 a3 : ClassId) (n0 : Nat) (em mi ic : Nat) : CalleeOk (VV G a0 a1 a2 a3 n0) (DD em mi ic) 114 1 := oc_ce (mn114 em mi ic) (mb114 em mi ic) (ml_114 em mi ic) (rt_114 em mi ic) (hh114 em mi ic) tw_684 tw_52 nmh_6 nvh_6 cp_11 (Nat.le_of_ble_eq_true rfl)
theorem ce_115 (G : va_G) (a0 a1 a2 a3 : ClassId) (n0 : Nat) (em mi ic : Nat) : CalleeOk (VV G a0 a1 a2 a3 n0) (DD em mi ic) 115 0 := oc_ce (mn115 em mi ic) (mb115 em mi ic) (ml_115 em mi ic) (rt_115 em mi ic) (hh115 em mi ic) tw_699 tw_52 nmh_6 nvh_6 cp_13 (Nat.le_of_ble_eq_true rfl)
theorem ce_116 (G : va_G) (a0 a1 a2 a3 : ClassId) (n0 : Nat) (em mi ic : Nat) : CalleeOk (VV G a0 a1 a2 a3 n0) (DD em mi ic) 116 0 := oc_ce (mn116 em mi ic) (mb116 em mi ic) (ml_116 em mi ic) (rt_116 em mi ic) (hh116 em mi ic) tw_713 tw_52 nmh_6 nvh_6 cp_13 (Nat.le_of_ble_eq_true rfl)
theorem ce_117 (G : va_G) (a0 a1 a2 a3 : ClassId) (n0 : Nat) (em mi ic : Nat) : CalleeOk (VV G a0 a1 a2 a3 n0) (DD em mi ic) 117 0 := oc_ce (mn117 em mi ic) (mb117 em mi ic) (ml_117 em mi ic) (rt_117 em mi ic) (hh117 em mi ic) tw_1571 tw_57 nmh_1 nvh_1 cp_7 (Nat.le_of_ble_eq_true rfl)
theorem ce_118 (G : va_G) (a0 a1 a2 a3 : ClassId) (n0 : Nat) (em mi ic : Nat) : CalleeOk (VV G a0 a1 a2 a3 n0) (DD em mi ic) 118 2 := oc_ce (mn118 em mi ic) (mb118 em mi ic) (ml_118 em mi ic) (rt_118 em mi ic) (hh118 em mi ic) tw_1520 tw_57 nmh_1 nvh_1 cp_12 (Nat.le_of_ble_eq_true rfl)
theorem cp_26 : (parseMethodDescriptor "([I)Z").map (fun d => d.parameters.length) = some 1 := by decide +kernel
theorem ce_119 (G : va_G) (a0 a1 a2 a3 : ClassId) (n0 : Nat) (em mi ic : Nat) : CalleeOk (VV G a0 a1 a2 a3 n0) (DD em mi ic) 119 1 := oc_ce (mn119 em mi ic) (mb119 em mi ic) (ml_119 em mi ic) (rt_119 em mi ic) (hh119 em mi ic) tw_1655 tw_57 nmh_1 nvh_1 cp_26 (Nat.le_of_ble_eq_true rfl)
theorem ce_120 (G : va_G) (a0 a1 a2 a3 : ClassId) (n0 : Nat) (em mi ic : Nat) : CalleeOk (VV G a0 a1 a2 a3 n0) (DD em mi ic) 120 2 := oc_ce (mn120 em mi ic) (mb120 em mi ic) (ml_120 em mi ic) (rt_120 em mi ic) (hh120 em mi ic) tw_862 tw_47 nmh_0 nvh_0 cp_2 (Nat.le_of_ble_eq_true rfl)
theorem ce_121 (G : va_G) (a0 a1 a2 a3 : ClassId) (n0 : Nat) (em mi ic : Nat) : CalleeOk (VV G a0 a1 a2 a3 n0) (DD em mi ic) 121 2 := oc_ce (mn121 em mi ic) (mb121 em mi ic) (ml_121 em mi ic) (rt_121 em mi ic) (hh121 em mi ic) tw_1664 tw_57 nmh_1 nvh_1 cp_2 (Nat.le_of_ble_eq_true rfl)
theorem ce_122 (G : va_G) (a0 a1 a2 a3 : ClassId) (n0 : Nat) (em mi ic : Nat) : CalleeOk (VV G a0 a1 a2 a3 n0) (DD em mi ic) 122 2 := oc_ce (mn122 em mi ic) (mb122 em mi ic) (ml_122 em mi ic) (rt_122 em mi ic) (hh122 em mi ic) tw_1271 tw_47 nmh_0 nvh_0 cp_12 (Nat.le_of_ble_eq_true rfl)
theorem ce_123 (G : va_G) (a0 a1 a2 a3 : ClassId) (n0 : Nat) (em mi ic : Nat) : CalleeOk (VV G a0 a1 a2 a3 n0) (DD em mi ic) 123 2 := oc_ce (mn123 em mi ic) (mb123 em mi ic) (ml_123 em mi ic) (rt_123 em mi ic) (hh123 em mi ic) tw_1528 tw_57 nmh_1 nvh_1 cp_12 (Nat.le_of_ble_eq_true rfl)
theorem ce_124 (G : va_G) (a0 a1 a2 a3 : ClassId) (n0 : Nat) (em mi ic : Nat) : CalleeOk (VV G a0 a1 a2 a3 n0) (DD em mi ic) 124 0 := oc_ce (mn124 em mi ic) (mb124 em mi ic) (ml_124 em mi ic) (rt_124 em mi ic) (hh124 em mi ic) tw_688 tw_52 nmh_6 nvh_6 cp_0 (Nat.le_of_ble_eq_true rfl)
theorem cp_27 : (parseMethodDescriptor "(LTwelvehundred$Placing;LTwelvehundred$Placing;I)Z").map (fun d => d.parameters.length) = some 3 := by decide +kernel
theorem ce_125 (G : va_G) (a0 a1 a2 a3 : ClassId) (n0 : Nat) (em mi ic : Nat) : CalleeOk (VV G a0 a1 a2 a3 n0) (DD em mi ic) 125 3 := oc_ce (mn125 em mi ic) (mb125 em mi ic) (ml_125 em mi ic) (rt_125 em mi ic) (hh125 em mi ic) tw_749 tw_52 nmh_6 nvh_6 cp_27 (Nat.le_of_ble_eq_true rfl)
theorem ce_126 (G : va_G) (a0 a1 a2 a3 : ClassId) (n0 : Nat) (em mi ic : Nat) : CalleeOk (VV G a0 a1 a2 a3 n0) (DD em mi ic) 126 1 := oc_ce (mn126 em mi ic) (mb126 em mi ic) (ml_126 em mi ic) (rt_126 em mi ic) (hh126 em mi ic) tw_759 tw_53 nmh_7 nvh_7 cp_11 (Nat.le_of_ble_eq_true rfl)
theorem ce_127 (G : va_G) (a0 a1 a2 a3 : ClassId) (n0 : Nat) (em mi ic : Nat) : CalleeOk (VV G a0 a1 a2 a3 n0) (DD em mi ic) 127 0 := oc_ce (mn127 em mi ic) (mb127 em mi ic) (ml_127 em mi ic) (rt_127 em mi ic) (hh127 em mi ic) tw_764 tw_55 nmh_9 nvh_9 cp_13 (Nat.le_of_ble_eq_true rfl)
theorem ce_128 (G : va_G) (a0 a1 a2 a3 : ClassId) (n0 : Nat) (em mi ic : Nat) : CalleeOk (VV G a0 a1 a2 a3 n0) (DD em mi ic) 128 0 := oc_ce (mn128 em mi ic) (mb128 em mi ic) (ml_128 em mi ic) (rt_128 em mi ic) (hh128 em mi ic) tw_771 tw_56 nmh_10 nvh_10 cp_7 (Nat.le_of_ble_eq_true rfl)
theorem ce_129 (G : va_G) (a0 a1 a2 a3 : ClassId) (n0 : Nat) (em mi ic : Nat) : CalleeOk (VV G a0 a1 a2 a3 n0) (DD em mi ic) 129 0 := oc_ce (mn129 em mi ic) (mb129 em mi ic) (ml_129 em mi ic) (rt_129 em mi ic) (hh129 em mi ic) tw_1676 tw_57 nmh_1 nvh_1 cp_13 (Nat.le_of_ble_eq_true rfl)
theorem ce_130 (G : va_G) (a0 a1 a2 a3 : ClassId) (n0 : Nat) (em mi ic : Nat) : CalleeOk (VV G a0 a1 a2 a3 n0) (DD em mi ic) 130 1 := oc_ce (mn130 em mi ic) (mb130 em mi ic) (ml_130 em mi ic) (rt_130 em mi ic) (hh130 em mi ic) tw_795 tw_47 nmh_0 nvh_0 cp_6 (Nat.le_of_ble_eq_true rfl)
theorem ce_131 (G : va_G) (a0 a1 a2 a3 : ClassId) (n0 : Nat) (em mi ic : Nat) : CalleeOk (VV G a0 a1 a2 a3 n0) (DD em mi ic) 131 2 := oc_ce (mn131 em mi ic) (mb131 em mi ic) (ml_131 em mi ic) (rt_131 em mi ic) (hh131 em mi ic) tw_810 tw_47 nmh_0 nvh_0 cp_2 (Nat.le_of_ble_eq_true rfl)
theorem ce_132 (G : va_G) (a0 a1 a2 a3 : ClassId) (n0 : Nat) (em mi ic : Nat) : CalleeOk (VV G a0 a1 a2 a3 n0) (DD em mi ic) 132 2 := oc_ce (mn132 em mi ic) (mb132 em mi ic) (ml_132 em mi ic) (rt_132 em mi ic) (hh132 em mi ic) tw_839 tw_47 nmh_0 nvh_0 cp_2 (Nat.le_of_ble_eq_true rfl)
theorem ce_133 (G : va_G) (a0 a1 a2 a3 : ClassId) (n0 : Nat) (em mi ic : Nat) : CalleeOk (VV G a0 a1 a2 a3 n0) (DD em mi ic) 133 2 := oc_ce (mn133 em mi ic) (mb133 em mi ic) (ml_133 em mi ic) (rt_133 em mi ic) (hh133 em mi ic) tw_846 tw_47 nmh_0 nvh_0 cp_2 (Nat.le_of_ble_eq_true rfl)
theorem ce_134 (G : va_G) (a0 a1 a2 a3 : ClassId) (n0 : Nat) (em mi ic : Nat) : CalleeOk (VV G a0 a1 a2 a3 n0) (DD em mi ic) 134 2 := oc_ce (mn134 em mi ic) (mb134 em mi ic) (ml_134 em mi ic) (rt_134 em mi ic) (hh134 em mi ic) tw_854 tw_47 nmh_0 nvh_0 cp_2 (Nat.le_of_ble_eq_true rfl)
theorem ce_135 (G : va_G) (a0 a1 a2 a3 : ClassId) (n0 : Nat) (em mi ic : Nat) : CalleeOk (VV G a0 a1 a2 a3 n0) (DD em mi ic) 135 2 := oc_ce (mn135 em mi ic) (mb135 em mi ic) (ml_135 em mi ic) (rt_135 em mi ic) (hh135 em mi ic) tw_862 tw_47 nmh_0 nvh_0 cp_2 (Nat.le_of_ble_eq_true rfl)
theorem nmh_16 : "java/lang/String" ≠ "java/lang/invoke/MethodHandle" := by decide
theorem nvh_16 : "java/lang/String" ≠ "java/lang/invoke/VarHandle" := by decide
theorem ce_136 (G : va_G) (a0 a1 a2 a3 : ClassId) (n0 : Nat) (em mi ic : Nat) : CalleeOk (VV G a0 a1 a2 a3 n0) (DD em mi ic) 136 0 := oc_ce (mn136 em mi ic) (mb136 em mi ic) (ml_136 em mi ic) (rt_136 em mi ic) (hh136 em mi ic) tw_569 tw_83 nmh_16 nvh_16 cp_7 (Nat.le_of_ble_eq_true rfl)
theorem cp_28 : (parseMethodDescriptor "(Z)I").map (fun d => d.parameters.length) = some 1 := by decide +kernel
theorem ce_137 (G : va_G) (a0 a1 a2 a3 : ClassId) (n0 : Nat) (em mi ic : Nat) : CalleeOk (VV G a0 a1 a2 a3 n0) (DD em mi ic) 137 1 := oc_ce (mn137 em mi ic) (mb137 em mi ic) (ml_137 em mi ic) (rt_137 em mi ic) (hh137 em mi ic) tw_672 tw_47 nmh_0 nvh_0 cp_28 (Nat.le_of_ble_eq_true rfl)
theorem cp_29 : (parseMethodDescriptor "(J)V").map (fun d => d.parameters.length) = some 1 := by decide +kernel
theorem ce_138 (G : va_G) (a0 a1 a2 a3 : ClassId) (n0 : Nat) (em mi ic : Nat) : CalleeOk (VV G a0 a1 a2 a3 n0) (DD em mi ic) 138 1 := oc_ce (mn138 em mi ic) (mb138 em mi ic) (ml_138 em mi ic) (rt_138 em mi ic) (hh138 em mi ic) tw_1689 tw_57 nmh_1 nvh_1 cp_29 (Nat.le_of_ble_eq_true rfl)
theorem nmh_17 : "java/util/AbstractList" ≠ "java/lang/invoke/MethodHandle" := by decide
theorem nvh_17 : "java/util/AbstractList" ≠ "java/lang/invoke/VarHandle" := by decide
theorem ce_139 (G : va_G) (a0 a1 a2 a3 : ClassId) (n0 : Nat) (em mi ic : Nat) : CalleeOk (VV G a0 a1 a2 a3 n0) (DD em mi ic) 139 0 := oc_ce (mn139 em mi ic) (mb139 em mi ic) (ml_139 em mi ic) (rt_139 em mi ic) (hh139 em mi ic) tw_120 tw_50 nmh_17 nvh_17 cp_0 (Nat.le_of_ble_eq_true rfl)
theorem ce_140 (G : va_G) (a0 a1 a2 a3 : ClassId) (n0 : Nat) (em mi ic : Nat) : CalleeOk (VV G a0 a1 a2 a3 n0) (DD em mi ic) 140 3 := oc_ce (mn140 em mi ic) (mb140 em mi ic) (ml_140 em mi ic) (rt_140 em mi ic) (hh140 em mi ic) tw_865 tw_47 nmh_0 nvh_0 cp_18 (Nat.le_of_ble_eq_true rfl)
theorem nmh_18 : "Twelvehundred$Street" ≠ "java/lang/invoke/MethodHandle" := by decide
theorem nvh_18 : "Twelvehundred$Street" ≠ "java/lang/invoke/VarHandle" := by decide
theorem cp_30 : (parseMethodDescriptor "(III)V").map (fun d => d.parameters.length) = some 3 := by decide +kernel
theorem ce_141 (G : va_G) (a0 a1 a2 a3 : ClassId) (n0 : Nat) (em mi ic : Nat) : CalleeOk (VV G a0 a1 a2 a3 n0) (DD em mi ic) 141 3 := oc_ce (mn141 em mi ic) (mb141 em mi ic) (ml_141 em mi ic) (rt_141 em mi ic) (hh141 em mi ic) tw_910 tw_64 nmh_18 nvh_18 cp_30 (Nat.le_of_ble_eq_true rfl)
theorem cp_31 : (parseMethodDescriptor "(Ljava/lang/Object;[Ljava/lang/Object;I)V").map (fun d => d.parameters.length) = some 3 := by decide +kernel
theorem ce_142 (G : va_G) (a0 a1 a2 a3 : ClassId) (n0 : Nat) (em mi ic : Nat) : CalleeOk (VV G a0 a1 a2 a3 n0) (DD em mi ic) 142 3 := oc_ce (mn142 em mi ic) (mb142 em mi ic) (ml_142 em mi ic) (rt_142 em mi ic) (hh142 em mi ic) tw_934 tw_51 nmh_5 nvh_5 cp_31 (Nat.le_of_ble_eq_true rfl)
theorem nmh_19 : "Twelvehundred$Hall" ≠ "java/lang/invoke/MethodHandle" := by decide
theorem nvh_19 : "Twelvehundred$Hall" ≠ "java/lang/invoke/VarHandle" := by decide
theorem ce_143 (G : va_G) (a0 a1 a2 a3 : ClassId) (n0 : Nat) (em mi ic : Nat) : CalleeOk (VV G a0 a1 a2 a3 n0) (DD em mi ic) 143 3 := oc_ce (mn143 em mi ic) (mb143 em mi ic) (ml_143 em mi ic) (rt_143 em mi ic) (hh143 em mi ic) tw_994 tw_69 nmh_19 nvh_19 cp_30 (Nat.le_of_ble_eq_true rfl)
theorem ce_144 (G : va_G) (a0 a1 a2 a3 : ClassId) (n0 : Nat) (em mi ic : Nat) : CalleeOk (VV G a0 a1 a2 a3 n0) (DD em mi ic) 144 0 := oc_ce (mn144 em mi ic) (mb144 em mi ic) (ml_144 em mi ic) (rt_144 em mi ic) (hh144 em mi ic) tw_1016 tw_54 nmh_8 nvh_8 cp_0 (Nat.le_of_ble_eq_true rfl)
theorem nmh_20 : "java/util/Objects" ≠ "java/lang/invoke/MethodHandle" := by decide
theorem nvh_20 : "java/util/Objects" ≠ "java/lang/invoke/VarHandle" := by decide
theorem ce_145 (G : va_G) (a0 a1 a2 a3 : ClassId) (n0 : Nat) (em mi ic : Nat) : CalleeOk (VV G a0 a1 a2 a3 n0) (DD em mi ic) 145 2 := oc_ce (mn145 em mi ic) (mb145 em mi ic) (ml_145 em mi ic) (rt_145 em mi ic) (hh145 em mi ic) tw_328 tw_70 nmh_20 nvh_20 cp_2 (Nat.le_of_ble_eq_true rfl)
theorem ce_146 (G : va_G) (a0 a1 a2 a3 : ClassId) (n0 : Nat) (em mi ic : Nat) : CalleeOk (VV G a0 a1 a2 a3 n0) (DD em mi ic) 146 1 := oc_ce (mn146 em mi ic) (mb146 em mi ic) (ml_146 em mi ic) (rt_146 em mi ic) (hh146 em mi ic) tw_335 tw_51 nmh_5 nvh_5 cp_20 (Nat.le_of_ble_eq_true rfl)
theorem nmh_21 : "Twelvehundred$Household" ≠ "java/lang/invoke/MethodHandle" := by decide
theorem nvh_21 : "Twelvehundred$Household" ≠ "java/lang/invoke/VarHandle" := by decide
theorem cp_32 : (parseMethodDescriptor "(ILTwelvehundred$Street;IZ)V").map (fun d => d.parameters.length) = some 4 := by decide +kernel
theorem ce_147 (G : va_G) (a0 a1 a2 a3 : ClassId) (n0 : Nat) (em mi ic : Nat) : CalleeOk (VV G a0 a1 a2 a3 n0) (DD em mi ic) 147 4 := oc_ce (mn147 em mi ic) (mb147 em mi ic) (ml_147 em mi ic) (rt_147 em mi ic) (hh147 em mi ic) tw_1069 tw_75 nmh_21 nvh_21 cp_32 (Nat.le_of_ble_eq_true rfl)
theorem cp_33 : (parseMethodDescriptor "(LTwelvehundred$Street;)Z").map (fun d => d.parameters.length) = some 1 := by decide +kernel
theorem ce_148 (G : va_G) (a0 a1 a2 a3 : ClassId) (n0 : Nat) (em mi ic : Nat) : CalleeOk (VV G a0 a1 a2 a3 n0) (DD em mi ic) 148 1 := oc_ce (mn148 em mi ic) (mb148 em mi ic) (ml_148 em mi ic) (rt_148 em mi ic) (hh148 em mi ic) tw_669 tw_48 nmh_4 nvh_4 cp_33 (Nat.le_of_ble_eq_true rfl)
theorem ce_149 (G : va_G) (a0 a1 a2 a3 : ClassId) (n0 : Nat) (em mi ic : Nat) : CalleeOk (VV G a0 a1 a2 a3 n0) (DD em mi ic) 149 0 := oc_ce (mn149 em mi ic) (mb149 em mi ic) (ml_149 em mi ic) (rt_149 em mi ic) (hh149 em mi ic) tw_1134 tw_48 nmh_4 nvh_4 cp_0 (Nat.le_of_ble_eq_true rfl)
theorem ce_150 (G : va_G) (a0 a1 a2 a3 : ClassId) (n0 : Nat) (em mi ic : Nat) : CalleeOk (VV G a0 a1 a2 a3 n0) (DD em mi ic) 150 0 := oc_ce (mn150 em mi ic) (mb150 em mi ic) (ml_150 em mi ic) (rt_150 em mi ic) (hh150 em mi ic) tw_1140 tw_53 nmh_7 nvh_7 cp_7 (Nat.le_of_ble_eq_true rfl)
theorem cp_34 : (parseMethodDescriptor "(I)V").map (fun d => d.parameters.length) = some 1 := by decide +kernel
theorem ce_151 (G : va_G) (a0 a1 a2 a3 : ClassId) (n0 : Nat) (em mi ic : Nat) : CalleeOk (VV G a0 a1 a2 a3 n0) (DD em mi ic) 151 1 := oc_ce (mn151 em mi ic) (mb151 em mi ic) (ml_151 em mi ic) (rt_151 em mi ic) (hh151 em mi ic) tw_1145 tw_55 nmh_9 nvh_9 cp_34 (Nat.le_of_ble_eq_true rfl)
theorem ce_152 (G : va_G) (a0 a1 a2 a3 : ClassId) (n0 : Nat) (em mi ic : Nat) : CalleeOk (VV G a0 a1 a2 a3 n0) (DD em mi ic) 152 2 := oc_ce (mn152 em mi ic) (mb152 em mi ic) (ml_152 em mi ic) (rt_152 em mi ic) (hh152 em mi ic) tw_365 tw_66 nmh_13 nvh_13 cp_2 (Nat.le_of_ble_eq_true rfl)
theorem nmh_22 : "Twelvehundred$Lot" ≠ "java/lang/invoke/MethodHandle" := by decide
theorem nvh_22 : "Twelvehundred$Lot" ≠ "java/lang/invoke/VarHandle" := by decide
theorem cp_35 : (parseMethodDescriptor "(II)V").map (fun d => d.parameters.length) = some 2 := by decide +kernel
theorem ce_153 (G : va_G) (a0 a1 a2 a3 : ClassId) (n0 : Nat) (em mi ic : Nat) : CalleeOk (VV G a0 a1 a2 a3 n0) (DD em mi ic) 153 2 := oc_ce (mn153 em mi ic) (mb153 em mi ic) (ml_153 em mi ic) (rt_153 em mi ic) (hh153 em mi ic) tw_1157 tw_78 nmh_22 nvh_22 cp_35 (Nat.le_of_ble_eq_true rfl)
theorem ce_154 (G : va_G) (a0 a1 a2 a3 : ClassId) (n0 : Nat) (em mi ic : Nat) : CalleeOk (VV G a0 a1 a2 a3 n0) (DD em mi ic) 154 1 := oc_ce (mn154 em mi ic) (mb154 em mi ic) (ml_154 em mi ic) (rt_154 em mi ic) (hh154 em mi ic) tw_1185 tw_55 nmh_9 nvh_9 cp_6 (Nat.le_of_ble_eq_true rfl)
theorem cp_36 : (parseMethodDescriptor "(Ljava/util/ArrayList;)V").map (fun d => d.parameters.length) = some 1 := by decide +kernel
theorem ce_155 (G : va_G) (a0 a1 a2 a3 : ClassId) (n0 : Nat) (em mi ic : Nat) : CalleeOk (VV G a0 a1 a2 a3 n0) (DD em mi ic) 155 1 := oc_ce (mn155 em mi ic) (mb155 em mi ic) (ml_155 em mi ic) (rt_155 em mi ic) (hh155 em mi ic) tw_1433 tw_77 nmh_12 nvh_12 cp_36 (Nat.le_of_ble_eq_true rfl)
theorem ce_156 (G : va_G) (a0 a1 a2 a3 : ClassId) (n0 : Nat) (em mi ic : Nat) : CalleeOk (VV G a0 a1 a2 a3 n0) (DD em mi ic) 156 0 := oc_ce (mn156 em mi ic) (mb156 em mi ic) (ml_156 em mi ic) (rt_156 em mi ic) (hh156 em mi ic) tw_1470 tw_77 nmh_12 nvh_12 cp_0 (Nat.le_of_ble_eq_true rfl)
theorem ce_157 (G : va_G) (a0 a1 a2 a3 : ClassId) (n0 : Nat) (em mi ic : Nat) : CalleeOk (VV G a0 a1 a2 a3 n0) (DD em mi ic) 157 1 := oc_ce (mn157 em mi ic) (mb157 em mi ic) (ml_157 em mi ic) (rt_157 em mi ic) (hh157 em mi ic) tw_1200 tw_56 nmh_10 nvh_10 cp_11 (Nat.le_of_ble_eq_true rfl)
theorem nmh_23 : "Twelvehundred$Listed" ≠ "java/lang/invoke/MethodHandle" := by decide
theorem nvh_23 : "Twelvehundred$Listed" ≠ "java/lang/invoke/VarHandle" := by decide
theorem ce_158 (G : va_G) (a0 a1 a2 a3 : ClassId) (n0 : Nat) (em mi ic : Nat) : CalleeOk (VV G a0 a1 a2 a3 n0) (DD em mi ic) 158 1 := oc_ce (mn158 em mi ic) (mb158 em mi ic) (ml_158 em mi ic) (rt_158 em mi ic) (hh158 em mi ic) tw_1208 tw_79 nmh_23 nvh_23 cp_34 (Nat.le_of_ble_eq_true rfl)
theorem ce_159 (G : va_G) (a0 a1 a2 a3 : ClassId) (n0 : Nat) (em mi ic : Nat) : CalleeOk (VV G a0 a1 a2 a3 n0) (DD em mi ic) 159 1 := oc_ce (mn159 em mi ic) (mb159 em mi ic) (ml_159 em mi ic) (rt_159 em mi ic) (hh159 em mi ic) tw_1498 tw_73 nmh_14 nvh_14 cp_34 (Nat.le_of_ble_eq_true rfl)
theorem ce_160 (G : va_G) (a0 a1 a2 a3 : ClassId) (n0 : Nat) (em mi ic : Nat) : CalleeOk (VV G a0 a1 a2 a3 n0) (DD em mi ic) 160 1 := oc_ce (mn160 em mi ic) (mb160 em mi ic) (ml_160 em mi ic) (rt_160 em mi ic) (hh160 em mi ic) tw_1517 tw_73 nmh_14 nvh_14 cp_6 (Nat.le_of_ble_eq_true rfl)
theorem ce_161 (G : va_G) (a0 a1 a2 a3 : ClassId) (n0 : Nat) (em mi ic : Nat) : CalleeOk (VV G a0 a1 a2 a3 n0) (DD em mi ic) 161 0 := oc_ce (mn161 em mi ic) (mb161 em mi ic) (ml_161 em mi ic) (rt_161 em mi ic) (hh161 em mi ic) tw_1525 tw_73 nmh_14 nvh_14 cp_7 (Nat.le_of_ble_eq_true rfl)
theorem cp_37 : (parseMethodDescriptor "(LTwelvehundred$Street;)I").map (fun d => d.parameters.length) = some 1 := by decide +kernel
theorem ce_162 (G : va_G) (a0 a1 a2 a3 : ClassId) (n0 : Nat) (em mi ic : Nat) : CalleeOk (VV G a0 a1 a2 a3 n0) (DD em mi ic) 162 1 := oc_ce (mn162 em mi ic) (mb162 em mi ic) (ml_162 em mi ic) (rt_162 em mi ic) (hh162 em mi ic) tw_665 tw_48 nmh_4 nvh_4 cp_37 (Nat.le_of_ble_eq_true rfl)
theorem ce_163 (G : va_G) (a0 a1 a2 a3 : ClassId) (n0 : Nat) (em mi ic : Nat) : CalleeOk (VV G a0 a1 a2 a3 n0) (DD em mi ic) 163 1 := oc_ce (mn163 em mi ic) (mb163 em mi ic) (ml_163 em mi ic) (rt_163 em mi ic) (hh163 em mi ic) tw_834 tw_53 nmh_7 nvh_7 cp_37 (Nat.le_of_ble_eq_true rfl)
theorem ce_164 (G : va_G) (a0 a1 a2 a3 : ClassId) (n0 : Nat) (em mi ic : Nat) : CalleeOk (VV G a0 a1 a2 a3 n0) (DD em mi ic) 164 1 := oc_ce (mn164 em mi ic) (mb164 em mi ic) (ml_164 em mi ic) (rt_164 em mi ic) (hh164 em mi ic) tw_1551 tw_57 nmh_1 nvh_1 cp_6 (Nat.le_of_ble_eq_true rfl)
theorem ce_165 (G : va_G) (a0 a1 a2 a3 : ClassId) (n0 : Nat) (em mi ic : Nat) : CalleeOk (VV G a0 a1 a2 a3 n0) (DD em mi ic) 165 2 := oc_ce (mn165 em mi ic) (mb165 em mi ic) (ml_165 em mi ic) (rt_165 em mi ic) (hh165 em mi ic) tw_1555 tw_57 nmh_1 nvh_1 cp_2 (Nat.le_of_ble_eq_true rfl)
theorem cp_38 : (parseMethodDescriptor "(LTwelvehundred$Household;)LTwelvehundred$Hall;").map (fun d => d.parameters.length) = some 1 := by decide +kernel
theorem ce_166 (G : va_G) (a0 a1 a2 a3 : ClassId) (n0 : Nat) (em mi ic : Nat) : CalleeOk (VV G a0 a1 a2 a3 n0) (DD em mi ic) 166 1 := oc_ce (mn166 em mi ic) (mb166 em mi ic) (ml_166 em mi ic) (rt_166 em mi ic) (hh166 em mi ic) tw_344 tw_52 nmh_6 nvh_6 cp_38 (Nat.le_of_ble_eq_true rfl)
theorem ce_167 (G : va_G) (a0 a1 a2 a3 : ClassId) (n0 : Nat) (em mi ic : Nat) : CalleeOk (VV G a0 a1 a2 a3 n0) (DD em mi ic) 167 2 := oc_ce (mn167 em mi ic) (mb167 em mi ic) (ml_167 em mi ic) (rt_167 em mi ic) (hh167 em mi ic) tw_657 tw_47 nmh_0 nvh_0 cp_12 (Nat.le_of_ble_eq_true rfl)
theorem cp_39 : (parseMethodDescriptor "()[I").map (fun d => d.parameters.length) = some 0 := by decide +kernel
theorem ce_168 (G : va_G) (a0 a1 a2 a3 : ClassId) (n0 : Nat) (em mi ic : Nat) : CalleeOk (VV G a0 a1 a2 a3 n0) (DD em mi ic) 168 0 := oc_ce (mn168 em mi ic) (mb168 em mi ic) (ml_168 em mi ic) (rt_168 em mi ic) (hh168 em mi ic) tw_1567 tw_57 nmh_1 nvh_1 cp_39 (Nat.le_of_ble_eq_true rfl)
theorem cp_40 : (parseMethodDescriptor "(LTwelvehundred$Hall;)I").map (fun d => d.parameters.length) = some 1 := by decide +kernel
theorem ce_169 (G : va_G) (a0 a1 a2 a3 : ClassId) (n0 : Nat) (em mi ic : Nat) : CalleeOk (VV G a0 a1 a2 a3 n0) (DD em mi ic) 169 1 := oc_ce (mn169 em mi ic) (mb169 em mi ic) (ml_169 em mi ic) (rt_169 em mi ic) (hh169 em mi ic) tw_703 tw_52 nmh_6 nvh_6 cp_40 (Nat.le_of_ble_eq_true rfl)
theorem cp_41 : (parseMethodDescriptor "([II)I").map (fun d => d.parameters.length) = some 2 := by decide +kernel
theorem ce_170 (G : va_G) (a0 a1 a2 a3 : ClassId) (n0 : Nat) (em mi ic : Nat) : CalleeOk (VV G a0 a1 a2 a3 n0) (DD em mi ic) 170 2 := oc_ce (mn170 em mi ic) (mb170 em mi ic) (ml_170 em mi ic) (rt_170 em mi ic) (hh170 em mi ic) tw_1603 tw_57 nmh_1 nvh_1 cp_41 (Nat.le_of_ble_eq_true rfl)
theorem ce_171 (G : va_G) (a0 a1 a2 a3 : ClassId) (n0 : Nat) (em mi ic : Nat) : CalleeOk (VV G a0 a1 a2 a3 n0) (DD em mi ic) 171 1 := oc_ce (mn171 em mi ic) (mb171 em mi ic) (ml_171 em mi ic) (rt_171 em mi ic) (hh171 em mi ic) tw_799 tw_53 nmh_7 nvh_7 cp_6 (Nat.le_of_ble_eq_true rfl)
theorem ce_172 (G : va_G) (a0 a1 a2 a3 : ClassId) (n0 : Nat) (em mi ic : Nat) : CalleeOk (VV G a0 a1 a2 a3 n0) (DD em mi ic) 172 1 := oc_ce (mn172 em mi ic) (mb172 em mi ic) (ml_172 em mi ic) (rt_172 em mi ic) (hh172 em mi ic) tw_803 tw_55 nmh_9 nvh_9 cp_6 (Nat.le_of_ble_eq_true rfl)
theorem cp_42 : (parseMethodDescriptor "([I)I").map (fun d => d.parameters.length) = some 1 := by decide +kernel
theorem ce_173 (G : va_G) (a0 a1 a2 a3 : ClassId) (n0 : Nat) (em mi ic : Nat) : CalleeOk (VV G a0 a1 a2 a3 n0) (DD em mi ic) 173 1 := oc_ce (mn173 em mi ic) (mb173 em mi ic) (ml_173 em mi ic) (rt_173 em mi ic) (hh173 em mi ic) tw_1623 tw_57 nmh_1 nvh_1 cp_42 (Nat.le_of_ble_eq_true rfl)
theorem ce_174 (G : va_G) (a0 a1 a2 a3 : ClassId) (n0 : Nat) (em mi ic : Nat) : CalleeOk (VV G a0 a1 a2 a3 n0) (DD em mi ic) 174 0 := oc_ce (mn174 em mi ic) (mb174 em mi ic) (ml_174 em mi ic) (rt_174 em mi ic) (hh174 em mi ic) tw_1627 tw_57 nmh_1 nvh_1 cp_7 (Nat.le_of_ble_eq_true rfl)
theorem nmh_24 : "java/lang/AbstractStringBuilder" ≠ "java/lang/invoke/MethodHandle" := by decide
theorem nvh_24 : "java/lang/AbstractStringBuilder" ≠ "java/lang/invoke/VarHandle" := by decide
theorem ce_175 (G : va_G) (a0 a1 a2 a3 : ClassId) (n0 : Nat) (em mi ic : Nat) : CalleeOk (VV G a0 a1 a2 a3 n0) (DD em mi ic) 175 1 := oc_ce (mn175 em mi ic) (mb175 em mi ic) (ml_175 em mi ic) (rt_175 em mi ic) (hh175 em mi ic) tw_293 tw_81 nmh_24 nvh_24 cp_34 (Nat.le_of_ble_eq_true rfl)
theorem cp_43 : (parseMethodDescriptor "(C)Ljava/lang/AbstractStringBuilder;").map (fun d => d.parameters.length) = some 1 := by decide +kernel
theorem ce_176 (G : va_G) (a0 a1 a2 a3 : ClassId) (n0 : Nat) (em mi ic : Nat) : CalleeOk (VV G a0 a1 a2 a3 n0) (DD em mi ic) 176 1 := oc_ce (mn176 em mi ic) (mb176 em mi ic) (ml_176 em mi ic) (rt_176 em mi ic) (hh176 em mi ic) tw_351 tw_81 nmh_24 nvh_24 cp_43 (Nat.le_of_ble_eq_true rfl)
theorem cp_44 : (parseMethodDescriptor "(Ljava/lang/StringBuilder;)V").map (fun d => d.parameters.length) = some 1 := by decide +kernel
theorem ce_177 (G : va_G) (a0 a1 a2 a3 : ClassId) (n0 : Nat) (em mi ic : Nat) : CalleeOk (VV G a0 a1 a2 a3 n0) (DD em mi ic) 177 1 := oc_ce (mn177 em mi ic) (mb177 em mi ic) (ml_177 em mi ic) (rt_177 em mi ic) (hh177 em mi ic) tw_446 tw_83 nmh_16 nvh_16 cp_44 (Nat.le_of_ble_eq_true rfl)
theorem ce_178 (G : va_G) (a0 a1 a2 a3 : ClassId) (n0 : Nat) (em mi ic : Nat) : CalleeOk (VV G a0 a1 a2 a3 n0) (DD em mi ic) 178 1 := oc_ce (mn178 em mi ic) (mb178 em mi ic) (ml_178 em mi ic) (rt_178 em mi ic) (hh178 em mi ic) tw_654 tw_53 nmh_7 nvh_7 cp_11 (Nat.le_of_ble_eq_true rfl)
theorem cp_45 : (parseMethodDescriptor "(LTwelvehundred$Household;LTwelvehundred$Hall;)V").map (fun d => d.parameters.length) = some 2 := by decide +kernel
theorem ce_179 (G : va_G) (a0 a1 a2 a3 : ClassId) (n0 : Nat) (em mi ic : Nat) : CalleeOk (VV G a0 a1 a2 a3 n0) (DD em mi ic) 179 2 := oc_ce (mn179 em mi ic) (mb179 em mi ic) (ml_179 em mi ic) (rt_179 em mi ic) (hh179 em mi ic) tw_695 tw_52 nmh_6 nvh_6 cp_45 (Nat.le_of_ble_eq_true rfl)
theorem ce_180 (G : va_G) (a0 a1 a2 a3 : ClassId) (n0 : Nat) (em mi ic : Nat) : CalleeOk (VV G a0 a1 a2 a3 n0) (DD em mi ic) 180 1 := oc_ce (mn180 em mi ic) (mb180 em mi ic) (ml_180 em mi ic) (rt_180 em mi ic) (hh180 em mi ic) tw_706 tw_73 nmh_14 nvh_14 cp_6 (Nat.le_of_ble_eq_true rfl)
theorem ce_181 (G : va_G) (a0 a1 a2 a3 : ClassId) (n0 : Nat) (em mi ic : Nat) : CalleeOk (VV G a0 a1 a2 a3 n0) (DD em mi ic) 181 1 := oc_ce (mn181 em mi ic) (mb181 em mi ic) (ml_181 em mi ic) (rt_181 em mi ic) (hh181 em mi ic) tw_717 tw_52 nmh_6 nvh_6 cp_11 (Nat.le_of_ble_eq_true rfl)
theorem cp_46 : (parseMethodDescriptor "(LTwelvehundred$Household;)Z").map (fun d => d.parameters.length) = some 1 := by decide +kernel
theorem ce_182 (G : va_G) (a0 a1 a2 a3 : ClassId) (n0 : Nat) (em mi ic : Nat) : CalleeOk (VV G a0 a1 a2 a3 n0) (DD em mi ic) 182 1 := oc_ce (mn182 em mi ic) (mb182 em mi ic) (ml_182 em mi ic) (rt_182 em mi ic) (hh182 em mi ic) tw_737 tw_52 nmh_6 nvh_6 cp_46 (Nat.le_of_ble_eq_true rfl)
theorem ce_183 (G : va_G) (a0 a1 a2 a3 : ClassId) (n0 : Nat) (em mi ic : Nat) : CalleeOk (VV G a0 a1 a2 a3 n0) (DD em mi ic) 183 3 := oc_ce (mn183 em mi ic) (mb183 em mi ic) (ml_183 em mi ic) (rt_183 em mi ic) (hh183 em mi ic) tw_1579 tw_57 nmh_1 nvh_1 cp_18 (Nat.le_of_ble_eq_true rfl)
theorem ce_184 (G : va_G) (a0 a1 a2 a3 : ClassId) (n0 : Nat) (em mi ic : Nat) : CalleeOk (VV G a0 a1 a2 a3 n0) (DD em mi ic) 184 2 := oc_ce (mn184 em mi ic) (mb184 em mi ic) (ml_184 em mi ic) (rt_184 em mi ic) (hh184 em mi ic) tw_1575 tw_57 nmh_1 nvh_1 cp_12 (Nat.le_of_ble_eq_true rfl)
theorem ce_185 (G : va_G) (a0 a1 a2 a3 : ClassId) (n0 : Nat) (em mi ic : Nat) : CalleeOk (VV G a0 a1 a2 a3 n0) (DD em mi ic) 185 2 := oc_ce (mn185 em mi ic) (mb185 em mi ic) (ml_185 em mi ic) (rt_185 em mi ic) (hh185 em mi ic) tw_781 tw_56 nmh_10 nvh_10 cp_12 (Nat.le_of_ble_eq_true rfl)
theorem ce_186 (G : va_G) (a0 a1 a2 a3 : ClassId) (n0 : Nat) (em mi ic : Nat) : CalleeOk (VV G a0 a1 a2 a3 n0) (DD em mi ic) 186 1 := oc_ce (mn186 em mi ic) (mb186 em mi ic) (ml_186 em mi ic) (rt_186 em mi ic) (hh186 em mi ic) tw_1531 tw_57 nmh_1 nvh_1 cp_6 (Nat.le_of_ble_eq_true rfl)
theorem ce_187 (G : va_G) (a0 a1 a2 a3 : ClassId) (n0 : Nat) (em mi ic : Nat) : CalleeOk (VV G a0 a1 a2 a3 n0) (DD em mi ic) 187 1 := oc_ce (mn187 em mi ic) (mb187 em mi ic) (ml_187 em mi ic) (rt_187 em mi ic) (hh187 em mi ic) tw_729 tw_66 nmh_13 nvh_13 cp_6 (Nat.le_of_ble_eq_true rfl)
theorem ce_188 (G : va_G) (a0 a1 a2 a3 : ClassId) (n0 : Nat) (em mi ic : Nat) : CalleeOk (VV G a0 a1 a2 a3 n0) (DD em mi ic) 188 2 := oc_ce (mn188 em mi ic) (mb188 em mi ic) (ml_188 em mi ic) (rt_188 em mi ic) (hh188 em mi ic) tw_1535 tw_57 nmh_1 nvh_1 cp_12 (Nat.le_of_ble_eq_true rfl)
theorem cp_47 : (parseMethodDescriptor "(LTwelvehundred$Placing;)Z").map (fun d => d.parameters.length) = some 1 := by decide +kernel
theorem ce_189 (G : va_G) (a0 a1 a2 a3 : ClassId) (n0 : Nat) (em mi ic : Nat) : CalleeOk (VV G a0 a1 a2 a3 n0) (DD em mi ic) 189 1 := oc_ce (mn189 em mi ic) (mb189 em mi ic) (ml_189 em mi ic) (rt_189 em mi ic) (hh189 em mi ic) tw_753 tw_52 nmh_6 nvh_6 cp_47 (Nat.le_of_ble_eq_true rfl)
theorem cp_48 : (parseMethodDescriptor "(LTwelvehundred$Hall;)Z").map (fun d => d.parameters.length) = some 1 := by decide +kernel
theorem ce_190 (G : va_G) (a0 a1 a2 a3 : ClassId) (n0 : Nat) (em mi ic : Nat) : CalleeOk (VV G a0 a1 a2 a3 n0) (DD em mi ic) 190 1 := oc_ce (mn190 em mi ic) (mb190 em mi ic) (ml_190 em mi ic) (rt_190 em mi ic) (hh190 em mi ic) tw_741 tw_52 nmh_6 nvh_6 cp_48 (Nat.le_of_ble_eq_true rfl)
theorem cp_49 : (parseMethodDescriptor "(LTwelvehundred$Listed;LTwelvehundred$Listed;)Z").map (fun d => d.parameters.length) = some 2 := by decide +kernel
theorem ce_191 (G : va_G) (a0 a1 a2 a3 : ClassId) (n0 : Nat) (em mi ic : Nat) : CalleeOk (VV G a0 a1 a2 a3 n0) (DD em mi ic) 191 2 := oc_ce (mn191 em mi ic) (mb191 em mi ic) (ml_191 em mi ic) (rt_191 em mi ic) (hh191 em mi ic) tw_778 tw_56 nmh_10 nvh_10 cp_49 (Nat.le_of_ble_eq_true rfl)
theorem ce_192 (G : va_G) (a0 a1 a2 a3 : ClassId) (n0 : Nat) (em mi ic : Nat) : CalleeOk (VV G a0 a1 a2 a3 n0) (DD em mi ic) 192 2 := oc_ce (mn192 em mi ic) (mb192 em mi ic) (ml_192 em mi ic) (rt_192 em mi ic) (hh192 em mi ic) tw_785 tw_56 nmh_10 nvh_10 cp_35 (Nat.le_of_ble_eq_true rfl)
theorem cp_50 : (parseMethodDescriptor "([I[II)Z").map (fun d => d.parameters.length) = some 3 := by decide +kernel
theorem ce_193 (G : va_G) (a0 a1 a2 a3 : ClassId) (n0 : Nat) (em mi ic : Nat) : CalleeOk (VV G a0 a1 a2 a3 n0) (DD em mi ic) 193 3 := oc_ce (mn193 em mi ic) (mb193 em mi ic) (ml_193 em mi ic) (rt_193 em mi ic) (hh193 em mi ic) tw_1680 tw_57 nmh_1 nvh_1 cp_50 (Nat.le_of_ble_eq_true rfl)
theorem cp_51 : (parseMethodDescriptor "()B").map (fun d => d.parameters.length) = some 0 := by decide +kernel
theorem ce_194 (G : va_G) (a0 a1 a2 a3 : ClassId) (n0 : Nat) (em mi ic : Nat) : CalleeOk (VV G a0 a1 a2 a3 n0) (DD em mi ic) 194 0 := oc_ce (mn194 em mi ic) (mb194 em mi ic) (ml_194 em mi ic) (rt_194 em mi ic) (hh194 em mi ic) tw_573 tw_83 nmh_16 nvh_16 cp_51 (Nat.le_of_ble_eq_true rfl)
theorem nmh_25 : "java/util/AbstractCollection" ≠ "java/lang/invoke/MethodHandle" := by decide
theorem nvh_25 : "java/util/AbstractCollection" ≠ "java/lang/invoke/VarHandle" := by decide
theorem ce_195 (G : va_G) (a0 a1 a2 a3 : ClassId) (n0 : Nat) (em mi ic : Nat) : CalleeOk (VV G a0 a1 a2 a3 n0) (DD em mi ic) 195 0 := oc_ce (mn195 em mi ic) (mb195 em mi ic) (ml_195 em mi ic) (rt_195 em mi ic) (hh195 em mi ic) tw_123 tw_49 nmh_25 nvh_25 cp_0 (Nat.le_of_ble_eq_true rfl)
theorem cp_52 : (parseMethodDescriptor "()[Ljava/lang/Object;").map (fun d => d.parameters.length) = some 0 := by decide +kernel
theorem ce_196 (G : va_G) (a0 a1 a2 a3 : ClassId) (n0 : Nat) (em mi ic : Nat) : CalleeOk (VV G a0 a1 a2 a3 n0) (DD em mi ic) 196 0 := oc_ce (mn196 em mi ic) (mb196 em mi ic) (ml_196 em mi ic) (rt_196 em mi ic) (hh196 em mi ic) tw_938 tw_51 nmh_5 nvh_5 cp_52 (Nat.le_of_ble_eq_true rfl)
theorem ce_197 (G : va_G) (a0 a1 a2 a3 : ClassId) (n0 : Nat) (em mi ic : Nat) : CalleeOk (VV G a0 a1 a2 a3 n0) (DD em mi ic) 197 0 := oc_ce (mn197 em mi ic) (mb197 em mi ic) (ml_197 em mi ic) (rt_197 em mi ic) (hh197 em mi ic) tw_1021 tw_54 nmh_8 nvh_8 cp_0 (Nat.le_of_ble_eq_true rfl)
theorem nmh_26 : "jdk/internal/util/Preconditions" ≠ "java/lang/invoke/MethodHandle" := by decide
theorem nvh_26 : "jdk/internal/util/Preconditions" ≠ "java/lang/invoke/VarHandle" := by decide
theorem cp_53 : (parseMethodDescriptor "(IILjava/util/function/BiFunction;)I").map (fun d => d.parameters.length) = some 3 := by decide +kernel
theorem ce_198 (G : va_G) (a0 a1 a2 a3 : ClassId) (n0 : Nat) (em mi ic : Nat) : CalleeOk (VV G a0 a1 a2 a3 n0) (DD em mi ic) 198 3 := oc_ce (mn198 em mi ic) (mb198 em mi ic) (ml_198 em mi ic) (rt_198 em mi ic) (hh198 em mi ic) tw_331 tw_71 nmh_26 nvh_26 cp_53 (Nat.le_of_ble_eq_true rfl)
theorem cp_54 : (parseMethodDescriptor "()LTwelvehundred$Lot;").map (fun d => d.parameters.length) = some 0 := by decide +kernel
theorem ce_199 (G : va_G) (a0 a1 a2 a3 : ClassId) (n0 : Nat) (em mi ic : Nat) : CalleeOk (VV G a0 a1 a2 a3 n0) (DD em mi ic) 199 0 := oc_ce (mn199 em mi ic) (mb199 em mi ic) (ml_199 em mi ic) (rt_199 em mi ic) (hh199 em mi ic) tw_1189 tw_55 nmh_9 nvh_9 cp_54 (Nat.le_of_ble_eq_true rfl)
theorem nmh_27 : "java/lang/Number" ≠ "java/lang/invoke/MethodHandle" := by decide
theorem nvh_27 : "java/lang/Number" ≠ "java/lang/invoke/VarHandle" := by decide
theorem ce_200 (G : va_G) (a0 a1 a2 a3 : ClassId) (n0 : Nat) (em mi ic : Nat) : CalleeOk (VV G a0 a1 a2 a3 n0) (DD em mi ic) 200 0 := oc_ce (mn200 em mi ic) (mb200 em mi ic) (ml_200 em mi ic) (rt_200 em mi ic) (hh200 em mi ic) tw_1501 tw_72 nmh_27 nvh_27 cp_0 (Nat.le_of_ble_eq_true rfl)
theorem ce_201 (G : va_G) (a0 a1 a2 a3 : ClassId) (n0 : Nat) (em mi ic : Nat) : CalleeOk (VV G a0 a1 a2 a3 n0) (DD em mi ic) 201 1 := oc_ce (mn201 em mi ic) (mb201 em mi ic) (ml_201 em mi ic) (rt_201 em mi ic) (hh201 em mi ic) tw_355 tw_81 nmh_24 nvh_24 cp_34 (Nat.le_of_ble_eq_true rfl)
theorem ce_202 (G : va_G) (a0 a1 a2 a3 : ClassId) (n0 : Nat) (em mi ic : Nat) : CalleeOk (VV G a0 a1 a2 a3 n0) (DD em mi ic) 202 0 := oc_ce (mn202 em mi ic) (mb202 em mi ic) (ml_202 em mi ic) (rt_202 em mi ic) (hh202 em mi ic) tw_391 tw_81 nmh_24 nvh_24 cp_13 (Nat.le_of_ble_eq_true rfl)
theorem nmh_28 : "java/lang/StringLatin1" ≠ "java/lang/invoke/MethodHandle" := by decide
theorem nvh_28 : "java/lang/StringLatin1" ≠ "java/lang/invoke/VarHandle" := by decide
theorem cp_55 : (parseMethodDescriptor "(C)Z").map (fun d => d.parameters.length) = some 1 := by decide +kernel
theorem ce_203 (G : va_G) (a0 a1 a2 a3 : ClassId) (n0 : Nat) (em mi ic : Nat) : CalleeOk (VV G a0 a1 a2 a3 n0) (DD em mi ic) 203 1 := oc_ce (mn203 em mi ic) (mb203 em mi ic) (ml_203 em mi ic) (rt_203 em mi ic) (hh203 em mi ic) tw_394 tw_85 nmh_28 nvh_28 cp_55 (Nat.le_of_ble_eq_true rfl)
theorem cp_56 : (parseMethodDescriptor "(Ljava/lang/AbstractStringBuilder;Ljava/lang/Void;)V").map (fun d => d.parameters.length) = some 2 := by decide +kernel
theorem ce_204 (G : va_G) (a0 a1 a2 a3 : ClassId) (n0 : Nat) (em mi ic : Nat) : CalleeOk (VV G a0 a1 a2 a3 n0) (DD em mi ic) 204 2 := oc_ce (mn204 em mi ic) (mb204 em mi ic) (ml_204 em mi ic) (rt_204 em mi ic) (hh204 em mi ic) tw_449 tw_83 nmh_16 nvh_16 cp_56 (Nat.le_of_ble_eq_true rfl)
theorem cp_57 : (parseMethodDescriptor "(LTwelvehundred$Household;I)Z").map (fun d => d.parameters.length) = some 2 := by decide +kernel
theorem ce_205 (G : va_G) (a0 a1 a2 a3 : ClassId) (n0 : Nat) (em mi ic : Nat) : CalleeOk (VV G a0 a1 a2 a3 n0) (DD em mi ic) 205 2 := oc_ce (mn205 em mi ic) (mb205 em mi ic) (ml_205 em mi ic) (rt_205 em mi ic) (hh205 em mi ic) tw_661 tw_53 nmh_7 nvh_7 cp_57 (Nat.le_of_ble_eq_true rfl)
theorem cp_58 : (parseMethodDescriptor "(LTwelvehundred$Household;LTwelvehundred$Household;)Z").map (fun d => d.parameters.length) = some 2 := by decide +kernel
theorem ce_206 (G : va_G) (a0 a1 a2 a3 : ClassId) (n0 : Nat) (em mi ic : Nat) : CalleeOk (VV G a0 a1 a2 a3 n0) (DD em mi ic) 206 2 := oc_ce (mn206 em mi ic) (mb206 em mi ic) (ml_206 em mi ic) (rt_206 em mi ic) (hh206 em mi ic) tw_721 tw_52 nmh_6 nvh_6 cp_58 (Nat.le_of_ble_eq_true rfl)
theorem cp_59 : (parseMethodDescriptor "(LTwelvehundred$Hall;LTwelvehundred$Hall;)Z").map (fun d => d.parameters.length) = some 2 := by decide +kernel
theorem ce_207 (G : va_G) (a0 a1 a2 a3 : ClassId) (n0 : Nat) (em mi ic : Nat) : CalleeOk (VV G a0 a1 a2 a3 n0) (DD em mi ic) 207 2 := oc_ce (mn207 em mi ic) (mb207 em mi ic) (ml_207 em mi ic) (rt_207 em mi ic) (hh207 em mi ic) tw_726 tw_75 nmh_21 nvh_21 cp_59 (Nat.le_of_ble_eq_true rfl)
theorem ce_208 (G : va_G) (a0 a1 a2 a3 : ClassId) (n0 : Nat) (em mi ic : Nat) : CalleeOk (VV G a0 a1 a2 a3 n0) (DD em mi ic) 208 2 := oc_ce (mn208 em mi ic) (mb208 em mi ic) (ml_208 em mi ic) (rt_208 em mi ic) (hh208 em mi ic) tw_1583 tw_57 nmh_1 nvh_1 cp_2 (Nat.le_of_ble_eq_true rfl)
theorem cp_60 : (parseMethodDescriptor "(I)[Ljava/lang/Object;").map (fun d => d.parameters.length) = some 1 := by decide +kernel
theorem ce_209 (G : va_G) (a0 a1 a2 a3 : ClassId) (n0 : Nat) (em mi ic : Nat) : CalleeOk (VV G a0 a1 a2 a3 n0) (DD em mi ic) 209 1 := oc_ce (mn209 em mi ic) (mb209 em mi ic) (ml_209 em mi ic) (rt_209 em mi ic) (hh209 em mi ic) tw_942 tw_51 nmh_5 nvh_5 cp_60 (Nat.le_of_ble_eq_true rfl)
theorem ce_210 (G : va_G) (a0 a1 a2 a3 : ClassId) (n0 : Nat) (em mi ic : Nat) : CalleeOk (VV G a0 a1 a2 a3 n0) (DD em mi ic) 210 1 := oc_ce (mn210 em mi ic) (mb210 em mi ic) (ml_210 em mi ic) (rt_210 em mi ic) (hh210 em mi ic) tw_1029 tw_54 nmh_8 nvh_8 cp_38 (Nat.le_of_ble_eq_true rfl)
theorem ce_211 (G : va_G) (a0 a1 a2 a3 : ClassId) (n0 : Nat) (em mi ic : Nat) : CalleeOk (VV G a0 a1 a2 a3 n0) (DD em mi ic) 211 2 := oc_ce (mn211 em mi ic) (mb211 em mi ic) (ml_211 em mi ic) (rt_211 em mi ic) (hh211 em mi ic) tw_1040 tw_54 nmh_8 nvh_8 cp_45 (Nat.le_of_ble_eq_true rfl)
theorem cp_61 : (parseMethodDescriptor "()[B").map (fun d => d.parameters.length) = some 0 := by decide +kernel
theorem ce_212 (G : va_G) (a0 a1 a2 a3 : ClassId) (n0 : Nat) (em mi ic : Nat) : CalleeOk (VV G a0 a1 a2 a3 n0) (DD em mi ic) 212 0 := oc_ce (mn212 em mi ic) (mb212 em mi ic) (ml_212 em mi ic) (rt_212 em mi ic) (hh212 em mi ic) tw_455 tw_81 nmh_24 nvh_24 cp_61 (Nat.le_of_ble_eq_true rfl)
theorem ce_213 (G : va_G) (a0 a1 a2 a3 : ClassId) (n0 : Nat) (em mi ic : Nat) : CalleeOk (VV G a0 a1 a2 a3 n0) (DD em mi ic) 213 0 := oc_ce (mn213 em mi ic) (mb213 em mi ic) (ml_213 em mi ic) (rt_213 em mi ic) (hh213 em mi ic) tw_461 tw_82 nmh_15 nvh_15 cp_7 (Nat.le_of_ble_eq_true rfl)
theorem nmh_29 : "java/util/Arrays" ≠ "java/lang/invoke/MethodHandle" := by decide
theorem nvh_29 : "java/util/Arrays" ≠ "java/lang/invoke/VarHandle" := by decide
theorem cp_62 : (parseMethodDescriptor "([BII)[B").map (fun d => d.parameters.length) = some 3 := by decide +kernel
theorem ce_214 (G : va_G) (a0 a1 a2 a3 : ClassId) (n0 : Nat) (em mi ic : Nat) : CalleeOk (VV G a0 a1 a2 a3 n0) (DD em mi ic) 214 3 := oc_ce (mn214 em mi ic) (mb214 em mi ic) (ml_214 em mi ic) (rt_214 em mi ic) (hh214 em mi ic) tw_467 tw_67 nmh_29 nvh_29 cp_62 (Nat.le_of_ble_eq_true rfl)
theorem ce_215 (G : va_G) (a0 a1 a2 a3 : ClassId) (n0 : Nat) (em mi ic : Nat) : CalleeOk (VV G a0 a1 a2 a3 n0) (DD em mi ic) 215 1 := oc_ce (mn215 em mi ic) (mb215 em mi ic) (ml_215 em mi ic) (rt_215 em mi ic) (hh215 em mi ic) tw_733 tw_75 nmh_21 nvh_21 cp_46 (Nat.le_of_ble_eq_true rfl)
theorem nmh_30 : "jdk/internal/util/ArraysSupport" ≠ "java/lang/invoke/MethodHandle" := by decide
theorem nvh_30 : "jdk/internal/util/ArraysSupport" ≠ "java/lang/invoke/VarHandle" := by decide
theorem cp_63 : (parseMethodDescriptor "(III)I").map (fun d => d.parameters.length) = some 3 := by decide +kernel
theorem ce_216 (G : va_G) (a0 a1 a2 a3 : ClassId) (n0 : Nat) (em mi ic : Nat) : CalleeOk (VV G a0 a1 a2 a3 n0) (DD em mi ic) 216 3 := oc_ce (mn216 em mi ic) (mb216 em mi ic) (ml_216 em mi ic) (rt_216 em mi ic) (hh216 em mi ic) tw_362 tw_65 nmh_30 nvh_30 cp_63 (Nat.le_of_ble_eq_true rfl)
theorem cp_64 : (parseMethodDescriptor "([Ljava/lang/Object;I)[Ljava/lang/Object;").map (fun d => d.parameters.length) = some 2 := by decide +kernel
theorem ce_217 (G : va_G) (a0 a1 a2 a3 : ClassId) (n0 : Nat) (em mi ic : Nat) : CalleeOk (VV G a0 a1 a2 a3 n0) (DD em mi ic) 217 2 := oc_ce (mn217 em mi ic) (mb217 em mi ic) (ml_217 em mi ic) (rt_217 em mi ic) (hh217 em mi ic) tw_946 tw_67 nmh_29 nvh_29 cp_64 (Nat.le_of_ble_eq_true rfl)
theorem cp_65 : (parseMethodDescriptor "(LTwelvehundred$Household;LTwelvehundred$Hall;)Z").map (fun d => d.parameters.length) = some 2 := by decide +kernel
theorem ce_218 (G : va_G) (a0 a1 a2 a3 : ClassId) (n0 : Nat) (em mi ic : Nat) : CalleeOk (VV G a0 a1 a2 a3 n0) (DD em mi ic) 218 2 := oc_ce (mn218 em mi ic) (mb218 em mi ic) (ml_218 em mi ic) (rt_218 em mi ic) (hh218 em mi ic) tw_1034 tw_54 nmh_8 nvh_8 cp_65 (Nat.le_of_ble_eq_true rfl)
theorem cp_66 : (parseMethodDescriptor "(LTwelvehundred$Hall;)LTwelvehundred$Household;").map (fun d => d.parameters.length) = some 1 := by decide +kernel
theorem ce_219 (G : va_G) (a0 a1 a2 a3 : ClassId) (n0 : Nat) (em mi ic : Nat) : CalleeOk (VV G a0 a1 a2 a3 n0) (DD em mi ic) 219 1 := oc_ce (mn219 em mi ic) (mb219 em mi ic) (ml_219 em mi ic) (rt_219 em mi ic) (hh219 em mi ic) tw_1046 tw_52 nmh_6 nvh_6 cp_66 (Nat.le_of_ble_eq_true rfl)
theorem ce_220 (G : va_G) (a0 a1 a2 a3 : ClassId) (n0 : Nat) (em mi ic : Nat) : CalleeOk (VV G a0 a1 a2 a3 n0) (DD em mi ic) 220 0 := oc_ce (mn220 em mi ic) (mb220 em mi ic) (ml_220 em mi ic) (rt_220 em mi ic) (hh220 em mi ic) tw_463 tw_81 nmh_24 nvh_24 cp_7 (Nat.le_of_ble_eq_true rfl)
theorem ce_221 (G : va_G) (a0 a1 a2 a3 : ClassId) (n0 : Nat) (em mi ic : Nat) : CalleeOk (VV G a0 a1 a2 a3 n0) (DD em mi ic) 221 3 := oc_ce (mn221 em mi ic) (mb221 em mi ic) (ml_221 em mi ic) (rt_221 em mi ic) (hh221 em mi ic) tw_470 tw_67 nmh_29 nvh_29 cp_62 (Nat.le_of_ble_eq_true rfl)
theorem cp_67 : (parseMethodDescriptor "([Ljava/lang/Object;ILjava/lang/Class;)[Ljava/lang/Object;").map (fun d => d.parameters.length) = some 3 := by decide +kernel
theorem ce_222 (G : va_G) (a0 a1 a2 a3 : ClassId) (n0 : Nat) (em mi ic : Nat) : CalleeOk (VV G a0 a1 a2 a3 n0) (DD em mi ic) 222 3 := oc_ce (mn222 em mi ic) (mb222 em mi ic) (ml_222 em mi ic) (rt_222 em mi ic) (hh222 em mi ic) tw_976 tw_67 nmh_29 nvh_29 cp_67 (Nat.le_of_ble_eq_true rfl)
theorem ce_223 (G : va_G) (a0 a1 a2 a3 : ClassId) (n0 : Nat) (em mi ic : Nat) : CalleeOk (VV G a0 a1 a2 a3 n0) (DD em mi ic) 223 2 := oc_ce (mn223 em mi ic) (mb223 em mi ic) (ml_223 em mi ic) (rt_223 em mi ic) (hh223 em mi ic) tw_473 tw_67 nmh_29 nvh_29 cp_35 (Nat.le_of_ble_eq_true rfl)
theorem shw_0 (G : va_G) (a0 a1 a2 a3 : ClassId) (n0 : Nat) (em mi ic : Nat) : oc_IZ (VV G a0 a1 a2 a3 n0) (DD em mi ic) 3 0 := oc_iz (ce_3 G a0 a1 a2 a3 n0 em mi ic) (hh3 em mi ic) (mn3 em mi ic) (rt_3 em mi ic) rfl tw_874
theorem shw_1 (G : va_G) (a0 a1 a2 a3 : ClassId) (n0 : Nat) (em mi ic : Nat) : oc_ML (VV G a0 a1 a2 a3 n0) "TwelvehundredLaw" 91 yX12_init := Or.inr ⟨_, nw_873⟩
theorem shw_2 (G : va_G) (a0 a1 a2 a3 : ClassId) (n0 : Nat) (em mi ic : Nat) : oc_NO (VV G a0 a1 a2 a3 n0) "TwelvehundredLaw" 14 17 := ⟨(RX12, TX12, 1), rfl, tw_871, tw_872, tw_58⟩
theorem shw_3 (G : va_G) (a0 a1 a2 a3 : ClassId) (n0 : Nat) (em mi ic : Nat) : oc_IZ (VV G a0 a1 a2 a3 n0) (DD em mi ic) 2 0 := oc_iz (ce_2 G a0 a1 a2 a3 n0 em mi ic) (hh2 em mi ic) (mn2 em mi ic) (rt_2 em mi ic) rfl tw_1277
theorem shw_4 (G : va_G) (a0 a1 a2 a3 : ClassId) (n0 : Nat) (em mi ic : Nat) : oc_ML (VV G a0 a1 a2 a3 n0) "TwelvehundredLaw" 90 yX14_init := Or.inl tw_1276
theorem shw_5 (G : va_G) (a0 a1 a2 a3 : ClassId) (n0 : Nat) (em mi ic : Nat) : oc_NO (VV G a0 a1 a2 a3 n0) "TwelvehundredLaw" 88 19 := ⟨(RX14, TX14, 18), rfl, tw_1274, tw_1275, tw_57⟩
theorem shw_6 (G : va_G) (a0 a1 a2 a3 : ClassId) (n0 : Nat) (em mi ic : Nat) : oc_IZ (VV G a0 a1 a2 a3 n0) (DD em mi ic) 1 0 := oc_iz (ce_1 G a0 a1 a2 a3 n0 em mi ic) (hh1 em mi ic) (mn1 em mi ic) (rt_1 em mi ic) rfl tw_89
theorem shw_7 (G : va_G) (a0 a1 a2 a3 : ClassId) (n0 : Nat) (em mi ic : Nat) : oc_ML (VV G a0 a1 a2 a3 n0) "TwelvehundredLaw" 87 yX11_init := Or.inl tw_88
theorem shw_8 (G : va_G) (a0 a1 a2 a3 : ClassId) (n0 : Nat) (em mi ic : Nat) : oc_NO (VV G a0 a1 a2 a3 n0) "TwelvehundredLaw" 8 16 := ⟨(RX11, TX11, 10), rfl, tw_86, tw_87, tw_47⟩
theorem shw_9 (G : va_G) (a0 a1 a2 a3 : ClassId) (n0 : Nat) (em mi ic : Nat) : oc_VZ (VV G a0 a1 a2 a3 n0) (DD em mi ic) 5 2 19 := oc_vz (ce_5 G a0 a1 a2 a3 n0 em mi ic) (hh5 em mi ic) (mn5 em mi ic) tw_1342 tw_1343 ⟨(RX14, TX14, 18), rfl, rfl⟩
theorem shw_10 (G : va_G) (a0 a1 a2 a3 : ClassId) (n0 : Nat) (em mi ic : Nat) : oc_ML (VV G a0 a1 a2 a3 n0) "TwelvehundredLaw" 97 yX14_street := Or.inl tw_1341
theorem shw_11 (G : va_G) (a0 a1 a2 a3 : ClassId) (n0 : Nat) (em mi ic : Nat) : oc_VZ (VV G a0 a1 a2 a3 n0) (DD em mi ic) 7 2 19 := oc_vz (ce_7 G a0 a1 a2 a3 n0 em mi ic) (hh7 em mi ic) (mn7 em mi ic) tw_1355 tw_1356 ⟨(RX14, TX14, 18), rfl, rfl⟩
theorem shw_12 (G : va_G) (a0 a1 a2 a3 : ClassId) (n0 : Nat) (em mi ic : Nat) : oc_ML (VV G a0 a1 a2 a3 n0) "TwelvehundredLaw" 100 yX14_hall := Or.inl tw_1354
theorem shw_13 (G : va_G) (a0 a1 a2 a3 : ClassId) (n0 : Nat) (em mi ic : Nat) : oc_VZ (VV G a0 a1 a2 a3 n0) (DD em mi ic) 9 2 19 := oc_vz (ce_9 G a0 a1 a2 a3 n0 em mi ic) (hh9 em mi ic) (mn9 em mi ic) tw_1359 tw_1360 ⟨(RX14, TX14, 18), rfl, rfl⟩
theorem shw_14 (G : va_G) (a0 a1 a2 a3 : ClassId) (n0 : Nat) (em mi ic : Nat) : oc_ML (VV G a0 a1 a2 a3 n0) "TwelvehundredLaw" 103 yX14_rooms := Or.inl tw_1358
theorem shw_15 (G : va_G) (a0 a1 a2 a3 : ClassId) (n0 : Nat) (em mi ic : Nat) : oc_VZ (VV G a0 a1 a2 a3 n0) (DD em mi ic) 11 3 19 := oc_vz (ce_11 G a0 a1 a2 a3 n0 em mi ic) (hh11 em mi ic) (mn11 em mi ic) tw_1369 tw_1370 ⟨(RX14, TX14, 18), rfl, rfl⟩
theorem shw_16 (G : va_G) (a0 a1 a2 a3 : ClassId) (n0 : Nat) (em mi ic : Nat) : oc_ML (VV G a0 a1 a2 a3 n0) "TwelvehundredLaw" 107 yX14_household := Or.inl tw_1368
theorem shw_17 (G : va_G) (a0 a1 a2 a3 : ClassId) (n0 : Nat) (em mi ic : Nat) : oc_VZ (VV G a0 a1 a2 a3 n0) (DD em mi ic) 13 2 19 := oc_vz (ce_13 G a0 a1 a2 a3 n0 em mi ic) (hh13 em mi ic) (mn13 em mi ic) tw_1400 tw_1401 ⟨(RX14, TX14, 18), rfl, rfl⟩
theorem shw_18 (G : va_G) (a0 a1 a2 a3 : ClassId) (n0 : Nat) (em mi ic : Nat) : oc_ML (VV G a0 a1 a2 a3 n0) "TwelvehundredLaw" 110 yX14_river := Or.inl tw_1399
theorem shw_19 (G : va_G) (a0 a1 a2 a3 : ClassId) (n0 : Nat) (em mi ic : Nat) : oc_VZ (VV G a0 a1 a2 a3 n0) (DD em mi ic) 15 1 19 := oc_vz (ce_15 G a0 a1 a2 a3 n0 em mi ic) (hh15 em mi ic) (mn15 em mi ic) tw_1404 tw_1405 ⟨(RX14, TX14, 18), rfl, rfl⟩
theorem shw_20 (G : va_G) (a0 a1 a2 a3 : ClassId) (n0 : Nat) (em mi ic : Nat) : oc_ML (VV G a0 a1 a2 a3 n0) "TwelvehundredLaw" 114 yX14_buses := Or.inl tw_1403
theorem shw_21 (G : va_G) (a0 a1 a2 a3 : ClassId) (n0 : Nat) (em mi ic : Nat) : oc_VZ (VV G a0 a1 a2 a3 n0) (DD em mi ic) 17 1 19 := oc_vz (ce_17 G a0 a1 a2 a3 n0 em mi ic) (hh17 em mi ic) (mn17 em mi ic) tw_1408 tw_1409 ⟨(RX14, TX14, 18), rfl, rfl⟩
theorem shw_22 (G : va_G) (a0 a1 a2 a3 : ClassId) (n0 : Nat) (em mi ic : Nat) : oc_ML (VV G a0 a1 a2 a3 n0) "TwelvehundredLaw" 117 yX14_fetch := Or.inl tw_1407
theorem shw_23 (G : va_G) (a0 a1 a2 a3 : ClassId) (n0 : Nat) (em mi ic : Nat) : oc_VZ (VV G a0 a1 a2 a3 n0) (DD em mi ic) 20 0 19 := oc_vz (ce_20 G a0 a1 a2 a3 n0 em mi ic) (hh20 em mi ic) (mn20 em mi ic) tw_1338 tw_1339 ⟨(RX14, TX14, 18), rfl, rfl⟩
theorem shw_24 (G : va_G) (a0 a1 a2 a3 : ClassId) (n0 : Nat) (em mi ic : Nat) : oc_ML (VV G a0 a1 a2 a3 n0) "TwelvehundredLaw" 121 yX14_thrown := Or.inl tw_1337
theorem shw_25 (G : va_G) (a0 a1 a2 a3 : ClassId) (n0 : Nat) (em mi ic : Nat) : oc_VZ (VV G a0 a1 a2 a3 n0) (DD em mi ic) 19 1 19 := oc_vz (ce_19 G a0 a1 a2 a3 n0 em mi ic) (hh19 em mi ic) (mn19 em mi ic) tw_1416 tw_1417 ⟨(RX14, TX14, 18), rfl, rfl⟩
theorem shw_26 (G : va_G) (a0 a1 a2 a3 : ClassId) (n0 : Nat) (em mi ic : Nat) : oc_ML (VV G a0 a1 a2 a3 n0) "TwelvehundredLaw" 120 yX14_pass := Or.inl tw_1415
theorem shw_27 (G : va_G) (a0 a1 a2 a3 : ClassId) (n0 : Nat) (em mi ic : Nat) : oc_LF (VV G a0 a1 a2 a3 n0) "TwelvehundredLaw" 13 17 0 := ⟨(RX12, TX12, 1), rfl, by decide, "TwelvehundredLaw$Out", Or.inl rfl, Or.inr ⟨_, nw_877⟩⟩
theorem shw_28 (G : va_G) (a0 a1 a2 a3 : ClassId) (n0 : Nat) (em mi ic : Nat) : oc_VZ (VV G a0 a1 a2 a3 n0) (DD em mi ic) 22 2 19 := oc_vz (ce_22 G a0 a1 a2 a3 n0 em mi ic) (hh22 em mi ic) (mn22 em mi ic) tw_1472 tw_1473 ⟨(RX14, TX14, 18), rfl, rfl⟩
theorem shw_29 (G : va_G) (a0 a1 a2 a3 : ClassId) (n0 : Nat) (em mi ic : Nat) : oc_ML (VV G a0 a1 a2 a3 n0) "TwelvehundredLaw" 127 yX14_lot := Or.inl tw_1471
theorem shw_30 (G : va_G) (a0 a1 a2 a3 : ClassId) (n0 : Nat) (em mi ic : Nat) : oc_VZ (VV G a0 a1 a2 a3 n0) (DD em mi ic) 24 1 19 := oc_vz (ce_24 G a0 a1 a2 a3 n0 em mi ic) (hh24 em mi ic) (mn24 em mi ic) tw_1476 tw_1477 ⟨(RX14, TX14, 18), rfl, rfl⟩
theorem shw_31 (G : va_G) (a0 a1 a2 a3 : ClassId) (n0 : Nat) (em mi ic : Nat) : oc_ML (VV G a0 a1 a2 a3 n0) "TwelvehundredLaw" 130 yX14_give := Or.inl tw_1475
theorem shw_32 (G : va_G) (a0 a1 a2 a3 : ClassId) (n0 : Nat) (em mi ic : Nat) : oc_VZ (VV G a0 a1 a2 a3 n0) (DD em mi ic) 26 1 19 := oc_vz (ce_26 G a0 a1 a2 a3 n0 em mi ic) (hh26 em mi ic) (mn26 em mi ic) tw_1480 tw_1481 ⟨(RX14, TX14, 18), rfl, rfl⟩
theorem shw_33 (G : va_G) (a0 a1 a2 a3 : ClassId) (n0 : Nat) (em mi ic : Nat) : oc_ML (VV G a0 a1 a2 a3 n0) "TwelvehundredLaw" 133 yX14_list := Or.inl tw_1479
theorem shw_34 (G : va_G) (a0 a1 a2 a3 : ClassId) (n0 : Nat) (em mi ic : Nat) : oc_VZ (VV G a0 a1 a2 a3 n0) (DD em mi ic) 28 2 19 := oc_vz (ce_28 G a0 a1 a2 a3 n0 em mi ic) (hh28 em mi ic) (mn28 em mi ic) tw_1508 tw_1509 ⟨(RX14, TX14, 18), rfl, rfl⟩
theorem shw_35 (G : va_G) (a0 a1 a2 a3 : ClassId) (n0 : Nat) (em mi ic : Nat) : oc_ML (VV G a0 a1 a2 a3 n0) "TwelvehundredLaw" 137 yX14_strike := Or.inl tw_1507
theorem shw_36 (G : va_G) (a0 a1 a2 a3 : ClassId) (n0 : Nat) (em mi ic : Nat) : oc_VZ (VV G a0 a1 a2 a3 n0) (DD em mi ic) 30 0 19 := oc_vz (ce_30 G a0 a1 a2 a3 n0 em mi ic) (hh30 em mi ic) (mn30 em mi ic) tw_1537 tw_1538 ⟨(RX14, TX14, 18), rfl, rfl⟩
theorem shw_37 (G : va_G) (a0 a1 a2 a3 : ClassId) (n0 : Nat) (em mi ic : Nat) : oc_ML (VV G a0 a1 a2 a3 n0) "TwelvehundredLaw" 141 yX14_knock := Or.inl tw_1536
theorem shw_38 (G : va_G) (a0 a1 a2 a3 : ClassId) (n0 : Nat) (em mi ic : Nat) : oc_VZ (VV G a0 a1 a2 a3 n0) (DD em mi ic) 29 0 16 := oc_vz (ce_29 G a0 a1 a2 a3 n0 em mi ic) (hh29 em mi ic) (mn29 em mi ic) tw_279 tw_280 ⟨(RX11, TX11, 10), rfl, rfl⟩
theorem shw_39 (G : va_G) (a0 a1 a2 a3 : ClassId) (n0 : Nat) (em mi ic : Nat) : oc_ML (VV G a0 a1 a2 a3 n0) "TwelvehundredLaw" 138 yX11_knock := Or.inl tw_278
theorem shw_40 (G : va_G) (a0 a1 a2 a3 : ClassId) (n0 : Nat) (em mi ic : Nat) : oc_VZ (VV G a0 a1 a2 a3 n0) (DD em mi ic) 32 2 19 := oc_vz (ce_32 G a0 a1 a2 a3 n0 em mi ic) (hh32 em mi ic) (mn32 em mi ic) tw_1541 tw_1542 ⟨(RX14, TX14, 18), rfl, rfl⟩
theorem shw_41 (G : va_G) (a0 a1 a2 a3 : ClassId) (n0 : Nat) (em mi ic : Nat) : oc_ML (VV G a0 a1 a2 a3 n0) "TwelvehundredLaw" 144 yX14_ofStreet := Or.inl tw_1540
theorem shw_42 (G : va_G) (a0 a1 a2 a3 : ClassId) (n0 : Nat) (em mi ic : Nat) : oc_VZ (VV G a0 a1 a2 a3 n0) (DD em mi ic) 34 2 19 := oc_vz (ce_34 G a0 a1 a2 a3 n0 em mi ic) (hh34 em mi ic) (mn34 em mi ic) tw_1557 tw_1558 ⟨(RX14, TX14, 18), rfl, rfl⟩
theorem shw_43 (G : va_G) (a0 a1 a2 a3 : ClassId) (n0 : Nat) (em mi ic : Nat) : oc_ML (VV G a0 a1 a2 a3 n0) "TwelvehundredLaw" 147 yX14_ofHousehold := Or.inl tw_1556
theorem shw_44 (G : va_G) (a0 a1 a2 a3 : ClassId) (n0 : Nat) (em mi ic : Nat) : oc_VZ (VV G a0 a1 a2 a3 n0) (DD em mi ic) 36 2 19 := oc_vz (ce_36 G a0 a1 a2 a3 n0 em mi ic) (hh36 em mi ic) (mn36 em mi ic) tw_1593 tw_1594 ⟨(RX14, TX14, 18), rfl, rfl⟩
theorem shw_45 (G : va_G) (a0 a1 a2 a3 : ClassId) (n0 : Nat) (em mi ic : Nat) : oc_ML (VV G a0 a1 a2 a3 n0) "TwelvehundredLaw" 150 yX14_ofHall := Or.inl tw_1592
theorem shw_46 (G : va_G) (a0 a1 a2 a3 : ClassId) (n0 : Nat) (em mi ic : Nat) : oc_VZ (VV G a0 a1 a2 a3 n0) (DD em mi ic) 38 2 19 := oc_vz (ce_38 G a0 a1 a2 a3 n0 em mi ic) (hh38 em mi ic) (mn38 em mi ic) tw_1609 tw_1610 ⟨(RX14, TX14, 18), rfl, rfl⟩
theorem shw_47 (G : va_G) (a0 a1 a2 a3 : ClassId) (n0 : Nat) (em mi ic : Nat) : oc_ML (VV G a0 a1 a2 a3 n0) "TwelvehundredLaw" 153 yX14_ofLot := Or.inl tw_1608
theorem shw_48 (G : va_G) (a0 a1 a2 a3 : ClassId) (n0 : Nat) (em mi ic : Nat) : oc_VZ (VV G a0 a1 a2 a3 n0) (DD em mi ic) 40 1 19 := oc_vz (ce_40 G a0 a1 a2 a3 n0 em mi ic) (hh40 em mi ic) (mn40 em mi ic) tw_1613 tw_1614 ⟨(RX14, TX14, 18), rfl, rfl⟩
theorem shw_49 (G : va_G) (a0 a1 a2 a3 : ClassId) (n0 : Nat) (em mi ic : Nat) : oc_ML (VV G a0 a1 a2 a3 n0) "TwelvehundredLaw" 156 yX14_county := Or.inl tw_1612
theorem shw_50 (G : va_G) (a0 a1 a2 a3 : ClassId) (n0 : Nat) (em mi ic : Nat) : oc_VZ (VV G a0 a1 a2 a3 n0) (DD em mi ic) 42 0 19 := oc_vz (ce_42 G a0 a1 a2 a3 n0 em mi ic) (hh42 em mi ic) (mn42 em mi ic) tw_1629 tw_1630 ⟨(RX14, TX14, 18), rfl, rfl⟩
theorem shw_51 (G : va_G) (a0 a1 a2 a3 : ClassId) (n0 : Nat) (em mi ic : Nat) : oc_ML (VV G a0 a1 a2 a3 n0) "TwelvehundredLaw" 161 yX14_signs := Or.inl tw_1628
theorem shw_52 (G : va_G) (a0 a1 a2 a3 : ClassId) (n0 : Nat) (em mi ic : Nat) : oc_VZ (VV G a0 a1 a2 a3 n0) (DD em mi ic) 41 0 16 := oc_vz (ce_41 G a0 a1 a2 a3 n0 em mi ic) (hh41 em mi ic) (mn41 em mi ic) tw_283 tw_284 ⟨(RX11, TX11, 10), rfl, rfl⟩
theorem shw_53 (G : va_G) (a0 a1 a2 a3 : ClassId) (n0 : Nat) (em mi ic : Nat) : oc_ML (VV G a0 a1 a2 a3 n0) "TwelvehundredLaw" 157 yX11_signs := Or.inl tw_282
theorem shw_54 (G : va_G) (a0 a1 a2 a3 : ClassId) (n0 : Nat) (em mi ic : Nat) : oc_VZ (VV G a0 a1 a2 a3 n0) (DD em mi ic) 44 1 19 := oc_vz (ce_44 G a0 a1 a2 a3 n0 em mi ic) (hh44 em mi ic) (mn44 em mi ic) tw_1641 tw_1642 ⟨(RX14, TX14, 18), rfl, rfl⟩
theorem shw_55 (G : va_G) (a0 a1 a2 a3 : ClassId) (n0 : Nat) (em mi ic : Nat) : oc_ML (VV G a0 a1 a2 a3 n0) "TwelvehundredLaw" 164 yX14_can := Or.inl tw_1640
theorem shw_56 (G : va_G) (a0 a1 a2 a3 : ClassId) (n0 : Nat) (em mi ic : Nat) : oc_VZ (VV G a0 a1 a2 a3 n0) (DD em mi ic) 46 0 19 := oc_vz (ce_46 G a0 a1 a2 a3 n0 em mi ic) (hh46 em mi ic) (mn46 em mi ic) tw_1645 tw_1646 ⟨(RX14, TX14, 18), rfl, rfl⟩
theorem shw_57 (G : va_G) (a0 a1 a2 a3 : ClassId) (n0 : Nat) (em mi ic : Nat) : oc_ML (VV G a0 a1 a2 a3 n0) "TwelvehundredLaw" 168 yX14_chosen := Or.inl tw_1644
theorem shw_58 (G : va_G) (a0 a1 a2 a3 : ClassId) (n0 : Nat) (em mi ic : Nat) : oc_VZ (VV G a0 a1 a2 a3 n0) (DD em mi ic) 45 0 16 := oc_vz (ce_45 G a0 a1 a2 a3 n0 em mi ic) (hh45 em mi ic) (mn45 em mi ic) tw_641 tw_642 ⟨(RX11, TX11, 10), rfl, rfl⟩
theorem shw_59 (G : va_G) (a0 a1 a2 a3 : ClassId) (n0 : Nat) (em mi ic : Nat) : oc_ML (VV G a0 a1 a2 a3 n0) "TwelvehundredLaw" 165 yX11_chosen := Or.inl tw_640
theorem shw_60 (G : va_G) (a0 a1 a2 a3 : ClassId) (n0 : Nat) (em mi ic : Nat) : oc_VZ (VV G a0 a1 a2 a3 n0) (DD em mi ic) 48 1 19 := oc_vz (ce_48 G a0 a1 a2 a3 n0 em mi ic) (hh48 em mi ic) (mn48 em mi ic) tw_1649 tw_1650 ⟨(RX14, TX14, 18), rfl, rfl⟩
theorem shw_61 (G : va_G) (a0 a1 a2 a3 : ClassId) (n0 : Nat) (em mi ic : Nat) : oc_ML (VV G a0 a1 a2 a3 n0) "TwelvehundredLaw" 172 yX14_isStable := Or.inl tw_1648
theorem shw_62 (G : va_G) (a0 a1 a2 a3 : ClassId) (n0 : Nat) (em mi ic : Nat) : oc_VZ (VV G a0 a1 a2 a3 n0) (DD em mi ic) 47 1 16 := oc_vz (ce_47 G a0 a1 a2 a3 n0 em mi ic) (hh47 em mi ic) (mn47 em mi ic) tw_678 tw_679 ⟨(RX11, TX11, 10), rfl, rfl⟩
theorem shw_63 (G : va_G) (a0 a1 a2 a3 : ClassId) (n0 : Nat) (em mi ic : Nat) : oc_ML (VV G a0 a1 a2 a3 n0) "TwelvehundredLaw" 169 yX11_isStable := Or.inl tw_677
theorem shw_64 (G : va_G) (a0 a1 a2 a3 : ClassId) (n0 : Nat) (em mi ic : Nat) : oc_VZ (VV G a0 a1 a2 a3 n0) (DD em mi ic) 50 2 19 := oc_vz (ce_50 G a0 a1 a2 a3 n0 em mi ic) (hh50 em mi ic) (mn50 em mi ic) tw_1658 tw_1659 ⟨(RX14, TX14, 18), rfl, rfl⟩
theorem shw_65 (G : va_G) (a0 a1 a2 a3 : ClassId) (n0 : Nat) (em mi ic : Nat) : oc_ML (VV G a0 a1 a2 a3 n0) "TwelvehundredLaw" 175 yX14_would := Or.inl tw_1657
theorem shw_66 (G : va_G) (a0 a1 a2 a3 : ClassId) (n0 : Nat) (em mi ic : Nat) : oc_VZ (VV G a0 a1 a2 a3 n0) (DD em mi ic) 52 2 19 := oc_vz (ce_52 G a0 a1 a2 a3 n0 em mi ic) (hh52 em mi ic) (mn52 em mi ic) tw_1666 tw_1667 ⟨(RX14, TX14, 18), rfl, rfl⟩
theorem shw_67 (G : va_G) (a0 a1 a2 a3 : ClassId) (n0 : Nat) (em mi ic : Nat) : oc_ML (VV G a0 a1 a2 a3 n0) "TwelvehundredLaw" 178 yX14_areAlike := Or.inl tw_1665
theorem shw_68 (G : va_G) (a0 a1 a2 a3 : ClassId) (n0 : Nat) (em mi ic : Nat) : oc_VZ (VV G a0 a1 a2 a3 n0) (DD em mi ic) 54 0 19 := oc_vz (ce_54 G a0 a1 a2 a3 n0 em mi ic) (hh54 em mi ic) (mn54 em mi ic) tw_1670 tw_1671 ⟨(RX14, TX14, 18), rfl, rfl⟩
theorem shw_69 (G : va_G) (a0 a1 a2 a3 : ClassId) (n0 : Nat) (em mi ic : Nat) : oc_ML (VV G a0 a1 a2 a3 n0) "TwelvehundredLaw" 183 yX14_isSound := Or.inl tw_1669
theorem shw_70 (G : va_G) (a0 a1 a2 a3 : ClassId) (n0 : Nat) (em mi ic : Nat) : oc_VZ (VV G a0 a1 a2 a3 n0) (DD em mi ic) 53 0 16 := oc_vz (ce_53 G a0 a1 a2 a3 n0 em mi ic) (hh53 em mi ic) (mn53 em mi ic) tw_743 tw_744 ⟨(RX11, TX11, 10), rfl, rfl⟩
theorem shw_71 (G : va_G) (a0 a1 a2 a3 : ClassId) (n0 : Nat) (em mi ic : Nat) : oc_ML (VV G a0 a1 a2 a3 n0) "TwelvehundredLaw" 179 yX11_isSound := Or.inl tw_742
theorem shw_72 (G : va_G) (a0 a1 a2 a3 : ClassId) (n0 : Nat) (em mi ic : Nat) : oc_VZ (VV G a0 a1 a2 a3 n0) (DD em mi ic) 56 0 19 := oc_vz (ce_56 G a0 a1 a2 a3 n0 em mi ic) (hh56 em mi ic) (mn56 em mi ic) tw_1682 tw_1683 ⟨(RX14, TX14, 18), rfl, rfl⟩
theorem shw_73 (G : va_G) (a0 a1 a2 a3 : ClassId) (n0 : Nat) (em mi ic : Nat) : oc_ML (VV G a0 a1 a2 a3 n0) "TwelvehundredLaw" 188 yX14_digest := Or.inl tw_1681
theorem shw_74 (G : va_G) (a0 a1 a2 a3 : ClassId) (n0 : Nat) (em mi ic : Nat) : oc_VZ (VV G a0 a1 a2 a3 n0) (DD em mi ic) 55 0 16 := oc_vz (ce_55 G a0 a1 a2 a3 n0 em mi ic) (hh55 em mi ic) (mn55 em mi ic) tw_787 tw_788 ⟨(RX11, TX11, 10), rfl, rfl⟩
theorem shw_75 (G : va_G) (a0 a1 a2 a3 : ClassId) (n0 : Nat) (em mi ic : Nat) : oc_ML (VV G a0 a1 a2 a3 n0) "TwelvehundredLaw" 184 yX11_digest := Or.inl tw_786
theorem shw_76 (G : va_G) (a0 a1 a2 a3 : ClassId) (n0 : Nat) (em mi ic : Nat) : oc_IZ (VV G a0 a1 a2 a3 n0) (DD em mi ic) 63 0 := oc_iz (ce_63 G a0 a1 a2 a3 n0 em mi ic) (hh63 em mi ic) (mn63 em mi ic) (rt_63 em mi ic) rfl tw_233
theorem shw_77 (G : va_G) (a0 a1 a2 a3 : ClassId) (n0 : Nat) (em mi ic : Nat) : oc_ML (VV G a0 a1 a2 a3 n0) "Twelvehundred" 68 yX1_init := Or.inr ⟨_, nw_232⟩
theorem shw_78 (G : va_G) (a0 a1 a2 a3 : ClassId) (n0 : Nat) (em mi ic : Nat) : oc_NO (VV G a0 a1 a2 a3 n0) "Twelvehundred" 66 6 := ⟨(RX1, TX1, 2), rfl, tw_230, tw_231, tw_56⟩
theorem shw_79 (G : va_G) (a0 a1 a2 a3 : ClassId) (n0 : Nat) (em mi ic : Nat) : oc_IZ (VV G a0 a1 a2 a3 n0) (DD em mi ic) 62 0 := oc_iz (ce_62 G a0 a1 a2 a3 n0 em mi ic) (hh62 em mi ic) (mn62 em mi ic) (rt_62 em mi ic) rfl tw_208
theorem shw_80 (G : va_G) (a0 a1 a2 a3 : ClassId) (n0 : Nat) (em mi ic : Nat) : oc_ML (VV G a0 a1 a2 a3 n0) "Twelvehundred" 61 yX4_init := Or.inr ⟨_, nw_207⟩
theorem shw_81 (G : va_G) (a0 a1 a2 a3 : ClassId) (n0 : Nat) (em mi ic : Nat) : oc_NO (VV G a0 a1 a2 a3 n0) "Twelvehundred" 59 9 := ⟨(RX4, TX4, 4), rfl, tw_205, tw_206, tw_55⟩
theorem shw_82 (G : va_G) (a0 a1 a2 a3 : ClassId) (n0 : Nat) (em mi ic : Nat) : oc_IZ (VV G a0 a1 a2 a3 n0) (DD em mi ic) 59 2 := oc_iz (ce_59 G a0 a1 a2 a3 n0 em mi ic) (hh59 em mi ic) (mn59 em mi ic) (rt_59 em mi ic) rfl tw_145
theorem shw_83 (G : va_G) (a0 a1 a2 a3 : ClassId) (n0 : Nat) (em mi ic : Nat) : oc_ML (VV G a0 a1 a2 a3 n0) "Twelvehundred" 15 yX7_init := Or.inl tw_144
theorem shw_84 (G : va_G) (a0 a1 a2 a3 : ClassId) (n0 : Nat) (em mi ic : Nat) : oc_NO (VV G a0 a1 a2 a3 n0) "Twelvehundred" 13 12 := ⟨(RX7, TX7, 3), rfl, tw_142, tw_143, tw_52⟩
theorem shw_85 (G : va_G) (a0 a1 a2 a3 : ClassId) (n0 : Nat) (em mi ic : Nat) : oc_IZ (VV G a0 a1 a2 a3 n0) (DD em mi ic) 61 3 := oc_iz (ce_61 G a0 a1 a2 a3 n0 em mi ic) (hh61 em mi ic) (mn61 em mi ic) (rt_61 em mi ic) rfl tw_184
theorem shw_86 (G : va_G) (a0 a1 a2 a3 : ClassId) (n0 : Nat) (em mi ic : Nat) : oc_ML (VV G a0 a1 a2 a3 n0) "Twelvehundred" 49 yX0_init := Or.inl tw_183
theorem shw_87 (G : va_G) (a0 a1 a2 a3 : ClassId) (n0 : Nat) (em mi ic : Nat) : oc_NO (VV G a0 a1 a2 a3 n0) "Twelvehundred" 47 5 := ⟨(RX0, TX0, 5), rfl, tw_181, tw_182, tw_54⟩
theorem shw_88 (G : va_G) (a0 a1 a2 a3 : ClassId) (n0 : Nat) (em mi ic : Nat) : oc_IZ (VV G a0 a1 a2 a3 n0) (DD em mi ic) 60 2 := oc_iz (ce_60 G a0 a1 a2 a3 n0 em mi ic) (hh60 em mi ic) (mn60 em mi ic) (rt_60 em mi ic) rfl tw_163
theorem shw_89 (G : va_G) (a0 a1 a2 a3 : ClassId) (n0 : Nat) (em mi ic : Nat) : oc_ML (VV G a0 a1 a2 a3 n0) "Twelvehundred" 36 yX8_init := Or.inl tw_162
theorem shw_90 (G : va_G) (a0 a1 a2 a3 : ClassId) (n0 : Nat) (em mi ic : Nat) : oc_NO (VV G a0 a1 a2 a3 n0) "Twelvehundred" 34 13 := ⟨(RX8, TX8, 4), rfl, tw_160, tw_161, tw_53⟩
theorem shw_91 (G : va_G) (a0 a1 a2 a3 : ClassId) (n0 : Nat) (em mi ic : Nat) : oc_IZ (VV G a0 a1 a2 a3 n0) (DD em mi ic) 58 0 := oc_iz (ce_58 G a0 a1 a2 a3 n0 em mi ic) (hh58 em mi ic) (mn58 em mi ic) (rt_58 em mi ic) rfl tw_116
theorem shw_92 (G : va_G) (a0 a1 a2 a3 : ClassId) (n0 : Nat) (em mi ic : Nat) : oc_ML (VV G a0 a1 a2 a3 n0) "Twelvehundred" 12 yJx4a65c_init_da8c8 := Or.inl tw_115
theorem shw_93 (G : va_G) (a0 a1 a2 a3 : ClassId) (n0 : Nat) (em mi ic : Nat) : oc_NO (VV G a0 a1 a2 a3 n0) "Twelvehundred" 10 4 := ⟨(RJx4a65c, TJx4a65c, 3), rfl, tw_113, tw_114, tw_51⟩
theorem shw_94 (G : va_G) (a0 a1 a2 a3 : ClassId) (n0 : Nat) (em mi ic : Nat) : oc_IZ (VV G a0 a1 a2 a3 n0) (DD em mi ic) 57 0 := oc_iz (ce_57 G a0 a1 a2 a3 n0 em mi ic) (hh57 em mi ic) (mn57 em mi ic) (rt_57 em mi ic) rfl tw_97
theorem shw_95 (G : va_G) (a0 a1 a2 a3 : ClassId) (n0 : Nat) (em mi ic : Nat) : oc_ML (VV G a0 a1 a2 a3 n0) "Twelvehundred" 9 yX9_init := Or.inr ⟨_, nw_96⟩
theorem shw_96 (G : va_G) (a0 a1 a2 a3 : ClassId) (n0 : Nat) (em mi ic : Nat) : oc_NO (VV G a0 a1 a2 a3 n0) "Twelvehundred" 7 14 := ⟨(RX9, TX9, 3), rfl, tw_94, tw_95, tw_48⟩
theorem shw_97 (G : va_G) (a0 a1 a2 a3 : ClassId) (n0 : Nat) (em mi ic : Nat) : oc_ML (VV G a0 a1 a2 a3 n0) "TwelvehundredModel" 18 yJx4a65c_init_da8c8 := Or.inl tw_1281
theorem shw_98 (G : va_G) (a0 a1 a2 a3 : ClassId) (n0 : Nat) (em mi ic : Nat) : oc_NO (VV G a0 a1 a2 a3 n0) "TwelvehundredModel" 16 4 := ⟨(RJx4a65c, TJx4a65c, 3), rfl, tw_1280, tw_114, tw_51⟩
theorem shw_99 (G : va_G) (a0 a1 a2 a3 : ClassId) (n0 : Nat) (em mi ic : Nat) : oc_LP (VV G a0 a1 a2 a3 n0) "TwelvehundredModel" 13 19 4 := ⟨(RX14, TX14, 18), rfl, by decide, "TwelvehundredModel", Or.inl rfl, rfl, Or.inl tw_1286⟩
theorem shw_100 (G : va_G) (a0 a1 a2 a3 : ClassId) (n0 : Nat) (em mi ic : Nat) : oc_LP (VV G a0 a1 a2 a3 n0) "TwelvehundredModel" 7 19 1 := ⟨(RX14, TX14, 18), rfl, by decide, "TwelvehundredModel", Or.inl rfl, rfl, Or.inl tw_1283⟩
theorem shw_101 (G : va_G) (a0 a1 a2 a3 : ClassId) (n0 : Nat) (em mi ic : Nat) : oc_LP (VV G a0 a1 a2 a3 n0) "TwelvehundredLaw" 13 17 0 := ⟨(RX12, TX12, 1), rfl, by decide, "TwelvehundredLaw$Out", Or.inl rfl, rfl, Or.inr ⟨_, nw_877⟩⟩
theorem shw_102 (G : va_G) (a0 a1 a2 a3 : ClassId) (n0 : Nat) (em mi ic : Nat) : oc_SZ (VV G a0 a1 a2 a3 n0) (DD em mi ic) 65 3 := oc_sz (ce_65 G a0 a1 a2 a3 n0 em mi ic) (hh65 em mi ic) (mn65 em mi ic) tw_1346
theorem shw_103 (G : va_G) (a0 a1 a2 a3 : ClassId) (n0 : Nat) (em mi ic : Nat) : oc_ML (VV G a0 a1 a2 a3 n0) "TwelvehundredModel" 42 yX14_is := Or.inl tw_1345
theorem shw_104 (G : va_G) (a0 a1 a2 a3 : ClassId) (n0 : Nat) (em mi ic : Nat) : oc_LP (VV G a0 a1 a2 a3 n0) "TwelvehundredModel" 35 19 0 := ⟨(RX14, TX14, 18), rfl, by decide, "TwelvehundredModel", Or.inl rfl, rfl, Or.inl tw_1282⟩
theorem shw_105 (G : va_G) (a0 a1 a2 a3 : ClassId) (n0 : Nat) (em mi ic : Nat) : oc_VZ (VV G a0 a1 a2 a3 n0) (DD em mi ic) 66 1 19 := oc_vz (ce_66 G a0 a1 a2 a3 n0 em mi ic) (hh66 em mi ic) (mn66 em mi ic) tw_1350 tw_16 ⟨(RX14, TX14, 18), rfl, rfl⟩
theorem shw_106 (G : va_G) (a0 a1 a2 a3 : ClassId) (n0 : Nat) (em mi ic : Nat) : oc_ML (VV G a0 a1 a2 a3 n0) "TwelvehundredModel" 46 yX14_refuse := Or.inl tw_1348
theorem shw_107 (G : va_G) (a0 a1 a2 a3 : ClassId) (n0 : Nat) (em mi ic : Nat) : oc_VZ (VV G a0 a1 a2 a3 n0) (DD em mi ic) 67 0 4 := oc_vz (ce_67 G a0 a1 a2 a3 n0 em mi ic) (hh67 em mi ic) (mn67 em mi ic) tw_319 tw_320 ⟨(RJx4a65c, TJx4a65c, 3), rfl, rfl⟩
theorem shw_108 (G : va_G) (a0 a1 a2 a3 : ClassId) (n0 : Nat) (em mi ic : Nat) : oc_ML (VV G a0 a1 a2 a3 n0) "TwelvehundredModel" 38 yJx4a65c_size_8abf5 := Or.inl tw_1352
theorem shw_109 (G : va_G) (a0 a1 a2 a3 : ClassId) (n0 : Nat) (em mi ic : Nat) : oc_LF (VV G a0 a1 a2 a3 n0) "TwelvehundredModel" 19 19 11 := ⟨(RX14, TX14, 18), rfl, by decide, "TwelvehundredModel", Or.inl rfl, Or.inl tw_1293⟩
theorem shw_110 (G : va_G) (a0 a1 a2 a3 : ClassId) (n0 : Nat) (em mi ic : Nat) : oc_VZ (VV G a0 a1 a2 a3 n0) (DD em mi ic) 68 1 4 := oc_vz (ce_68 G a0 a1 a2 a3 n0 em mi ic) (hh68 em mi ic) (mn68 em mi ic) tw_928 tw_929 ⟨(RJx4a65c, TJx4a65c, 3), rfl, rfl⟩
theorem shw_111 (G : va_G) (a0 a1 a2 a3 : ClassId) (n0 : Nat) (em mi ic : Nat) : oc_ML (VV G a0 a1 a2 a3 n0) "TwelvehundredModel" 50 yJx4a65c_add_9ea2d := Or.inl tw_1353
theorem shw_112 (G : va_G) (a0 a1 a2 a3 : ClassId) (n0 : Nat) (em mi ic : Nat) : oc_LF (VV G a0 a1 a2 a3 n0) "TwelvehundredModel" 23 19 12 := ⟨(RX14, TX14, 18), rfl, by decide, "TwelvehundredModel", Or.inl rfl, Or.inl tw_1294⟩
theorem shw_113 (G : va_G) (a0 a1 a2 a3 : ClassId) (n0 : Nat) (em mi ic : Nat) : oc_VZ (VV G a0 a1 a2 a3 n0) (DD em mi ic) 71 1 19 := oc_vz (ce_71 G a0 a1 a2 a3 n0 em mi ic) (hh71 em mi ic) (mn71 em mi ic) tw_1364 tw_17 ⟨(RX14, TX14, 18), rfl, rfl⟩
theorem shw_114 (G : va_G) (a0 a1 a2 a3 : ClassId) (n0 : Nat) (em mi ic : Nat) : oc_ML (VV G a0 a1 a2 a3 n0) "TwelvehundredModel" 54 yX14_isHall := Or.inl tw_1362
theorem shw_115 (G : va_G) (a0 a1 a2 a3 : ClassId) (n0 : Nat) (em mi ic : Nat) : oc_CO (VV G a0 a1 a2 a3 n0) (DD em mi ic) "TwelvehundredModel" 62 100 := ⟨"[I", tw_1367, cast100a, cast100b⟩
theorem shw_116 (G : va_G) (a0 a1 a2 a3 : ClassId) (n0 : Nat) (em mi ic : Nat) : oc_VZ (VV G a0 a1 a2 a3 n0) (DD em mi ic) 72 1 4 := oc_vz (ce_72 G a0 a1 a2 a3 n0 em mi ic) (hh72 em mi ic) (mn72 em mi ic) tw_323 tw_324 ⟨(RJx4a65c, TJx4a65c, 3), rfl, rfl⟩
theorem shw_117 (G : va_G) (a0 a1 a2 a3 : ClassId) (n0 : Nat) (em mi ic : Nat) : oc_ML (VV G a0 a1 a2 a3 n0) "TwelvehundredModel" 58 yJx4a65c_get_915e3 := Or.inl tw_1366
theorem shw_118 (G : va_G) (a0 a1 a2 a3 : ClassId) (n0 : Nat) (em mi ic : Nat) : oc_VZ (VV G a0 a1 a2 a3 n0) (DD em mi ic) 74 1 19 := oc_vz (ce_74 G a0 a1 a2 a3 n0 em mi ic) (hh74 em mi ic) (mn74 em mi ic) tw_1374 tw_18 ⟨(RX14, TX14, 18), rfl, rfl⟩
theorem shw_119 (G : va_G) (a0 a1 a2 a3 : ClassId) (n0 : Nat) (em mi ic : Nat) : oc_ML (VV G a0 a1 a2 a3 n0) "TwelvehundredModel" 64 yX14_isStreet := Or.inl tw_1372
theorem shw_120 (G : va_G) (a0 a1 a2 a3 : ClassId) (n0 : Nat) (em mi ic : Nat) : oc_LF (VV G a0 a1 a2 a3 n0) "TwelvehundredModel" 26 19 13 := ⟨(RX14, TX14, 18), rfl, by decide, "TwelvehundredModel", Or.inl rfl, Or.inl tw_1295⟩
theorem shw_121 (G : va_G) (a0 a1 a2 a3 : ClassId) (n0 : Nat) (em mi ic : Nat) : oc_VZ (VV G a0 a1 a2 a3 n0) (DD em mi ic) 76 1 19 := oc_vz (ce_76 G a0 a1 a2 a3 n0 em mi ic) (hh76 em mi ic) (mn76 em mi ic) tw_1397 tw_19 ⟨(RX14, TX14, 18), rfl, rfl⟩
theorem shw_122 (G : va_G) (a0 a1 a2 a3 : ClassId) (n0 : Nat) (em mi ic : Nat) : oc_ML (VV G a0 a1 a2 a3 n0) "TwelvehundredModel" 80 yX14_isFlooded := Or.inl tw_1395
theorem shw_123 (G : va_G) (a0 a1 a2 a3 : ClassId) (n0 : Nat) (em mi ic : Nat) : oc_LP (VV G a0 a1 a2 a3 n0) "TwelvehundredModel" 76 18 2 := ⟨(RX13, TX13, 4), rfl, by decide, "TwelvehundredModel$Household", Or.inl rfl, rfl, Or.inr ⟨_, nw_1384⟩⟩
theorem shw_124 (G : va_G) (a0 a1 a2 a3 : ClassId) (n0 : Nat) (em mi ic : Nat) : oc_LP (VV G a0 a1 a2 a3 n0) "TwelvehundredModel" 73 18 1 := ⟨(RX13, TX13, 4), rfl, by decide, "TwelvehundredModel$Household", Or.inl rfl, rfl, Or.inr ⟨_, nw_1383⟩⟩
theorem shw_125 (G : va_G) (a0 a1 a2 a3 : ClassId) (n0 : Nat) (em mi ic : Nat) : oc_LP (VV G a0 a1 a2 a3 n0) "TwelvehundredModel" 70 18 0 := ⟨(RX13, TX13, 4), rfl, by decide, "TwelvehundredModel$Household", Or.inl rfl, rfl, Or.inr ⟨_, nw_1382⟩⟩
theorem shw_126 (G : va_G) (a0 a1 a2 a3 : ClassId) (n0 : Nat) (em mi ic : Nat) : oc_IZ (VV G a0 a1 a2 a3 n0) (DD em mi ic) 75 0 := oc_iz (ce_75 G a0 a1 a2 a3 n0 em mi ic) (hh75 em mi ic) (mn75 em mi ic) (rt_75 em mi ic) rfl tw_1379
theorem shw_127 (G : va_G) (a0 a1 a2 a3 : ClassId) (n0 : Nat) (em mi ic : Nat) : oc_ML (VV G a0 a1 a2 a3 n0) "TwelvehundredModel" 69 yX13_init := Or.inr ⟨_, nw_1378⟩
theorem shw_128 (G : va_G) (a0 a1 a2 a3 : ClassId) (n0 : Nat) (em mi ic : Nat) : oc_NO (VV G a0 a1 a2 a3 n0) "TwelvehundredModel" 67 18 := ⟨(RX13, TX13, 4), rfl, tw_1376, tw_1377, tw_76⟩
theorem shw_129 (G : va_G) (a0 a1 a2 a3 : ClassId) (n0 : Nat) (em mi ic : Nat) : oc_LP (VV G a0 a1 a2 a3 n0) "TwelvehundredModel" 83 18 3 := ⟨(RX13, TX13, 4), rfl, by decide, "TwelvehundredModel$Household", Or.inl rfl, rfl, Or.inr ⟨_, nw_1385⟩⟩
theorem shw_130 (G : va_G) (a0 a1 a2 a3 : ClassId) (n0 : Nat) (em mi ic : Nat) : oc_LP (VV G a0 a1 a2 a3 n0) "TwelvehundredModel" 86 19 2 := ⟨(RX14, TX14, 18), rfl, by decide, "TwelvehundredModel", Or.inl rfl, rfl, Or.inl tw_1284⟩
theorem shw_131 (G : va_G) (a0 a1 a2 a3 : ClassId) (n0 : Nat) (em mi ic : Nat) : oc_LF (VV G a0 a1 a2 a3 n0) "TwelvehundredModel" 7 19 1 := ⟨(RX14, TX14, 18), rfl, by decide, "TwelvehundredModel", Or.inl rfl, Or.inl tw_1283⟩
theorem shw_132 (G : va_G) (a0 a1 a2 a3 : ClassId) (n0 : Nat) (em mi ic : Nat) : oc_LF (VV G a0 a1 a2 a3 n0) "TwelvehundredModel" 13 19 4 := ⟨(RX14, TX14, 18), rfl, by decide, "TwelvehundredModel", Or.inl rfl, Or.inl tw_1286⟩
theorem shw_133 (G : va_G) (a0 a1 a2 a3 : ClassId) (n0 : Nat) (em mi ic : Nat) : oc_VZ (VV G a0 a1 a2 a3 n0) (DD em mi ic) 80 1 19 := oc_vz (ce_80 G a0 a1 a2 a3 n0 em mi ic) (hh80 em mi ic) (mn80 em mi ic) tw_1413 tw_20 ⟨(RX14, TX14, 18), rfl, rfl⟩
theorem shw_134 (G : va_G) (a0 a1 a2 a3 : ClassId) (n0 : Nat) (em mi ic : Nat) : oc_ML (VV G a0 a1 a2 a3 n0) "TwelvehundredModel" 89 yX14_isHousehold := Or.inl tw_1411
theorem shw_135 (G : va_G) (a0 a1 a2 a3 : ClassId) (n0 : Nat) (em mi ic : Nat) : oc_LF (VV G a0 a1 a2 a3 n0) "TwelvehundredModel" 92 19 5 := ⟨(RX14, TX14, 18), rfl, by decide, "TwelvehundredModel", Or.inl rfl, Or.inl tw_1287⟩
theorem shw_136 (G : va_G) (a0 a1 a2 a3 : ClassId) (n0 : Nat) (em mi ic : Nat) : oc_LF (VV G a0 a1 a2 a3 n0) "TwelvehundredModel" 83 18 3 := ⟨(RX13, TX13, 4), rfl, by decide, "TwelvehundredModel$Household", Or.inl rfl, Or.inr ⟨_, nw_1385⟩⟩
theorem shw_137 (G : va_G) (a0 a1 a2 a3 : ClassId) (n0 : Nat) (em mi ic : Nat) : oc_CO (VV G a0 a1 a2 a3 n0) (DD em mi ic) "TwelvehundredModel" 67 18 := ⟨"TwelvehundredModel$Household", tw_1376, castO 18 rfl, castA 18 rfl⟩
theorem shw_138 (G : va_G) (a0 a1 a2 a3 : ClassId) (n0 : Nat) (em mi ic : Nat) : oc_LP (VV G a0 a1 a2 a3 n0) "TwelvehundredModel" 92 19 5 := ⟨(RX14, TX14, 18), rfl, by decide, "TwelvehundredModel", Or.inl rfl, rfl, Or.inl tw_1287⟩
theorem shw_139 (G : va_G) (a0 a1 a2 a3 : ClassId) (n0 : Nat) (em mi ic : Nat) : oc_LF (VV G a0 a1 a2 a3 n0) "TwelvehundredModel" 104 19 3 := ⟨(RX14, TX14, 18), rfl, by decide, "TwelvehundredModel", Or.inl rfl, Or.inl tw_1285⟩
theorem shw_140 (G : va_G) (a0 a1 a2 a3 : ClassId) (n0 : Nat) (em mi ic : Nat) : oc_VZ (VV G a0 a1 a2 a3 n0) (DD em mi ic) 82 0 19 := oc_vz (ce_82 G a0 a1 a2 a3 n0 em mi ic) (hh82 em mi ic) (mn82 em mi ic) tw_1421 tw_21 ⟨(RX14, TX14, 18), rfl, rfl⟩
theorem shw_141 (G : va_G) (a0 a1 a2 a3 : ClassId) (n0 : Nat) (em mi ic : Nat) : oc_ML (VV G a0 a1 a2 a3 n0) "TwelvehundredModel" 124 yX14_hourGoes := Or.inl tw_1419
theorem shw_142 (G : va_G) (a0 a1 a2 a3 : ClassId) (n0 : Nat) (em mi ic : Nat) : oc_LF (VV G a0 a1 a2 a3 n0) "TwelvehundredModel" 35 19 0 := ⟨(RX14, TX14, 18), rfl, by decide, "TwelvehundredModel", Or.inl rfl, Or.inl tw_1282⟩
theorem shw_143 (G : va_G) (a0 a1 a2 a3 : ClassId) (n0 : Nat) (em mi ic : Nat) : oc_LF (VV G a0 a1 a2 a3 n0) "TwelvehundredModel" 29 19 14 := ⟨(RX14, TX14, 18), rfl, by decide, "TwelvehundredModel", Or.inl rfl, Or.inl tw_1296⟩
theorem shw_144 (G : va_G) (a0 a1 a2 a3 : ClassId) (n0 : Nat) (em mi ic : Nat) : oc_LP (VV G a0 a1 a2 a3 n0) "TwelvehundredModel" 127 19 9 := ⟨(RX14, TX14, 18), rfl, by decide, "TwelvehundredModel", Or.inl rfl, rfl, Or.inl tw_1291⟩
theorem shw_145 (G : va_G) (a0 a1 a2 a3 : ClassId) (n0 : Nat) (em mi ic : Nat) : oc_LF (VV G a0 a1 a2 a3 n0) "TwelvehundredModel" 127 19 9 := ⟨(RX14, TX14, 18), rfl, by decide, "TwelvehundredModel", Or.inl rfl, Or.inl tw_1291⟩
theorem shw_146 (G : va_G) (a0 a1 a2 a3 : ClassId) (n0 : Nat) (em mi ic : Nat) : oc_VZ (VV G a0 a1 a2 a3 n0) (DD em mi ic) 85 0 4 := oc_vz (ce_85 G a0 a1 a2 a3 n0 em mi ic) (hh85 em mi ic) (mn85 em mi ic) tw_1426 tw_1427 ⟨(RJx4a65c, TJx4a65c, 3), rfl, rfl⟩
theorem shw_147 (G : va_G) (a0 a1 a2 a3 : ClassId) (n0 : Nat) (em mi ic : Nat) : oc_ML (VV G a0 a1 a2 a3 n0) "TwelvehundredModel" 107 yJx4a65c_iterator_32c93 := Or.inl tw_1425
theorem shw_148 (G : va_G) (a0 a1 a2 a3 : ClassId) (n0 : Nat) (em mi ic : Nat) : oc_SZ (VV G a0 a1 a2 a3 n0) (DD em mi ic) 88 2 := oc_sz (ce_88 G a0 a1 a2 a3 n0 em mi ic) (hh88 em mi ic) (mn88 em mi ic) tw_382
theorem shw_149 (G : va_G) (a0 a1 a2 a3 : ClassId) (n0 : Nat) (em mi ic : Nat) : oc_ML (VV G a0 a1 a2 a3 n0) "TwelvehundredModel" 95 yJ9_min_7cf53 := Or.inl tw_1423
theorem shw_150 (G : va_G) (a0 a1 a2 a3 : ClassId) (n0 : Nat) (em mi ic : Nat) : oc_LP (VV G a0 a1 a2 a3 n0) "TwelvehundredModel" 133 19 8 := ⟨(RX14, TX14, 18), rfl, by decide, "TwelvehundredModel", Or.inl rfl, rfl, Or.inl tw_1290⟩
theorem shw_151 (G : va_G) (a0 a1 a2 a3 : ClassId) (n0 : Nat) (em mi ic : Nat) : oc_LF (VV G a0 a1 a2 a3 n0) "TwelvehundredModel" 133 19 8 := ⟨(RX14, TX14, 18), rfl, by decide, "TwelvehundredModel", Or.inl rfl, Or.inl tw_1290⟩
theorem shw_152 (G : va_G) (a0 a1 a2 a3 : ClassId) (n0 : Nat) (em mi ic : Nat) : oc_LP (VV G a0 a1 a2 a3 n0) "TwelvehundredModel" 130 19 6 := ⟨(RX14, TX14, 18), rfl, by decide, "TwelvehundredModel", Or.inl rfl, rfl, Or.inl tw_1288⟩
theorem shw_153 (G : va_G) (a0 a1 a2 a3 : ClassId) (n0 : Nat) (em mi ic : Nat) : oc_LF (VV G a0 a1 a2 a3 n0) "TwelvehundredModel" 130 19 6 := ⟨(RX14, TX14, 18), rfl, by decide, "TwelvehundredModel", Or.inl rfl, Or.inl tw_1288⟩
theorem shw_154 (G : va_G) (a0 a1 a2 a3 : ClassId) (n0 : Nat) (em mi ic : Nat) : oc_SZ (VV G a0 a1 a2 a3 n0) (DD em mi ic) 90 1 := oc_sz (ce_90 G a0 a1 a2 a3 n0 em mi ic) (hh90 em mi ic) (mn90 em mi ic) tw_1484
theorem shw_155 (G : va_G) (a0 a1 a2 a3 : ClassId) (n0 : Nat) (em mi ic : Nat) : oc_ML (VV G a0 a1 a2 a3 n0) "TwelvehundredModel" 137 yX14_isName := Or.inl tw_1483
theorem shw_156 (G : va_G) (a0 a1 a2 a3 : ClassId) (n0 : Nat) (em mi ic : Nat) : oc_LF (VV G a0 a1 a2 a3 n0) "TwelvehundredModel" 32 19 15 := ⟨(RX14, TX14, 18), rfl, by decide, "TwelvehundredModel", Or.inl rfl, Or.inl tw_1297⟩
theorem shw_157 (G : va_G) (a0 a1 a2 a3 : ClassId) (n0 : Nat) (em mi ic : Nat) : oc_SZ (VV G a0 a1 a2 a3 n0) (DD em mi ic) 91 1 := oc_sz (ce_91 G a0 a1 a2 a3 n0 em mi ic) (hh91 em mi ic) (mn91 em mi ic) tw_1488
theorem shw_158 (G : va_G) (a0 a1 a2 a3 : ClassId) (n0 : Nat) (em mi ic : Nat) : oc_ML (VV G a0 a1 a2 a3 n0) "TwelvehundredModel" 140 yJ6_valueOf_2dffe := Or.inl tw_1487
theorem shw_159 (G : va_G) (a0 a1 a2 a3 : ClassId) (n0 : Nat) (em mi ic : Nat) : oc_LF (VV G a0 a1 a2 a3 n0) "TwelvehundredModel" 156 19 16 := ⟨(RX14, TX14, 18), rfl, by decide, "TwelvehundredModel", Or.inl rfl, Or.inl tw_1298⟩
theorem shw_160 (G : va_G) (a0 a1 a2 a3 : ClassId) (n0 : Nat) (em mi ic : Nat) : oc_VZ (VV G a0 a1 a2 a3 n0) (DD em mi ic) 93 0 19 := oc_vz (ce_93 G a0 a1 a2 a3 n0 em mi ic) (hh93 em mi ic) (mn93 em mi ic) tw_1513 tw_22 ⟨(RX14, TX14, 18), rfl, rfl⟩
theorem shw_161 (G : va_G) (a0 a1 a2 a3 : ClassId) (n0 : Nat) (em mi ic : Nat) : oc_ML (VV G a0 a1 a2 a3 n0) "TwelvehundredModel" 171 yX14_persons := Or.inl tw_1511
theorem shw_162 (G : va_G) (a0 a1 a2 a3 : ClassId) (n0 : Nat) (em mi ic : Nat) : oc_LP (VV G a0 a1 a2 a3 n0) "TwelvehundredModel" 156 19 16 := ⟨(RX14, TX14, 18), rfl, by decide, "TwelvehundredModel", Or.inl rfl, rfl, Or.inl tw_1298⟩
theorem shw_163 (G : va_G) (a0 a1 a2 a3 : ClassId) (n0 : Nat) (em mi ic : Nat) : oc_LF (VV G a0 a1 a2 a3 n0) "Twelvehundred" 228 6 1 := ⟨(RX1, TX1, 2), rfl, by decide, "Twelvehundred$Bulletin", Or.inl rfl, Or.inr ⟨_, nw_241⟩⟩
theorem shw_164 (G : va_G) (a0 a1 a2 a3 : ClassId) (n0 : Nat) (em mi ic : Nat) : oc_LF (VV G a0 a1 a2 a3 n0) "Twelvehundred" 69 16 9 := ⟨(RX11, TX11, 10), rfl, by decide, "Twelvehundred", Or.inl rfl, Or.inl tw_256⟩
theorem shw_165 (G : va_G) (a0 a1 a2 a3 : ClassId) (n0 : Nat) (em mi ic : Nat) : oc_LP (VV G a0 a1 a2 a3 n0) "Twelvehundred" 228 6 1 := ⟨(RX1, TX1, 2), rfl, by decide, "Twelvehundred$Bulletin", Or.inl rfl, rfl, Or.inr ⟨_, nw_241⟩⟩
theorem shw_166 (G : va_G) (a0 a1 a2 a3 : ClassId) (n0 : Nat) (em mi ic : Nat) : oc_LF (VV G a0 a1 a2 a3 n0) "TwelvehundredModel" 174 19 10 := ⟨(RX14, TX14, 18), rfl, by decide, "TwelvehundredModel", Or.inl rfl, Or.inl tw_1292⟩
theorem shw_167 (G : va_G) (a0 a1 a2 a3 : ClassId) (n0 : Nat) (em mi ic : Nat) : oc_LP (VV G a0 a1 a2 a3 n0) "TwelvehundredModel" 174 19 10 := ⟨(RX14, TX14, 18), rfl, by decide, "TwelvehundredModel", Or.inl rfl, rfl, Or.inl tw_1292⟩
theorem shw_168 (G : va_G) (a0 a1 a2 a3 : ClassId) (n0 : Nat) (em mi ic : Nat) : oc_VZ (VV G a0 a1 a2 a3 n0) (DD em mi ic) 95 2 19 := oc_vz (ce_95 G a0 a1 a2 a3 n0 em mi ic) (hh95 em mi ic) (mn95 em mi ic) tw_1546 tw_23 ⟨(RX14, TX14, 18), rfl, rfl⟩
theorem shw_169 (G : va_G) (a0 a1 a2 a3 : ClassId) (n0 : Nat) (em mi ic : Nat) : oc_ML (VV G a0 a1 a2 a3 n0) "TwelvehundredModel" 205 yX14_ofStreetNow := Or.inl tw_1544
theorem shw_170 (G : va_G) (a0 a1 a2 a3 : ClassId) (n0 : Nat) (em mi ic : Nat) : oc_VZ (VV G a0 a1 a2 a3 n0) (DD em mi ic) 97 2 19 := oc_vz (ce_97 G a0 a1 a2 a3 n0 em mi ic) (hh97 em mi ic) (mn97 em mi ic) tw_1562 tw_26 ⟨(RX14, TX14, 18), rfl, rfl⟩
theorem shw_171 (G : va_G) (a0 a1 a2 a3 : ClassId) (n0 : Nat) (em mi ic : Nat) : oc_ML (VV G a0 a1 a2 a3 n0) "TwelvehundredModel" 215 yX14_ofHouseholdNow := Or.inl tw_1560
theorem shw_172 (G : va_G) (a0 a1 a2 a3 : ClassId) (n0 : Nat) (em mi ic : Nat) : oc_VZ (VV G a0 a1 a2 a3 n0) (DD em mi ic) 99 2 19 := oc_vz (ce_99 G a0 a1 a2 a3 n0 em mi ic) (hh99 em mi ic) (mn99 em mi ic) tw_1598 tw_34 ⟨(RX14, TX14, 18), rfl, rfl⟩
theorem shw_173 (G : va_G) (a0 a1 a2 a3 : ClassId) (n0 : Nat) (em mi ic : Nat) : oc_ML (VV G a0 a1 a2 a3 n0) "TwelvehundredModel" 221 yX14_ofHallNow := Or.inl tw_1596
theorem shw_174 (G : va_G) (a0 a1 a2 a3 : ClassId) (n0 : Nat) (em mi ic : Nat) : oc_VZ (VV G a0 a1 a2 a3 n0) (DD em mi ic) 102 1 19 := oc_vz (ce_102 G a0 a1 a2 a3 n0 em mi ic) (hh102 em mi ic) (mn102 em mi ic) tw_1618 tw_37 ⟨(RX14, TX14, 18), rfl, rfl⟩
theorem shw_175 (G : va_G) (a0 a1 a2 a3 : ClassId) (n0 : Nat) (em mi ic : Nat) : oc_ML (VV G a0 a1 a2 a3 n0) "TwelvehundredModel" 231 yX14_countyNow := Or.inl tw_1616
theorem shw_176 (G : va_G) (a0 a1 a2 a3 : ClassId) (n0 : Nat) (em mi ic : Nat) : oc_IZ (VV G a0 a1 a2 a3 n0) (DD em mi ic) 103 0 := oc_iz (ce_103 G a0 a1 a2 a3 n0 em mi ic) (hh103 em mi ic) (mn103 em mi ic) (rt_103 em mi ic) rfl tw_289
theorem shw_177 (G : va_G) (a0 a1 a2 a3 : ClassId) (n0 : Nat) (em mi ic : Nat) : oc_ML (VV G a0 a1 a2 a3 n0) "Twelvehundred" 315 yJ4_init_da8c8 := Or.inl tw_288
theorem shw_178 (G : va_G) (a0 a1 a2 a3 : ClassId) (n0 : Nat) (em mi ic : Nat) : oc_NO (VV G a0 a1 a2 a3 n0) "Twelvehundred" 313 1 := ⟨(RJ4, TJ4, 4), rfl, tw_286, tw_287, tw_82⟩
theorem shw_179 (G : va_G) (a0 a1 a2 a3 : ClassId) (n0 : Nat) (em mi ic : Nat) : oc_VZ (VV G a0 a1 a2 a3 n0) (DD em mi ic) 105 1 1 := oc_vz (ce_105 G a0 a1 a2 a3 n0 em mi ic) (hh105 em mi ic) (mn105 em mi ic) tw_346 tw_347 ⟨(RJ4, TJ4, 4), rfl, rfl⟩
theorem shw_180 (G : va_G) (a0 a1 a2 a3 : ClassId) (n0 : Nat) (em mi ic : Nat) : oc_ML (VV G a0 a1 a2 a3 n0) "Twelvehundred" 320 yJ4_append_cf468 := Or.inl tw_345
theorem shw_181 (G : va_G) (a0 a1 a2 a3 : ClassId) (n0 : Nat) (em mi ic : Nat) : oc_VZ (VV G a0 a1 a2 a3 n0) (DD em mi ic) 104 1 16 := oc_vz (ce_104 G a0 a1 a2 a3 n0 em mi ic) (hh104 em mi ic) (mn104 em mi ic) tw_339 tw_0 ⟨(RX11, TX11, 10), rfl, rfl⟩
theorem shw_182 (G : va_G) (a0 a1 a2 a3 : ClassId) (n0 : Nat) (em mi ic : Nat) : oc_ML (VV G a0 a1 a2 a3 n0) "Twelvehundred" 316 yX11_signOf := Or.inl tw_337
theorem shw_183 (G : va_G) (a0 a1 a2 a3 : ClassId) (n0 : Nat) (em mi ic : Nat) : oc_CO (VV G a0 a1 a2 a3 n0) (DD em mi ic) "Twelvehundred" 133 8 := ⟨"Twelvehundred$Household", tw_336, castO 8 rfl, castA 8 rfl⟩
theorem shw_184 (G : va_G) (a0 a1 a2 a3 : ClassId) (n0 : Nat) (em mi ic : Nat) : oc_ML (VV G a0 a1 a2 a3 n0) "Twelvehundred" 119 yJx4a65c_get_915e3 := Or.inl tw_322
theorem shw_185 (G : va_G) (a0 a1 a2 a3 : ClassId) (n0 : Nat) (em mi ic : Nat) : oc_LF (VV G a0 a1 a2 a3 n0) "Twelvehundred" 31 16 3 := ⟨(RX11, TX11, 10), rfl, by decide, "Twelvehundred", Or.inl rfl, Or.inl tw_250⟩
theorem shw_186 (G : va_G) (a0 a1 a2 a3 : ClassId) (n0 : Nat) (em mi ic : Nat) : oc_ML (VV G a0 a1 a2 a3 n0) "Twelvehundred" 84 yJx4a65c_size_8abf5 := Or.inl tw_318
theorem shw_187 (G : va_G) (a0 a1 a2 a3 : ClassId) (n0 : Nat) (em mi ic : Nat) : oc_VZ (VV G a0 a1 a2 a3 n0) (DD em mi ic) 106 0 1 := oc_vz (ce_106 G a0 a1 a2 a3 n0 em mi ic) (hh106 em mi ic) (mn106 em mi ic) tw_439 tw_440 ⟨(RJ4, TJ4, 4), rfl, rfl⟩
theorem shw_188 (G : va_G) (a0 a1 a2 a3 : ClassId) (n0 : Nat) (em mi ic : Nat) : oc_ML (VV G a0 a1 a2 a3 n0) "Twelvehundred" 324 yJ4_toString_0e30d := Or.inl tw_438
theorem shw_189 (G : va_G) (a0 a1 a2 a3 : ClassId) (n0 : Nat) (em mi ic : Nat) : oc_VZ (VV G a0 a1 a2 a3 n0) (DD em mi ic) 107 0 19 := oc_vz (ce_107 G a0 a1 a2 a3 n0 em mi ic) (hh107 em mi ic) (mn107 em mi ic) tw_1634 tw_40 ⟨(RX14, TX14, 18), rfl, rfl⟩
theorem shw_190 (G : va_G) (a0 a1 a2 a3 : ClassId) (n0 : Nat) (em mi ic : Nat) : oc_ML (VV G a0 a1 a2 a3 n0) "TwelvehundredModel" 245 yX14_signsNow := Or.inl tw_1632
theorem shw_191 (G : va_G) (a0 a1 a2 a3 : ClassId) (n0 : Nat) (em mi ic : Nat) : oc_VZ (VV G a0 a1 a2 a3 n0) (DD em mi ic) 109 1 19 := oc_vz (ce_109 G a0 a1 a2 a3 n0 em mi ic) (hh109 em mi ic) (mn109 em mi ic) tw_1590 tw_33 ⟨(RX14, TX14, 18), rfl, rfl⟩
theorem shw_192 (G : va_G) (a0 a1 a2 a3 : ClassId) (n0 : Nat) (em mi ic : Nat) : oc_ML (VV G a0 a1 a2 a3 n0) "TwelvehundredModel" 180 yX14_canNow := Or.inl tw_1588
theorem shw_193 (G : va_G) (a0 a1 a2 a3 : ClassId) (n0 : Nat) (em mi ic : Nat) : oc_VZ (VV G a0 a1 a2 a3 n0) (DD em mi ic) 111 1 13 := oc_vz (ce_111 G a0 a1 a2 a3 n0 em mi ic) (hh111 em mi ic) (mn111 em mi ic) tw_674 tw_675 ⟨(RX8, TX8, 4), rfl, rfl⟩
theorem shw_194 (G : va_G) (a0 a1 a2 a3 : ClassId) (n0 : Nat) (em mi ic : Nat) : oc_ML (VV G a0 a1 a2 a3 n0) "Twelvehundred" 278 yX8_peopleOf := Or.inl tw_673
theorem shw_195 (G : va_G) (a0 a1 a2 a3 : ClassId) (n0 : Nat) (em mi ic : Nat) : oc_VZ (VV G a0 a1 a2 a3 n0) (DD em mi ic) 110 0 13 := oc_vz (ce_110 G a0 a1 a2 a3 n0 em mi ic) (hh110 em mi ic) (mn110 em mi ic) tw_645 tw_646 ⟨(RX8, TX8, 4), rfl, rfl⟩
theorem shw_196 (G : va_G) (a0 a1 a2 a3 : ClassId) (n0 : Nat) (em mi ic : Nat) : oc_ML (VV G a0 a1 a2 a3 n0) "Twelvehundred" 264 yX8_choice := Or.inl tw_644
theorem shw_197 (G : va_G) (a0 a1 a2 a3 : ClassId) (n0 : Nat) (em mi ic : Nat) : oc_LF (VV G a0 a1 a2 a3 n0) "Twelvehundred" 39 16 4 := ⟨(RX11, TX11, 10), rfl, by decide, "Twelvehundred", Or.inl rfl, Or.inl tw_251⟩
theorem shw_198 (G : va_G) (a0 a1 a2 a3 : ClassId) (n0 : Nat) (em mi ic : Nat) : oc_VZ (VV G a0 a1 a2 a3 n0) (DD em mi ic) 113 1 19 := oc_vz (ce_113 G a0 a1 a2 a3 n0 em mi ic) (hh113 em mi ic) (mn113 em mi ic) tw_1606 tw_36 ⟨(RX14, TX14, 18), rfl, rfl⟩
theorem shw_199 (G : va_G) (a0 a1 a2 a3 : ClassId) (n0 : Nat) (em mi ic : Nat) : oc_ML (VV G a0 a1 a2 a3 n0) "TwelvehundredModel" 218 yX14_peopleOf := Or.inl tw_1604
theorem shw_200 (G : va_G) (a0 a1 a2 a3 : ClassId) (n0 : Nat) (em mi ic : Nat) : oc_VZ (VV G a0 a1 a2 a3 n0) (DD em mi ic) 112 0 19 := oc_vz (ce_112 G a0 a1 a2 a3 n0 em mi ic) (hh112 em mi ic) (mn112 em mi ic) tw_1586 tw_32 ⟨(RX14, TX14, 18), rfl, rfl⟩
theorem shw_201 (G : va_G) (a0 a1 a2 a3 : ClassId) (n0 : Nat) (em mi ic : Nat) : oc_ML (VV G a0 a1 a2 a3 n0) "TwelvehundredModel" 212 yX14_chosenSet := Or.inl tw_1584
theorem shw_202 (G : va_G) (a0 a1 a2 a3 : ClassId) (n0 : Nat) (em mi ic : Nat) : oc_VZ (VV G a0 a1 a2 a3 n0) (DD em mi ic) 116 0 12 := oc_vz (ce_116 G a0 a1 a2 a3 n0 em mi ic) (hh116 em mi ic) (mn116 em mi ic) tw_711 tw_712 ⟨(RX7, TX7, 3), rfl, rfl⟩
theorem shw_203 (G : va_G) (a0 a1 a2 a3 : ClassId) (n0 : Nat) (em mi ic : Nat) : oc_ML (VV G a0 a1 a2 a3 n0) "Twelvehundred" 340 yX7_isContested := Or.inl tw_710
theorem shw_204 (G : va_G) (a0 a1 a2 a3 : ClassId) (n0 : Nat) (em mi ic : Nat) : oc_LF (VV G a0 a1 a2 a3 n0) "Twelvehundred" 56 16 7 := ⟨(RX11, TX11, 10), rfl, by decide, "Twelvehundred", Or.inl rfl, Or.inl tw_254⟩
theorem shw_205 (G : va_G) (a0 a1 a2 a3 : ClassId) (n0 : Nat) (em mi ic : Nat) : oc_VZ (VV G a0 a1 a2 a3 n0) (DD em mi ic) 115 0 12 := oc_vz (ce_115 G a0 a1 a2 a3 n0 em mi ic) (hh115 em mi ic) (mn115 em mi ic) tw_697 tw_698 ⟨(RX7, TX7, 3), rfl, rfl⟩
theorem shw_206 (G : va_G) (a0 a1 a2 a3 : ClassId) (n0 : Nat) (em mi ic : Nat) : oc_ML (VV G a0 a1 a2 a3 n0) "Twelvehundred" 336 yX7_isWithinRooms := Or.inl tw_696
theorem shw_207 (G : va_G) (a0 a1 a2 a3 : ClassId) (n0 : Nat) (em mi ic : Nat) : oc_VZ (VV G a0 a1 a2 a3 n0) (DD em mi ic) 114 1 12 := oc_vz (ce_114 G a0 a1 a2 a3 n0 em mi ic) (hh114 em mi ic) (mn114 em mi ic) tw_682 tw_683 ⟨(RX7, TX7, 3), rfl, rfl⟩
theorem shw_208 (G : va_G) (a0 a1 a2 a3 : ClassId) (n0 : Nat) (em mi ic : Nat) : oc_ML (VV G a0 a1 a2 a3 n0) "Twelvehundred" 333 yX7_read := Or.inl tw_681
theorem shw_209 (G : va_G) (a0 a1 a2 a3 : ClassId) (n0 : Nat) (em mi ic : Nat) : oc_SZ (VV G a0 a1 a2 a3 n0) (DD em mi ic) 118 2 := oc_sz (ce_118 G a0 a1 a2 a3 n0 em mi ic) (hh118 em mi ic) (mn118 em mi ic) tw_1519
theorem shw_210 (G : va_G) (a0 a1 a2 a3 : ClassId) (n0 : Nat) (em mi ic : Nat) : oc_ML (VV G a0 a1 a2 a3 n0) "TwelvehundredModel" 162 yX14_isIn := Or.inl tw_1518
theorem shw_211 (G : va_G) (a0 a1 a2 a3 : ClassId) (n0 : Nat) (em mi ic : Nat) : oc_VZ (VV G a0 a1 a2 a3 n0) (DD em mi ic) 117 0 19 := oc_vz (ce_117 G a0 a1 a2 a3 n0 em mi ic) (hh117 em mi ic) (mn117 em mi ic) tw_1570 tw_28 ⟨(RX14, TX14, 18), rfl, rfl⟩
theorem shw_212 (G : va_G) (a0 a1 a2 a3 : ClassId) (n0 : Nat) (em mi ic : Nat) : oc_ML (VV G a0 a1 a2 a3 n0) "TwelvehundredModel" 186 yX14_fetchedSet := Or.inl tw_1568
theorem shw_213 (G : va_G) (a0 a1 a2 a3 : ClassId) (n0 : Nat) (em mi ic : Nat) : oc_VZ (VV G a0 a1 a2 a3 n0) (DD em mi ic) 119 1 19 := oc_vz (ce_119 G a0 a1 a2 a3 n0 em mi ic) (hh119 em mi ic) (mn119 em mi ic) tw_1654 tw_41 ⟨(RX14, TX14, 18), rfl, rfl⟩
theorem shw_214 (G : va_G) (a0 a1 a2 a3 : ClassId) (n0 : Nat) (em mi ic : Nat) : oc_ML (VV G a0 a1 a2 a3 n0) "TwelvehundredModel" 248 yX14_isStableNow := Or.inl tw_1652
theorem shw_215 (G : va_G) (a0 a1 a2 a3 : ClassId) (n0 : Nat) (em mi ic : Nat) : oc_VZ (VV G a0 a1 a2 a3 n0) (DD em mi ic) 121 2 19 := oc_vz (ce_121 G a0 a1 a2 a3 n0 em mi ic) (hh121 em mi ic) (mn121 em mi ic) tw_1663 tw_42 ⟨(RX14, TX14, 18), rfl, rfl⟩
theorem shw_216 (G : va_G) (a0 a1 a2 a3 : ClassId) (n0 : Nat) (em mi ic : Nat) : oc_ML (VV G a0 a1 a2 a3 n0) "TwelvehundredModel" 252 yX14_wouldNow := Or.inl tw_1661
theorem shw_217 (G : va_G) (a0 a1 a2 a3 : ClassId) (n0 : Nat) (em mi ic : Nat) : oc_SZ (VV G a0 a1 a2 a3 n0) (DD em mi ic) 123 2 := oc_sz (ce_123 G a0 a1 a2 a3 n0 em mi ic) (hh123 em mi ic) (mn123 em mi ic) tw_1527
theorem shw_218 (G : va_G) (a0 a1 a2 a3 : ClassId) (n0 : Nat) (em mi ic : Nat) : oc_ML (VV G a0 a1 a2 a3 n0) "TwelvehundredModel" 168 yX14_areLike := Or.inl tw_1526
theorem shw_219 (G : va_G) (a0 a1 a2 a3 : ClassId) (n0 : Nat) (em mi ic : Nat) : oc_LF (VV G a0 a1 a2 a3 n0) "Twelvehundred" 43 16 5 := ⟨(RX11, TX11, 10), rfl, by decide, "Twelvehundred", Or.inl rfl, Or.inl tw_252⟩
theorem shw_220 (G : va_G) (a0 a1 a2 a3 : ClassId) (n0 : Nat) (em mi ic : Nat) : oc_LF (VV G a0 a1 a2 a3 n0) "Twelvehundred" 210 6 0 := ⟨(RX1, TX1, 2), rfl, by decide, "Twelvehundred$Bulletin", Or.inl rfl, Or.inr ⟨_, nw_239⟩⟩
theorem shw_221 (G : va_G) (a0 a1 a2 a3 : ClassId) (n0 : Nat) (em mi ic : Nat) : oc_VZ (VV G a0 a1 a2 a3 n0) (DD em mi ic) 128 0 6 := oc_vz (ce_128 G a0 a1 a2 a3 n0 em mi ic) (hh128 em mi ic) (mn128 em mi ic) tw_769 tw_770 ⟨(RX1, TX1, 2), rfl, rfl⟩
theorem shw_222 (G : va_G) (a0 a1 a2 a3 : ClassId) (n0 : Nat) (em mi ic : Nat) : oc_ML (VV G a0 a1 a2 a3 n0) "Twelvehundred" 225 yX1_persons := Or.inl tw_768
theorem shw_223 (G : va_G) (a0 a1 a2 a3 : ClassId) (n0 : Nat) (em mi ic : Nat) : oc_VZ (VV G a0 a1 a2 a3 n0) (DD em mi ic) 127 0 9 := oc_vz (ce_127 G a0 a1 a2 a3 n0 em mi ic) (hh127 em mi ic) (mn127 em mi ic) tw_762 tw_763 ⟨(RX4, TX4, 4), rfl, rfl⟩
theorem shw_224 (G : va_G) (a0 a1 a2 a3 : ClassId) (n0 : Nat) (em mi ic : Nat) : oc_ML (VV G a0 a1 a2 a3 n0) "Twelvehundred" 364 yX4_isBalanced := Or.inl tw_761
theorem shw_225 (G : va_G) (a0 a1 a2 a3 : ClassId) (n0 : Nat) (em mi ic : Nat) : oc_LF (VV G a0 a1 a2 a3 n0) "Twelvehundred" 62 16 8 := ⟨(RX11, TX11, 10), rfl, by decide, "Twelvehundred", Or.inl rfl, Or.inl tw_255⟩
theorem shw_226 (G : va_G) (a0 a1 a2 a3 : ClassId) (n0 : Nat) (em mi ic : Nat) : oc_VZ (VV G a0 a1 a2 a3 n0) (DD em mi ic) 126 1 13 := oc_vz (ce_126 G a0 a1 a2 a3 n0 em mi ic) (hh126 em mi ic) (mn126 em mi ic) tw_757 tw_758 ⟨(RX8, TX8, 4), rfl, rfl⟩
theorem shw_227 (G : va_G) (a0 a1 a2 a3 : ClassId) (n0 : Nat) (em mi ic : Nat) : oc_ML (VV G a0 a1 a2 a3 n0) "Twelvehundred" 361 yX8_canReachMoreThan := Or.inl tw_756
theorem shw_228 (G : va_G) (a0 a1 a2 a3 : ClassId) (n0 : Nat) (em mi ic : Nat) : oc_SZ (VV G a0 a1 a2 a3 n0) (DD em mi ic) 125 3 := oc_sz (ce_125 G a0 a1 a2 a3 n0 em mi ic) (hh125 em mi ic) (mn125 em mi ic) tw_748
theorem shw_229 (G : va_G) (a0 a1 a2 a3 : ClassId) (n0 : Nat) (em mi ic : Nat) : oc_ML (VV G a0 a1 a2 a3 n0) "Twelvehundred" 357 yX7_isBeaten := Or.inr ⟨_, nw_747⟩
theorem shw_230 (G : va_G) (a0 a1 a2 a3 : ClassId) (n0 : Nat) (em mi ic : Nat) : oc_VZ (VV G a0 a1 a2 a3 n0) (DD em mi ic) 124 0 12 := oc_vz (ce_124 G a0 a1 a2 a3 n0 em mi ic) (hh124 em mi ic) (mn124 em mi ic) tw_686 tw_687 ⟨(RX7, TX7, 3), rfl, rfl⟩
theorem shw_231 (G : va_G) (a0 a1 a2 a3 : ClassId) (n0 : Nat) (em mi ic : Nat) : oc_ML (VV G a0 a1 a2 a3 n0) "Twelvehundred" 354 yX7_clear := Or.inl tw_746
theorem shw_232 (G : va_G) (a0 a1 a2 a3 : ClassId) (n0 : Nat) (em mi ic : Nat) : oc_VZ (VV G a0 a1 a2 a3 n0) (DD em mi ic) 129 0 19 := oc_vz (ce_129 G a0 a1 a2 a3 n0 em mi ic) (hh129 em mi ic) (mn129 em mi ic) tw_1675 tw_43 ⟨(RX14, TX14, 18), rfl, rfl⟩
theorem shw_233 (G : va_G) (a0 a1 a2 a3 : ClassId) (n0 : Nat) (em mi ic : Nat) : oc_ML (VV G a0 a1 a2 a3 n0) "TwelvehundredModel" 259 yX14_isSoundNow := Or.inl tw_1673
theorem shw_234 (G : va_G) (a0 a1 a2 a3 : ClassId) (n0 : Nat) (em mi ic : Nat) : oc_VZ (VV G a0 a1 a2 a3 n0) (DD em mi ic) 130 1 16 := oc_vz (ce_130 G a0 a1 a2 a3 n0 em mi ic) (hh130 em mi ic) (mn130 em mi ic) tw_793 tw_794 ⟨(RX11, TX11, 10), rfl, rfl⟩
theorem shw_235 (G : va_G) (a0 a1 a2 a3 : ClassId) (n0 : Nat) (em mi ic : Nat) : oc_ML (VV G a0 a1 a2 a3 n0) "Twelvehundred" 371 yX11_county := Or.inl tw_792
theorem shw_236 (G : va_G) (a0 a1 a2 a3 : ClassId) (n0 : Nat) (em mi ic : Nat) : oc_LF (VV G a0 a1 a2 a3 n0) "Twelvehundred" 24 16 1 := ⟨(RX11, TX11, 10), rfl, by decide, "Twelvehundred", Or.inl rfl, Or.inl tw_248⟩
theorem shw_237 (G : va_G) (a0 a1 a2 a3 : ClassId) (n0 : Nat) (em mi ic : Nat) : oc_VZ (VV G a0 a1 a2 a3 n0) (DD em mi ic) 131 2 16 := oc_vz (ce_131 G a0 a1 a2 a3 n0 em mi ic) (hh131 em mi ic) (mn131 em mi ic) tw_808 tw_809 ⟨(RX11, TX11, 10), rfl, rfl⟩
theorem shw_238 (G : va_G) (a0 a1 a2 a3 : ClassId) (n0 : Nat) (em mi ic : Nat) : oc_ML (VV G a0 a1 a2 a3 n0) "Twelvehundred" 374 yX11_ofStreet := Or.inl tw_807
theorem shw_239 (G : va_G) (a0 a1 a2 a3 : ClassId) (n0 : Nat) (em mi ic : Nat) : oc_VZ (VV G a0 a1 a2 a3 n0) (DD em mi ic) 132 2 16 := oc_vz (ce_132 G a0 a1 a2 a3 n0 em mi ic) (hh132 em mi ic) (mn132 em mi ic) tw_837 tw_838 ⟨(RX11, TX11, 10), rfl, rfl⟩
theorem shw_240 (G : va_G) (a0 a1 a2 a3 : ClassId) (n0 : Nat) (em mi ic : Nat) : oc_ML (VV G a0 a1 a2 a3 n0) "Twelvehundred" 377 yX11_ofHousehold := Or.inl tw_836
theorem shw_241 (G : va_G) (a0 a1 a2 a3 : ClassId) (n0 : Nat) (em mi ic : Nat) : oc_LF (VV G a0 a1 a2 a3 n0) "Twelvehundred" 28 16 2 := ⟨(RX11, TX11, 10), rfl, by decide, "Twelvehundred", Or.inl rfl, Or.inl tw_249⟩
theorem shw_242 (G : va_G) (a0 a1 a2 a3 : ClassId) (n0 : Nat) (em mi ic : Nat) : oc_VZ (VV G a0 a1 a2 a3 n0) (DD em mi ic) 133 2 16 := oc_vz (ce_133 G a0 a1 a2 a3 n0 em mi ic) (hh133 em mi ic) (mn133 em mi ic) tw_844 tw_845 ⟨(RX11, TX11, 10), rfl, rfl⟩
theorem shw_243 (G : va_G) (a0 a1 a2 a3 : ClassId) (n0 : Nat) (em mi ic : Nat) : oc_ML (VV G a0 a1 a2 a3 n0) "Twelvehundred" 380 yX11_ofHall := Or.inl tw_843
theorem shw_244 (G : va_G) (a0 a1 a2 a3 : ClassId) (n0 : Nat) (em mi ic : Nat) : oc_LF (VV G a0 a1 a2 a3 n0) "Twelvehundred" 188 9 0 := ⟨(RX4, TX4, 4), rfl, by decide, "Twelvehundred$Larder", Or.inl rfl, Or.inr ⟨_, nw_214⟩⟩
theorem shw_245 (G : va_G) (a0 a1 a2 a3 : ClassId) (n0 : Nat) (em mi ic : Nat) : oc_VZ (VV G a0 a1 a2 a3 n0) (DD em mi ic) 134 2 16 := oc_vz (ce_134 G a0 a1 a2 a3 n0 em mi ic) (hh134 em mi ic) (mn134 em mi ic) tw_852 tw_853 ⟨(RX11, TX11, 10), rfl, rfl⟩
theorem shw_246 (G : va_G) (a0 a1 a2 a3 : ClassId) (n0 : Nat) (em mi ic : Nat) : oc_ML (VV G a0 a1 a2 a3 n0) "Twelvehundred" 383 yX11_ofLot := Or.inl tw_851
theorem shw_247 (G : va_G) (a0 a1 a2 a3 : ClassId) (n0 : Nat) (em mi ic : Nat) : oc_SZ (VV G a0 a1 a2 a3 n0) (DD em mi ic) 137 1 := oc_sz (ce_137 G a0 a1 a2 a3 n0 em mi ic) (hh137 em mi ic) (mn137 em mi ic) tw_671
theorem shw_248 (G : va_G) (a0 a1 a2 a3 : ClassId) (n0 : Nat) (em mi ic : Nat) : oc_ML (VV G a0 a1 a2 a3 n0) "Twelvehundred" 237 yX11_oneIf := Or.inl tw_829
theorem shw_249 (G : va_G) (a0 a1 a2 a3 : ClassId) (n0 : Nat) (em mi ic : Nat) : oc_ML (VV G a0 a1 a2 a3 n0) "Twelvehundred" 400 yX11_isSound := Or.inl tw_870
theorem shw_250 (G : va_G) (a0 a1 a2 a3 : ClassId) (n0 : Nat) (em mi ic : Nat) : oc_VZ (VV G a0 a1 a2 a3 n0) (DD em mi ic) 136 0 0 := oc_vz (ce_136 G a0 a1 a2 a3 n0 em mi ic) (hh136 em mi ic) (mn136 em mi ic) tw_567 tw_568 ⟨(RJ0, TJ0, 4), rfl, rfl⟩
theorem shw_251 (G : va_G) (a0 a1 a2 a3 : ClassId) (n0 : Nat) (em mi ic : Nat) : oc_ML (VV G a0 a1 a2 a3 n0) "Twelvehundred" 395 yJ0_length_8abf5 := Or.inl tw_869
theorem shw_252 (G : va_G) (a0 a1 a2 a3 : ClassId) (n0 : Nat) (em mi ic : Nat) : oc_ML (VV G a0 a1 a2 a3 n0) "Twelvehundred" 392 yX11_signs := Or.inl tw_868
theorem shw_253 (G : va_G) (a0 a1 a2 a3 : ClassId) (n0 : Nat) (em mi ic : Nat) : oc_VZ (VV G a0 a1 a2 a3 n0) (DD em mi ic) 135 2 16 := oc_vz (ce_135 G a0 a1 a2 a3 n0 em mi ic) (hh135 em mi ic) (mn135 em mi ic) tw_860 tw_861 ⟨(RX11, TX11, 10), rfl, rfl⟩
theorem shw_254 (G : va_G) (a0 a1 a2 a3 : ClassId) (n0 : Nat) (em mi ic : Nat) : oc_ML (VV G a0 a1 a2 a3 n0) "Twelvehundred" 389 yX11_would := Or.inl tw_859
theorem shw_255 (G : va_G) (a0 a1 a2 a3 : ClassId) (n0 : Nat) (em mi ic : Nat) : oc_ML (VV G a0 a1 a2 a3 n0) "Twelvehundred" 386 yX11_chosen := Or.inl tw_858
theorem shw_256 (G : va_G) (a0 a1 a2 a3 : ClassId) (n0 : Nat) (em mi ic : Nat) : oc_LP (VV G a0 a1 a2 a3 n0) "TwelvehundredModel" 262 19 17 := ⟨(RX14, TX14, 18), rfl, by decide, "TwelvehundredModel", Or.inl rfl, rfl, Or.inl tw_1299⟩
theorem shw_257 (G : va_G) (a0 a1 a2 a3 : ClassId) (n0 : Nat) (em mi ic : Nat) : oc_VZ (VV G a0 a1 a2 a3 n0) (DD em mi ic) 138 1 19 := oc_vz (ce_138 G a0 a1 a2 a3 n0 em mi ic) (hh138 em mi ic) (mn138 em mi ic) tw_1688 tw_45 ⟨(RX14, TX14, 18), rfl, rfl⟩
theorem shw_258 (G : va_G) (a0 a1 a2 a3 : ClassId) (n0 : Nat) (em mi ic : Nat) : oc_ML (VV G a0 a1 a2 a3 n0) "TwelvehundredModel" 270 yX14_add := Or.inl tw_1686
theorem shw_259 (G : va_G) (a0 a1 a2 a3 : ClassId) (n0 : Nat) (em mi ic : Nat) : oc_ML (VV G a0 a1 a2 a3 n0) "TwelvehundredModel" 273 yJ0_length_8abf5 := Or.inl tw_1691
theorem shw_260 (G : va_G) (a0 a1 a2 a3 : ClassId) (n0 : Nat) (em mi ic : Nat) : oc_LF (VV G a0 a1 a2 a3 n0) "TwelvehundredModel" 262 19 17 := ⟨(RX14, TX14, 18), rfl, by decide, "TwelvehundredModel", Or.inl rfl, Or.inl tw_1299⟩
theorem shw_261 (G : va_G) (a0 a1 a2 a3 : ClassId) (n0 : Nat) (em mi ic : Nat) : oc_LP (VV G a0 a1 a2 a3 n0) "Twelvehundred$River" 18 14 2 := ⟨(RX9, TX9, 3), rfl, by decide, "Twelvehundred$River", Or.inl rfl, rfl, Or.inl tw_104⟩
theorem shw_262 (G : va_G) (a0 a1 a2 a3 : ClassId) (n0 : Nat) (em mi ic : Nat) : oc_LP (VV G a0 a1 a2 a3 n0) "Twelvehundred$River" 15 14 1 := ⟨(RX9, TX9, 3), rfl, by decide, "Twelvehundred$River", Or.inl rfl, rfl, Or.inl tw_102⟩
theorem shw_263 (G : va_G) (a0 a1 a2 a3 : ClassId) (n0 : Nat) (em mi ic : Nat) : oc_LP (VV G a0 a1 a2 a3 n0) "Twelvehundred$River" 9 14 0 := ⟨(RX9, TX9, 3), rfl, by decide, "Twelvehundred$River", Or.inl rfl, rfl, Or.inl tw_100⟩
theorem shw_264 (G : va_G) (a0 a1 a2 a3 : ClassId) (n0 : Nat) (em mi ic : Nat) : oc_LP (VV G a0 a1 a2 a3 n0) "java/util/ArrayList" 9 4 1 := ⟨(RJx4a65c, TJx4a65c, 3), rfl, by decide, "java/util/ArrayList", Or.inl rfl, rfl, Or.inl tw_127⟩
theorem shw_265 (G : va_G) (a0 a1 a2 a3 : ClassId) (n0 : Nat) (em mi ic : Nat) : oc_IZ (VV G a0 a1 a2 a3 n0) (DD em mi ic) 139 0 := oc_iz (ce_139 G a0 a1 a2 a3 n0 em mi ic) (hh139 em mi ic) (mn139 em mi ic) (rt_139 em mi ic) rfl tw_119
theorem shw_266 (G : va_G) (a0 a1 a2 a3 : ClassId) (n0 : Nat) (em mi ic : Nat) : oc_ML (VV G a0 a1 a2 a3 n0) "java/util/ArrayList" 1 yJxc12de_init_da8c8 := Or.inl tw_118
theorem shw_267 (G : va_G) (a0 a1 a2 a3 : ClassId) (n0 : Nat) (em mi ic : Nat) : oc_LP (VV G a0 a1 a2 a3 n0) "Twelvehundred$Rescue" 15 13 3 := ⟨(RX8, TX8, 4), rfl, by decide, "Twelvehundred$Rescue", Or.inl rfl, rfl, Or.inl tw_170⟩
theorem shw_268 (G : va_G) (a0 a1 a2 a3 : ClassId) (n0 : Nat) (em mi ic : Nat) : oc_LP (VV G a0 a1 a2 a3 n0) "Twelvehundred$Rescue" 9 13 2 := ⟨(RX8, TX8, 4), rfl, by decide, "Twelvehundred$Rescue", Or.inl rfl, rfl, Or.inl tw_168⟩
theorem shw_269 (G : va_G) (a0 a1 a2 a3 : ClassId) (n0 : Nat) (em mi ic : Nat) : oc_LP (VV G a0 a1 a2 a3 n0) "Twelvehundred$Asking" 15 5 4 := ⟨(RX0, TX0, 5), rfl, by decide, "Twelvehundred$Asking", Or.inl rfl, rfl, Or.inl tw_191⟩
theorem shw_270 (G : va_G) (a0 a1 a2 a3 : ClassId) (n0 : Nat) (em mi ic : Nat) : oc_LP (VV G a0 a1 a2 a3 n0) "Twelvehundred$Larder" 23 9 3 := ⟨(RX4, TX4, 4), rfl, by decide, "Twelvehundred$Larder", Or.inl rfl, rfl, Or.inl tw_219⟩
theorem shw_271 (G : va_G) (a0 a1 a2 a3 : ClassId) (n0 : Nat) (em mi ic : Nat) : oc_LP (VV G a0 a1 a2 a3 n0) "Twelvehundred$Larder" 20 9 2 := ⟨(RX4, TX4, 4), rfl, by decide, "Twelvehundred$Larder", Or.inl rfl, rfl, Or.inl tw_217⟩
theorem shw_272 (G : va_G) (a0 a1 a2 a3 : ClassId) (n0 : Nat) (em mi ic : Nat) : oc_LP (VV G a0 a1 a2 a3 n0) "Twelvehundred$Larder" 16 9 1 := ⟨(RX4, TX4, 4), rfl, by decide, "Twelvehundred$Larder", Or.inl rfl, rfl, Or.inl tw_215⟩
theorem shw_273 (G : va_G) (a0 a1 a2 a3 : ClassId) (n0 : Nat) (em mi ic : Nat) : oc_ML (VV G a0 a1 a2 a3 n0) "Twelvehundred$Larder" 9 yJx4a65c_init_da8c8 := Or.inl tw_212
theorem shw_274 (G : va_G) (a0 a1 a2 a3 : ClassId) (n0 : Nat) (em mi ic : Nat) : oc_NO (VV G a0 a1 a2 a3 n0) "Twelvehundred$Larder" 7 4 := ⟨(RJx4a65c, TJx4a65c, 3), rfl, tw_211, tw_114, tw_51⟩
theorem shw_275 (G : va_G) (a0 a1 a2 a3 : ClassId) (n0 : Nat) (em mi ic : Nat) : oc_LP (VV G a0 a1 a2 a3 n0) "Twelvehundred$Bulletin" 18 6 1 := ⟨(RX1, TX1, 2), rfl, by decide, "Twelvehundred$Bulletin", Or.inl rfl, rfl, Or.inl tw_240⟩
theorem shw_276 (G : va_G) (a0 a1 a2 a3 : ClassId) (n0 : Nat) (em mi ic : Nat) : oc_ML (VV G a0 a1 a2 a3 n0) "Twelvehundred$Bulletin" 11 yJx4a65c_init_da8c8 := Or.inl tw_237
theorem shw_277 (G : va_G) (a0 a1 a2 a3 : ClassId) (n0 : Nat) (em mi ic : Nat) : oc_NO (VV G a0 a1 a2 a3 n0) "Twelvehundred$Bulletin" 9 4 := ⟨(RJx4a65c, TJx4a65c, 3), rfl, tw_236, tw_114, tw_51⟩
theorem shw_278 (G : va_G) (a0 a1 a2 a3 : ClassId) (n0 : Nat) (em mi ic : Nat) : oc_SZ (VV G a0 a1 a2 a3 n0) (DD em mi ic) 140 3 := oc_sz (ce_140 G a0 a1 a2 a3 n0 em mi ic) (hh140 em mi ic) (mn140 em mi ic) tw_864
theorem shw_279 (G : va_G) (a0 a1 a2 a3 : ClassId) (n0 : Nat) (em mi ic : Nat) : oc_ML (VV G a0 a1 a2 a3 n0) "Twelvehundred" 73 yX11_isWithin := Or.inl tw_863
theorem shw_280 (G : va_G) (a0 a1 a2 a3 : ClassId) (n0 : Nat) (em mi ic : Nat) : oc_ML (VV G a0 a1 a2 a3 n0) "Twelvehundred" 98 yJx4a65c_add_9ea2d := Or.inl tw_927
theorem shw_281 (G : va_G) (a0 a1 a2 a3 : ClassId) (n0 : Nat) (em mi ic : Nat) : oc_IZ (VV G a0 a1 a2 a3 n0) (DD em mi ic) 141 3 := oc_iz (ce_141 G a0 a1 a2 a3 n0 em mi ic) (hh141 em mi ic) (mn141 em mi ic) (rt_141 em mi ic) rfl tw_909
theorem shw_282 (G : va_G) (a0 a1 a2 a3 : ClassId) (n0 : Nat) (em mi ic : Nat) : oc_ML (VV G a0 a1 a2 a3 n0) "Twelvehundred" 95 yX10_init := Or.inl tw_908
theorem shw_283 (G : va_G) (a0 a1 a2 a3 : ClassId) (n0 : Nat) (em mi ic : Nat) : oc_NO (VV G a0 a1 a2 a3 n0) "Twelvehundred" 93 15 := ⟨(RX10, TX10, 3), rfl, tw_827, tw_907, tw_64⟩
theorem shw_284 (G : va_G) (a0 a1 a2 a3 : ClassId) (n0 : Nat) (em mi ic : Nat) : oc_LF (VV G a0 a1 a2 a3 n0) "java/util/ArrayList" 48 4 2 := ⟨(RJx4a65c, TJx4a65c, 3), rfl, by decide, "java/util/ArrayList", Or.inl rfl, Or.inl tw_130⟩
theorem shw_285 (G : va_G) (a0 a1 a2 a3 : ClassId) (n0 : Nat) (em mi ic : Nat) : oc_VZ (VV G a0 a1 a2 a3 n0) (DD em mi ic) 142 3 4 := oc_vz (ce_142 G a0 a1 a2 a3 n0 em mi ic) (hh142 em mi ic) (mn142 em mi ic) tw_933 tw_8 ⟨(RJx4a65c, TJx4a65c, 3), rfl, rfl⟩
theorem shw_286 (G : va_G) (a0 a1 a2 a3 : ClassId) (n0 : Nat) (em mi ic : Nat) : oc_ML (VV G a0 a1 a2 a3 n0) "java/util/ArrayList" 131 yJx4a65c_add_72be8 := Or.inl tw_931
theorem shw_287 (G : va_G) (a0 a1 a2 a3 : ClassId) (n0 : Nat) (em mi ic : Nat) : oc_LF (VV G a0 a1 a2 a3 n0) "java/util/ArrayList" 9 4 1 := ⟨(RJx4a65c, TJx4a65c, 3), rfl, by decide, "java/util/ArrayList", Or.inl rfl, Or.inl tw_127⟩
theorem shw_288 (G : va_G) (a0 a1 a2 a3 : ClassId) (n0 : Nat) (em mi ic : Nat) : oc_LP (VV G a0 a1 a2 a3 n0) "java/util/ArrayList" 63 4 0 := ⟨(RJx4a65c, TJx4a65c, 3), rfl, by decide, "java/util/ArrayList", Or.inr tw_133, rfl, Or.inl tw_134⟩
theorem shw_289 (G : va_G) (a0 a1 a2 a3 : ClassId) (n0 : Nat) (em mi ic : Nat) : oc_LF (VV G a0 a1 a2 a3 n0) "java/util/ArrayList" 63 4 0 := ⟨(RJx4a65c, TJx4a65c, 3), rfl, by decide, "java/util/ArrayList", Or.inr tw_133, Or.inl tw_134⟩
theorem shw_290 (G : va_G) (a0 a1 a2 a3 : ClassId) (n0 : Nat) (em mi ic : Nat) : oc_VZ (VV G a0 a1 a2 a3 n0) (DD em mi ic) 144 0 5 := oc_vz (ce_144 G a0 a1 a2 a3 n0 em mi ic) (hh144 em mi ic) (mn144 em mi ic) tw_1014 tw_1015 ⟨(RX0, TX0, 5), rfl, rfl⟩
theorem shw_291 (G : va_G) (a0 a1 a2 a3 : ClassId) (n0 : Nat) (em mi ic : Nat) : oc_ML (VV G a0 a1 a2 a3 n0) "Twelvehundred" 109 yX0_settle := Or.inl tw_1013
theorem shw_292 (G : va_G) (a0 a1 a2 a3 : ClassId) (n0 : Nat) (em mi ic : Nat) : oc_LF (VV G a0 a1 a2 a3 n0) "Twelvehundred" 52 16 6 := ⟨(RX11, TX11, 10), rfl, by decide, "Twelvehundred", Or.inl rfl, Or.inl tw_253⟩
theorem shw_293 (G : va_G) (a0 a1 a2 a3 : ClassId) (n0 : Nat) (em mi ic : Nat) : oc_IZ (VV G a0 a1 a2 a3 n0) (DD em mi ic) 143 3 := oc_iz (ce_143 G a0 a1 a2 a3 n0 em mi ic) (hh143 em mi ic) (mn143 em mi ic) (rt_143 em mi ic) rfl tw_993
theorem shw_294 (G : va_G) (a0 a1 a2 a3 : ClassId) (n0 : Nat) (em mi ic : Nat) : oc_ML (VV G a0 a1 a2 a3 n0) "Twelvehundred" 108 yX2_init := Or.inl tw_992
theorem shw_295 (G : va_G) (a0 a1 a2 a3 : ClassId) (n0 : Nat) (em mi ic : Nat) : oc_NO (VV G a0 a1 a2 a3 n0) "Twelvehundred" 106 7 := ⟨(RX2, TX2, 3), rfl, tw_848, tw_991, tw_69⟩
theorem shw_296 (G : va_G) (a0 a1 a2 a3 : ClassId) (n0 : Nat) (em mi ic : Nat) : oc_LP (VV G a0 a1 a2 a3 n0) "Twelvehundred" 123 7 2 := ⟨(RX2, TX2, 3), rfl, by decide, "Twelvehundred$Hall", Or.inl rfl, rfl, Or.inr ⟨_, nw_1004⟩⟩
theorem shw_297 (G : va_G) (a0 a1 a2 a3 : ClassId) (n0 : Nat) (em mi ic : Nat) : oc_LF (VV G a0 a1 a2 a3 n0) "Twelvehundred" 123 7 2 := ⟨(RX2, TX2, 3), rfl, by decide, "Twelvehundred$Hall", Or.inl rfl, Or.inr ⟨_, nw_1004⟩⟩
theorem shw_298 (G : va_G) (a0 a1 a2 a3 : ClassId) (n0 : Nat) (em mi ic : Nat) : oc_CO (VV G a0 a1 a2 a3 n0) (DD em mi ic) "Twelvehundred" 106 7 := ⟨"Twelvehundred$Hall", tw_848, castO 7 rfl, castA 7 rfl⟩
theorem shw_299 (G : va_G) (a0 a1 a2 a3 : ClassId) (n0 : Nat) (em mi ic : Nat) : oc_VZ (VV G a0 a1 a2 a3 n0) (DD em mi ic) 146 1 4 := oc_vz (ce_146 G a0 a1 a2 a3 n0 em mi ic) (hh146 em mi ic) (mn146 em mi ic) tw_333 tw_334 ⟨(RJx4a65c, TJx4a65c, 3), rfl, rfl⟩
theorem shw_300 (G : va_G) (a0 a1 a2 a3 : ClassId) (n0 : Nat) (em mi ic : Nat) : oc_ML (VV G a0 a1 a2 a3 n0) "java/util/ArrayList" 123 yJx4a65c_elementData_915e3 := Or.inl tw_332
theorem shw_301 (G : va_G) (a0 a1 a2 a3 : ClassId) (n0 : Nat) (em mi ic : Nat) : oc_SZ (VV G a0 a1 a2 a3 n0) (DD em mi ic) 145 2 := oc_sz (ce_145 G a0 a1 a2 a3 n0 em mi ic) (hh145 em mi ic) (mn145 em mi ic) tw_327
theorem shw_302 (G : va_G) (a0 a1 a2 a3 : ClassId) (n0 : Nat) (em mi ic : Nat) : oc_ML (VV G a0 a1 a2 a3 n0) "java/util/ArrayList" 118 yJ15_checkIndex_7cf53 := Or.inl tw_326
theorem shw_303 (G : va_G) (a0 a1 a2 a3 : ClassId) (n0 : Nat) (em mi ic : Nat) : oc_LP (VV G a0 a1 a2 a3 n0) "Twelvehundred" 146 8 4 := ⟨(RX3, TX3, 5), rfl, by decide, "Twelvehundred$Household", Or.inl rfl, rfl, Or.inr ⟨_, nw_1086⟩⟩
theorem shw_304 (G : va_G) (a0 a1 a2 a3 : ClassId) (n0 : Nat) (em mi ic : Nat) : oc_VZ (VV G a0 a1 a2 a3 n0) (DD em mi ic) 148 1 14 := oc_vz (ce_148 G a0 a1 a2 a3 n0 em mi ic) (hh148 em mi ic) (mn148 em mi ic) tw_667 tw_668 ⟨(RX9, TX9, 3), rfl, rfl⟩
theorem shw_305 (G : va_G) (a0 a1 a2 a3 : ClassId) (n0 : Nat) (em mi ic : Nat) : oc_ML (VV G a0 a1 a2 a3 n0) "Twelvehundred" 142 yX9_floods := Or.inl tw_828
theorem shw_306 (G : va_G) (a0 a1 a2 a3 : ClassId) (n0 : Nat) (em mi ic : Nat) : oc_LF (VV G a0 a1 a2 a3 n0) "Twelvehundred" 138 8 1 := ⟨(RX3, TX3, 5), rfl, by decide, "Twelvehundred$Household", Or.inl rfl, Or.inr ⟨_, nw_1076⟩⟩
theorem shw_307 (G : va_G) (a0 a1 a2 a3 : ClassId) (n0 : Nat) (em mi ic : Nat) : oc_LF (VV G a0 a1 a2 a3 n0) "Twelvehundred" 18 16 0 := ⟨(RX11, TX11, 10), rfl, by decide, "Twelvehundred", Or.inl rfl, Or.inl tw_247⟩
theorem shw_308 (G : va_G) (a0 a1 a2 a3 : ClassId) (n0 : Nat) (em mi ic : Nat) : oc_IZ (VV G a0 a1 a2 a3 n0) (DD em mi ic) 147 4 := oc_iz (ce_147 G a0 a1 a2 a3 n0 em mi ic) (hh147 em mi ic) (mn147 em mi ic) (rt_147 em mi ic) rfl tw_1068
theorem shw_309 (G : va_G) (a0 a1 a2 a3 : ClassId) (n0 : Nat) (em mi ic : Nat) : oc_ML (VV G a0 a1 a2 a3 n0) "Twelvehundred" 135 yX3_init := Or.inl tw_1067
theorem shw_310 (G : va_G) (a0 a1 a2 a3 : ClassId) (n0 : Nat) (em mi ic : Nat) : oc_CO (VV G a0 a1 a2 a3 n0) (DD em mi ic) "Twelvehundred" 93 15 := ⟨"Twelvehundred$Street", tw_827, castO 15 rfl, castA 15 rfl⟩
theorem shw_311 (G : va_G) (a0 a1 a2 a3 : ClassId) (n0 : Nat) (em mi ic : Nat) : oc_NO (VV G a0 a1 a2 a3 n0) "Twelvehundred" 133 8 := ⟨(RX3, TX3, 5), rfl, tw_336, tw_1066, tw_75⟩
theorem shw_312 (G : va_G) (a0 a1 a2 a3 : ClassId) (n0 : Nat) (em mi ic : Nat) : oc_LP (VV G a0 a1 a2 a3 n0) "Twelvehundred" 154 14 1 := ⟨(RX9, TX9, 3), rfl, by decide, "Twelvehundred$River", Or.inl rfl, rfl, Or.inr ⟨_, nw_103⟩⟩
theorem shw_313 (G : va_G) (a0 a1 a2 a3 : ClassId) (n0 : Nat) (em mi ic : Nat) : oc_LP (VV G a0 a1 a2 a3 n0) "Twelvehundred" 151 14 0 := ⟨(RX9, TX9, 3), rfl, by decide, "Twelvehundred$River", Or.inl rfl, rfl, Or.inr ⟨_, nw_101⟩⟩
theorem shw_314 (G : va_G) (a0 a1 a2 a3 : ClassId) (n0 : Nat) (em mi ic : Nat) : oc_LF (VV G a0 a1 a2 a3 n0) "Twelvehundred" 151 14 0 := ⟨(RX9, TX9, 3), rfl, by decide, "Twelvehundred$River", Or.inl rfl, Or.inr ⟨_, nw_101⟩⟩
theorem shw_315 (G : va_G) (a0 a1 a2 a3 : ClassId) (n0 : Nat) (em mi ic : Nat) : oc_LP (VV G a0 a1 a2 a3 n0) "Twelvehundred" 159 13 2 := ⟨(RX8, TX8, 4), rfl, by decide, "Twelvehundred$Rescue", Or.inl rfl, rfl, Or.inr ⟨_, nw_169⟩⟩
theorem shw_316 (G : va_G) (a0 a1 a2 a3 : ClassId) (n0 : Nat) (em mi ic : Nat) : oc_LF (VV G a0 a1 a2 a3 n0) "Twelvehundred" 159 13 2 := ⟨(RX8, TX8, 4), rfl, by decide, "Twelvehundred$Rescue", Or.inl rfl, Or.inr ⟨_, nw_169⟩⟩
theorem shw_317 (G : va_G) (a0 a1 a2 a3 : ClassId) (n0 : Nat) (em mi ic : Nat) : oc_LF (VV G a0 a1 a2 a3 n0) "Twelvehundred" 164 13 3 := ⟨(RX8, TX8, 4), rfl, by decide, "Twelvehundred$Rescue", Or.inl rfl, Or.inr ⟨_, nw_171⟩⟩
theorem shw_318 (G : va_G) (a0 a1 a2 a3 : ClassId) (n0 : Nat) (em mi ic : Nat) : oc_LF (VV G a0 a1 a2 a3 n0) "Twelvehundred" 146 8 4 := ⟨(RX3, TX3, 5), rfl, by decide, "Twelvehundred$Household", Or.inl rfl, Or.inr ⟨_, nw_1086⟩⟩
theorem shw_319 (G : va_G) (a0 a1 a2 a3 : ClassId) (n0 : Nat) (em mi ic : Nat) : oc_LP (VV G a0 a1 a2 a3 n0) "Twelvehundred" 164 13 3 := ⟨(RX8, TX8, 4), rfl, by decide, "Twelvehundred$Rescue", Or.inl rfl, rfl, Or.inr ⟨_, nw_171⟩⟩
theorem shw_320 (G : va_G) (a0 a1 a2 a3 : ClassId) (n0 : Nat) (em mi ic : Nat) : oc_LF (VV G a0 a1 a2 a3 n0) "Twelvehundred" 171 14 2 := ⟨(RX9, TX9, 3), rfl, by decide, "Twelvehundred$River", Or.inl rfl, Or.inr ⟨_, nw_105⟩⟩
theorem shw_321 (G : va_G) (a0 a1 a2 a3 : ClassId) (n0 : Nat) (em mi ic : Nat) : oc_VZ (VV G a0 a1 a2 a3 n0) (DD em mi ic) 151 1 9 := oc_vz (ce_151 G a0 a1 a2 a3 n0 em mi ic) (hh151 em mi ic) (mn151 em mi ic) tw_1143 tw_1144 ⟨(RX4, TX4, 4), rfl, rfl⟩
theorem shw_322 (G : va_G) (a0 a1 a2 a3 : ClassId) (n0 : Nat) (em mi ic : Nat) : oc_ML (VV G a0 a1 a2 a3 n0) "Twelvehundred" 182 yX4_spoilBefore := Or.inl tw_1142
theorem shw_323 (G : va_G) (a0 a1 a2 a3 : ClassId) (n0 : Nat) (em mi ic : Nat) : oc_VZ (VV G a0 a1 a2 a3 n0) (DD em mi ic) 150 0 13 := oc_vz (ce_150 G a0 a1 a2 a3 n0 em mi ic) (hh150 em mi ic) (mn150 em mi ic) tw_1138 tw_1139 ⟨(RX8, TX8, 4), rfl, rfl⟩
theorem shw_324 (G : va_G) (a0 a1 a2 a3 : ClassId) (n0 : Nat) (em mi ic : Nat) : oc_ML (VV G a0 a1 a2 a3 n0) "Twelvehundred" 179 yX8_cutOffFlooded := Or.inl tw_1137
theorem shw_325 (G : va_G) (a0 a1 a2 a3 : ClassId) (n0 : Nat) (em mi ic : Nat) : oc_VZ (VV G a0 a1 a2 a3 n0) (DD em mi ic) 149 0 14 := oc_vz (ce_149 G a0 a1 a2 a3 n0 em mi ic) (hh149 em mi ic) (mn149 em mi ic) tw_1132 tw_1133 ⟨(RX9, TX9, 3), rfl, rfl⟩
theorem shw_326 (G : va_G) (a0 a1 a2 a3 : ClassId) (n0 : Nat) (em mi ic : Nat) : oc_ML (VV G a0 a1 a2 a3 n0) "Twelvehundred" 176 yX9_flow := Or.inl tw_1131
theorem shw_327 (G : va_G) (a0 a1 a2 a3 : ClassId) (n0 : Nat) (em mi ic : Nat) : oc_LP (VV G a0 a1 a2 a3 n0) "TwelvehundredModel" 104 19 3 := ⟨(RX14, TX14, 18), rfl, by decide, "TwelvehundredModel", Or.inl rfl, rfl, Or.inl tw_1285⟩
theorem shw_328 (G : va_G) (a0 a1 a2 a3 : ClassId) (n0 : Nat) (em mi ic : Nat) : oc_SZ (VV G a0 a1 a2 a3 n0) (DD em mi ic) 152 2 := oc_sz (ce_152 G a0 a1 a2 a3 n0 em mi ic) (hh152 em mi ic) (mn152 em mi ic) tw_364
theorem shw_329 (G : va_G) (a0 a1 a2 a3 : ClassId) (n0 : Nat) (em mi ic : Nat) : oc_ML (VV G a0 a1 a2 a3 n0) "TwelvehundredModel" 101 yJ9_max_7cf53 := Or.inl tw_1424
theorem shw_330 (G : va_G) (a0 a1 a2 a3 : ClassId) (n0 : Nat) (em mi ic : Nat) : oc_LF (VV G a0 a1 a2 a3 n0) "TwelvehundredModel" 86 19 2 := ⟨(RX14, TX14, 18), rfl, by decide, "TwelvehundredModel", Or.inl rfl, Or.inl tw_1284⟩
theorem shw_331 (G : va_G) (a0 a1 a2 a3 : ClassId) (n0 : Nat) (em mi ic : Nat) : oc_LF (VV G a0 a1 a2 a3 n0) "TwelvehundredModel" 70 18 0 := ⟨(RX13, TX13, 4), rfl, by decide, "TwelvehundredModel$Household", Or.inl rfl, Or.inr ⟨_, nw_1382⟩⟩
theorem shw_332 (G : va_G) (a0 a1 a2 a3 : ClassId) (n0 : Nat) (em mi ic : Nat) : oc_LP (VV G a0 a1 a2 a3 n0) "TwelvehundredModel" 121 19 7 := ⟨(RX14, TX14, 18), rfl, by decide, "TwelvehundredModel", Or.inl rfl, rfl, Or.inl tw_1289⟩
theorem shw_333 (G : va_G) (a0 a1 a2 a3 : ClassId) (n0 : Nat) (em mi ic : Nat) : oc_LF (VV G a0 a1 a2 a3 n0) "TwelvehundredModel" 121 19 7 := ⟨(RX14, TX14, 18), rfl, by decide, "TwelvehundredModel", Or.inl rfl, Or.inl tw_1289⟩
theorem shw_334 (G : va_G) (a0 a1 a2 a3 : ClassId) (n0 : Nat) (em mi ic : Nat) : oc_IZ (VV G a0 a1 a2 a3 n0) (DD em mi ic) 153 2 := oc_iz (ce_153 G a0 a1 a2 a3 n0 em mi ic) (hh153 em mi ic) (mn153 em mi ic) (rt_153 em mi ic) rfl tw_1156
theorem shw_335 (G : va_G) (a0 a1 a2 a3 : ClassId) (n0 : Nat) (em mi ic : Nat) : oc_ML (VV G a0 a1 a2 a3 n0) "Twelvehundred" 195 yX6_init := Or.inl tw_1155
theorem shw_336 (G : va_G) (a0 a1 a2 a3 : ClassId) (n0 : Nat) (em mi ic : Nat) : oc_NO (VV G a0 a1 a2 a3 n0) "Twelvehundred" 193 11 := ⟨(RX6, TX6, 3), rfl, tw_856, tw_1154, tw_78⟩
theorem shw_337 (G : va_G) (a0 a1 a2 a3 : ClassId) (n0 : Nat) (em mi ic : Nat) : oc_VZ (VV G a0 a1 a2 a3 n0) (DD em mi ic) 154 1 9 := oc_vz (ce_154 G a0 a1 a2 a3 n0 em mi ic) (hh154 em mi ic) (mn154 em mi ic) tw_1183 tw_1184 ⟨(RX4, TX4, 4), rfl, rfl⟩
theorem shw_338 (G : va_G) (a0 a1 a2 a3 : ClassId) (n0 : Nat) (em mi ic : Nat) : oc_ML (VV G a0 a1 a2 a3 n0) "Twelvehundred" 200 yX4_handOut := Or.inl tw_1182
theorem shw_339 (G : va_G) (a0 a1 a2 a3 : ClassId) (n0 : Nat) (em mi ic : Nat) : oc_IZ (VV G a0 a1 a2 a3 n0) (DD em mi ic) 155 1 := oc_iz (ce_155 G a0 a1 a2 a3 n0 em mi ic) (hh155 em mi ic) (mn155 em mi ic) (rt_155 em mi ic) rfl tw_1432
theorem shw_340 (G : va_G) (a0 a1 a2 a3 : ClassId) (n0 : Nat) (em mi ic : Nat) : oc_ML (VV G a0 a1 a2 a3 n0) "java/util/ArrayList" 269 yJx35411_init_45d68 := Or.inl tw_1431
theorem shw_341 (G : va_G) (a0 a1 a2 a3 : ClassId) (n0 : Nat) (em mi ic : Nat) : oc_NO (VV G a0 a1 a2 a3 n0) "java/util/ArrayList" 267 3 := ⟨(RJx35411, TJx35411, 4), rfl, tw_1429, tw_1430, tw_77⟩
theorem shw_342 (G : va_G) (a0 a1 a2 a3 : ClassId) (n0 : Nat) (em mi ic : Nat) : oc_LF (VV G a0 a1 a2 a3 n0) "java/util/ArrayList$Itr" 28 4 2 := ⟨(RJx4a65c, TJx4a65c, 3), rfl, by decide, "java/util/ArrayList", Or.inl rfl, Or.inr ⟨_, nw_129⟩⟩
theorem shw_343 (G : va_G) (a0 a1 a2 a3 : ClassId) (n0 : Nat) (em mi ic : Nat) : oc_LF (VV G a0 a1 a2 a3 n0) "java/util/ArrayList$Itr" 1 3 3 := ⟨(RJx35411, TJx35411, 4), rfl, by decide, "java/util/ArrayList$Itr", Or.inl rfl, Or.inl tw_1438⟩
theorem shw_344 (G : va_G) (a0 a1 a2 a3 : ClassId) (n0 : Nat) (em mi ic : Nat) : oc_LF (VV G a0 a1 a2 a3 n0) "java/util/ArrayList$Itr" 25 3 0 := ⟨(RJx35411, TJx35411, 4), rfl, by decide, "java/util/ArrayList$Itr", Or.inl rfl, Or.inl tw_1435⟩
theorem shw_345 (G : va_G) (a0 a1 a2 a3 : ClassId) (n0 : Nat) (em mi ic : Nat) : oc_VZ (VV G a0 a1 a2 a3 n0) (DD em mi ic) 156 0 3 := oc_vz (ce_156 G a0 a1 a2 a3 n0 em mi ic) (hh156 em mi ic) (mn156 em mi ic) tw_1468 tw_1469 ⟨(RJx35411, TJx35411, 4), rfl, rfl⟩
theorem shw_346 (G : va_G) (a0 a1 a2 a3 : ClassId) (n0 : Nat) (em mi ic : Nat) : oc_ML (VV G a0 a1 a2 a3 n0) "java/util/ArrayList$Itr" 31 yJx35411_checkForComodification_da8c8 := Or.inl tw_1467
theorem shw_347 (G : va_G) (a0 a1 a2 a3 : ClassId) (n0 : Nat) (em mi ic : Nat) : oc_LF (VV G a0 a1 a2 a3 n0) "java/util/ArrayList$Itr" 37 4 1 := ⟨(RJx4a65c, TJx4a65c, 3), rfl, by decide, "java/util/ArrayList", Or.inl rfl, Or.inl tw_128⟩
theorem shw_348 (G : va_G) (a0 a1 a2 a3 : ClassId) (n0 : Nat) (em mi ic : Nat) : oc_LP (VV G a0 a1 a2 a3 n0) "java/util/ArrayList$Itr" 13 3 1 := ⟨(RJx35411, TJx35411, 4), rfl, by decide, "java/util/ArrayList$Itr", Or.inl rfl, rfl, Or.inl tw_1436⟩
theorem shw_349 (G : va_G) (a0 a1 a2 a3 : ClassId) (n0 : Nat) (em mi ic : Nat) : oc_LP (VV G a0 a1 a2 a3 n0) "java/util/ArrayList$Itr" 25 3 0 := ⟨(RJx35411, TJx35411, 4), rfl, by decide, "java/util/ArrayList$Itr", Or.inl rfl, rfl, Or.inl tw_1435⟩
theorem shw_350 (G : va_G) (a0 a1 a2 a3 : ClassId) (n0 : Nat) (em mi ic : Nat) : oc_SZ (VV G a0 a1 a2 a3 n0) (DD em mi ic) 157 1 := oc_sz (ce_157 G a0 a1 a2 a3 n0 em mi ic) (hh157 em mi ic) (mn157 em mi ic) tw_1199
theorem shw_351 (G : va_G) (a0 a1 a2 a3 : ClassId) (n0 : Nat) (em mi ic : Nat) : oc_ML (VV G a0 a1 a2 a3 n0) "Twelvehundred" 204 yX1_isName := Or.inl tw_1198
theorem shw_352 (G : va_G) (a0 a1 a2 a3 : ClassId) (n0 : Nat) (em mi ic : Nat) : oc_IZ (VV G a0 a1 a2 a3 n0) (DD em mi ic) 158 1 := oc_iz (ce_158 G a0 a1 a2 a3 n0 em mi ic) (hh158 em mi ic) (mn158 em mi ic) (rt_158 em mi ic) rfl tw_1207
theorem shw_353 (G : va_G) (a0 a1 a2 a3 : ClassId) (n0 : Nat) (em mi ic : Nat) : oc_ML (VV G a0 a1 a2 a3 n0) "Twelvehundred" 217 yX5_init := Or.inl tw_1206
theorem shw_354 (G : va_G) (a0 a1 a2 a3 : ClassId) (n0 : Nat) (em mi ic : Nat) : oc_NO (VV G a0 a1 a2 a3 n0) "Twelvehundred" 215 10 := ⟨(RX5, TX5, 3), rfl, tw_1204, tw_1205, tw_79⟩
theorem shw_355 (G : va_G) (a0 a1 a2 a3 : ClassId) (n0 : Nat) (em mi ic : Nat) : oc_IZ (VV G a0 a1 a2 a3 n0) (DD em mi ic) 159 1 := oc_iz (ce_159 G a0 a1 a2 a3 n0 em mi ic) (hh159 em mi ic) (mn159 em mi ic) (rt_159 em mi ic) rfl tw_1497
theorem shw_356 (G : va_G) (a0 a1 a2 a3 : ClassId) (n0 : Nat) (em mi ic : Nat) : oc_ML (VV G a0 a1 a2 a3 n0) "java/lang/Integer" 199 yJ6_init_d00df := Or.inl tw_1496
theorem shw_357 (G : va_G) (a0 a1 a2 a3 : ClassId) (n0 : Nat) (em mi ic : Nat) : oc_NO (VV G a0 a1 a2 a3 n0) "java/lang/Integer" 1 2 := ⟨(RJ6, TJ6, 1), rfl, tw_1494, tw_1495, tw_73⟩
theorem shw_358 (G : va_G) (a0 a1 a2 a3 : ClassId) (n0 : Nat) (em mi ic : Nat) : oc_LP (VV G a0 a1 a2 a3 n0) "Twelvehundred" 221 10 1 := ⟨(RX5, TX5, 3), rfl, by decide, "Twelvehundred$Listed", Or.inl rfl, rfl, Or.inr ⟨_, nw_1214⟩⟩
theorem shw_359 (G : va_G) (a0 a1 a2 a3 : ClassId) (n0 : Nat) (em mi ic : Nat) : oc_CO (VV G a0 a1 a2 a3 n0) (DD em mi ic) "Twelvehundred" 215 10 := ⟨"Twelvehundred$Listed", tw_1204, castO 10 rfl, castA 10 rfl⟩
theorem shw_360 (G : va_G) (a0 a1 a2 a3 : ClassId) (n0 : Nat) (em mi ic : Nat) : oc_SZ (VV G a0 a1 a2 a3 n0) (DD em mi ic) 160 1 := oc_sz (ce_160 G a0 a1 a2 a3 n0 em mi ic) (hh160 em mi ic) (mn160 em mi ic) tw_1516
theorem shw_361 (G : va_G) (a0 a1 a2 a3 : ClassId) (n0 : Nat) (em mi ic : Nat) : oc_ML (VV G a0 a1 a2 a3 n0) "TwelvehundredModel" 159 yJ6_lowestOneBit_0f7a4 := Or.inl tw_1515
theorem shw_362 (G : va_G) (a0 a1 a2 a3 : ClassId) (n0 : Nat) (em mi ic : Nat) : oc_VZ (VV G a0 a1 a2 a3 n0) (DD em mi ic) 161 0 2 := oc_vz (ce_161 G a0 a1 a2 a3 n0 em mi ic) (hh161 em mi ic) (mn161 em mi ic) tw_1523 tw_1524 ⟨(RJ6, TJ6, 1), rfl, rfl⟩
theorem shw_363 (G : va_G) (a0 a1 a2 a3 : ClassId) (n0 : Nat) (em mi ic : Nat) : oc_ML (VV G a0 a1 a2 a3 n0) "TwelvehundredModel" 165 yJ6_intValue_8abf5 := Or.inl tw_1522
theorem shw_364 (G : va_G) (a0 a1 a2 a3 : ClassId) (n0 : Nat) (em mi ic : Nat) : oc_CO (VV G a0 a1 a2 a3 n0) (DD em mi ic) "TwelvehundredModel" 141 2 := ⟨"java/lang/Integer", tw_1521, castO 2 rfl, castA 2 rfl⟩
theorem shw_365 (G : va_G) (a0 a1 a2 a3 : ClassId) (n0 : Nat) (em mi ic : Nat) : oc_LF (VV G a0 a1 a2 a3 n0) "Twelvehundred" 231 15 1 := ⟨(RX10, TX10, 3), rfl, by decide, "Twelvehundred$Street", Or.inl rfl, Or.inr ⟨_, nw_916⟩⟩
theorem shw_366 (G : va_G) (a0 a1 a2 a3 : ClassId) (n0 : Nat) (em mi ic : Nat) : oc_LF (VV G a0 a1 a2 a3 n0) "Twelvehundred" 234 15 2 := ⟨(RX10, TX10, 3), rfl, by decide, "Twelvehundred$Street", Or.inl rfl, Or.inr ⟨_, nw_919⟩⟩
theorem shw_367 (G : va_G) (a0 a1 a2 a3 : ClassId) (n0 : Nat) (em mi ic : Nat) : oc_VZ (VV G a0 a1 a2 a3 n0) (DD em mi ic) 162 1 14 := oc_vz (ce_162 G a0 a1 a2 a3 n0 em mi ic) (hh162 em mi ic) (mn162 em mi ic) tw_663 tw_664 ⟨(RX9, TX9, 3), rfl, rfl⟩
theorem shw_368 (G : va_G) (a0 a1 a2 a3 : ClassId) (n0 : Nat) (em mi ic : Nat) : oc_ML (VV G a0 a1 a2 a3 n0) "Twelvehundred" 241 yX9_limitOf := Or.inl tw_830
theorem shw_369 (G : va_G) (a0 a1 a2 a3 : ClassId) (n0 : Nat) (em mi ic : Nat) : oc_VZ (VV G a0 a1 a2 a3 n0) (DD em mi ic) 163 1 13 := oc_vz (ce_163 G a0 a1 a2 a3 n0 em mi ic) (hh163 em mi ic) (mn163 em mi ic) tw_832 tw_833 ⟨(RX8, TX8, 4), rfl, rfl⟩
theorem shw_370 (G : va_G) (a0 a1 a2 a3 : ClassId) (n0 : Nat) (em mi ic : Nat) : oc_ML (VV G a0 a1 a2 a3 n0) "Twelvehundred" 245 yX8_atHomeIn := Or.inl tw_831
theorem shw_371 (G : va_G) (a0 a1 a2 a3 : ClassId) (n0 : Nat) (em mi ic : Nat) : oc_VZ (VV G a0 a1 a2 a3 n0) (DD em mi ic) 164 1 19 := oc_vz (ce_164 G a0 a1 a2 a3 n0 em mi ic) (hh164 em mi ic) (mn164 em mi ic) tw_1550 tw_24 ⟨(RX14, TX14, 18), rfl, rfl⟩
theorem shw_372 (G : va_G) (a0 a1 a2 a3 : ClassId) (n0 : Nat) (em mi ic : Nat) : oc_ML (VV G a0 a1 a2 a3 n0) "TwelvehundredModel" 177 yX14_limit := Or.inl tw_1548
theorem shw_373 (G : va_G) (a0 a1 a2 a3 : ClassId) (n0 : Nat) (em mi ic : Nat) : oc_VZ (VV G a0 a1 a2 a3 n0) (DD em mi ic) 165 2 19 := oc_vz (ce_165 G a0 a1 a2 a3 n0 em mi ic) (hh165 em mi ic) (mn165 em mi ic) tw_1554 tw_25 ⟨(RX14, TX14, 18), rfl, rfl⟩
theorem shw_374 (G : va_G) (a0 a1 a2 a3 : ClassId) (n0 : Nat) (em mi ic : Nat) : oc_ML (VV G a0 a1 a2 a3 n0) "TwelvehundredModel" 202 yX14_homes := Or.inl tw_1552
theorem shw_375 (G : va_G) (a0 a1 a2 a3 : ClassId) (n0 : Nat) (em mi ic : Nat) : oc_LF (VV G a0 a1 a2 a3 n0) "Twelvehundred" 250 15 0 := ⟨(RX10, TX10, 3), rfl, by decide, "Twelvehundred$Street", Or.inl rfl, Or.inr ⟨_, nw_913⟩⟩
theorem shw_376 (G : va_G) (a0 a1 a2 a3 : ClassId) (n0 : Nat) (em mi ic : Nat) : oc_LF (VV G a0 a1 a2 a3 n0) "Twelvehundred" 253 8 2 := ⟨(RX3, TX3, 5), rfl, by decide, "Twelvehundred$Household", Or.inl rfl, Or.inr ⟨_, nw_1079⟩⟩
theorem shw_377 (G : va_G) (a0 a1 a2 a3 : ClassId) (n0 : Nat) (em mi ic : Nat) : oc_LF (VV G a0 a1 a2 a3 n0) "Twelvehundred" 256 8 3 := ⟨(RX3, TX3, 5), rfl, by decide, "Twelvehundred$Household", Or.inl rfl, Or.inr ⟨_, nw_1081⟩⟩
theorem shw_378 (G : va_G) (a0 a1 a2 a3 : ClassId) (n0 : Nat) (em mi ic : Nat) : oc_VZ (VV G a0 a1 a2 a3 n0) (DD em mi ic) 166 1 12 := oc_vz (ce_166 G a0 a1 a2 a3 n0 em mi ic) (hh166 em mi ic) (mn166 em mi ic) tw_342 tw_343 ⟨(RX7, TX7, 3), rfl, rfl⟩
theorem shw_379 (G : va_G) (a0 a1 a2 a3 : ClassId) (n0 : Nat) (em mi ic : Nat) : oc_ML (VV G a0 a1 a2 a3 n0) "Twelvehundred" 259 yX7_hallOf := Or.inl tw_341
theorem shw_380 (G : va_G) (a0 a1 a2 a3 : ClassId) (n0 : Nat) (em mi ic : Nat) : oc_LF (VV G a0 a1 a2 a3 n0) "Twelvehundred" 263 7 0 := ⟨(RX2, TX2, 3), rfl, by decide, "Twelvehundred$Hall", Or.inl rfl, Or.inr ⟨_, nw_999⟩⟩
theorem shw_381 (G : va_G) (a0 a1 a2 a3 : ClassId) (n0 : Nat) (em mi ic : Nat) : oc_SZ (VV G a0 a1 a2 a3 n0) (DD em mi ic) 167 2 := oc_sz (ce_167 G a0 a1 a2 a3 n0 em mi ic) (hh167 em mi ic) (mn167 em mi ic) tw_656
theorem shw_382 (G : va_G) (a0 a1 a2 a3 : ClassId) (n0 : Nat) (em mi ic : Nat) : oc_ML (VV G a0 a1 a2 a3 n0) "Twelvehundred" 267 yX11_hasMember := Or.inl tw_841
theorem shw_383 (G : va_G) (a0 a1 a2 a3 : ClassId) (n0 : Nat) (em mi ic : Nat) : oc_LF (VV G a0 a1 a2 a3 n0) "TwelvehundredModel" 73 18 1 := ⟨(RX13, TX13, 4), rfl, by decide, "TwelvehundredModel$Household", Or.inl rfl, Or.inr ⟨_, nw_1383⟩⟩
theorem shw_384 (G : va_G) (a0 a1 a2 a3 : ClassId) (n0 : Nat) (em mi ic : Nat) : oc_LF (VV G a0 a1 a2 a3 n0) "TwelvehundredModel" 76 18 2 := ⟨(RX13, TX13, 4), rfl, by decide, "TwelvehundredModel$Household", Or.inl rfl, Or.inr ⟨_, nw_1384⟩⟩
theorem shw_385 (G : va_G) (a0 a1 a2 a3 : ClassId) (n0 : Nat) (em mi ic : Nat) : oc_VZ (VV G a0 a1 a2 a3 n0) (DD em mi ic) 168 0 19 := oc_vz (ce_168 G a0 a1 a2 a3 n0 em mi ic) (hh168 em mi ic) (mn168 em mi ic) tw_1566 tw_27 ⟨(RX14, TX14, 18), rfl, rfl⟩
theorem shw_386 (G : va_G) (a0 a1 a2 a3 : ClassId) (n0 : Nat) (em mi ic : Nat) : oc_ML (VV G a0 a1 a2 a3 n0) "TwelvehundredModel" 208 yX14_placing := Or.inl tw_1564
theorem shw_387 (G : va_G) (a0 a1 a2 a3 : ClassId) (n0 : Nat) (em mi ic : Nat) : oc_LF (VV G a0 a1 a2 a3 n0) "Twelvehundred" 273 7 1 := ⟨(RX2, TX2, 3), rfl, by decide, "Twelvehundred$Hall", Or.inl rfl, Or.inr ⟨_, nw_1002⟩⟩
theorem shw_388 (G : va_G) (a0 a1 a2 a3 : ClassId) (n0 : Nat) (em mi ic : Nat) : oc_VZ (VV G a0 a1 a2 a3 n0) (DD em mi ic) 169 1 12 := oc_vz (ce_169 G a0 a1 a2 a3 n0 em mi ic) (hh169 em mi ic) (mn169 em mi ic) tw_701 tw_702 ⟨(RX7, TX7, 3), rfl, rfl⟩
theorem shw_389 (G : va_G) (a0 a1 a2 a3 : ClassId) (n0 : Nat) (em mi ic : Nat) : oc_ML (VV G a0 a1 a2 a3 n0) "Twelvehundred" 274 yX7_guestsOf := Or.inl tw_849
theorem shw_390 (G : va_G) (a0 a1 a2 a3 : ClassId) (n0 : Nat) (em mi ic : Nat) : oc_VZ (VV G a0 a1 a2 a3 n0) (DD em mi ic) 170 2 19 := oc_vz (ce_170 G a0 a1 a2 a3 n0 em mi ic) (hh170 em mi ic) (mn170 em mi ic) tw_1602 tw_35 ⟨(RX14, TX14, 18), rfl, rfl⟩
theorem shw_391 (G : va_G) (a0 a1 a2 a3 : ClassId) (n0 : Nat) (em mi ic : Nat) : oc_ML (VV G a0 a1 a2 a3 n0) "TwelvehundredModel" 195 yX14_having := Or.inl tw_1600
theorem shw_392 (G : va_G) (a0 a1 a2 a3 : ClassId) (n0 : Nat) (em mi ic : Nat) : oc_CO (VV G a0 a1 a2 a3 n0) (DD em mi ic) "Twelvehundred" 193 11 := ⟨"Twelvehundred$Lot", tw_856, castO 11 rfl, castA 11 rfl⟩
theorem shw_393 (G : va_G) (a0 a1 a2 a3 : ClassId) (n0 : Nat) (em mi ic : Nat) : oc_LF (VV G a0 a1 a2 a3 n0) "Twelvehundred" 285 11 2 := ⟨(RX6, TX6, 3), rfl, by decide, "Twelvehundred$Lot", Or.inl rfl, Or.inr ⟨_, nw_1166⟩⟩
theorem shw_394 (G : va_G) (a0 a1 a2 a3 : ClassId) (n0 : Nat) (em mi ic : Nat) : oc_LF (VV G a0 a1 a2 a3 n0) "Twelvehundred" 288 11 1 := ⟨(RX6, TX6, 3), rfl, by decide, "Twelvehundred$Lot", Or.inl rfl, Or.inr ⟨_, nw_1163⟩⟩
theorem shw_395 (G : va_G) (a0 a1 a2 a3 : ClassId) (n0 : Nat) (em mi ic : Nat) : oc_VZ (VV G a0 a1 a2 a3 n0) (DD em mi ic) 171 1 13 := oc_vz (ce_171 G a0 a1 a2 a3 n0 em mi ic) (hh171 em mi ic) (mn171 em mi ic) tw_797 tw_798 ⟨(RX8, TX8, 4), rfl, rfl⟩
theorem shw_396 (G : va_G) (a0 a1 a2 a3 : ClassId) (n0 : Nat) (em mi ic : Nat) : oc_ML (VV G a0 a1 a2 a3 n0) "Twelvehundred" 293 yX8_countOf := Or.inl tw_796
theorem shw_397 (G : va_G) (a0 a1 a2 a3 : ClassId) (n0 : Nat) (em mi ic : Nat) : oc_LF (VV G a0 a1 a2 a3 n0) "Twelvehundred" 154 14 1 := ⟨(RX9, TX9, 3), rfl, by decide, "Twelvehundred$River", Or.inl rfl, Or.inr ⟨_, nw_103⟩⟩
theorem shw_398 (G : va_G) (a0 a1 a2 a3 : ClassId) (n0 : Nat) (em mi ic : Nat) : oc_LF (VV G a0 a1 a2 a3 n0) "Twelvehundred" 296 5 4 := ⟨(RX0, TX0, 5), rfl, by decide, "Twelvehundred$Asking", Or.inl rfl, Or.inr ⟨_, nw_192⟩⟩
theorem shw_399 (G : va_G) (a0 a1 a2 a3 : ClassId) (n0 : Nat) (em mi ic : Nat) : oc_VZ (VV G a0 a1 a2 a3 n0) (DD em mi ic) 172 1 9 := oc_vz (ce_172 G a0 a1 a2 a3 n0 em mi ic) (hh172 em mi ic) (mn172 em mi ic) tw_801 tw_802 ⟨(RX4, TX4, 4), rfl, rfl⟩
theorem shw_400 (G : va_G) (a0 a1 a2 a3 : ClassId) (n0 : Nat) (em mi ic : Nat) : oc_ML (VV G a0 a1 a2 a3 n0) "Twelvehundred" 299 yX4_lastingAt := Or.inl tw_800
theorem shw_401 (G : va_G) (a0 a1 a2 a3 : ClassId) (n0 : Nat) (em mi ic : Nat) : oc_LF (VV G a0 a1 a2 a3 n0) "Twelvehundred" 302 9 1 := ⟨(RX4, TX4, 4), rfl, by decide, "Twelvehundred$Larder", Or.inl rfl, Or.inr ⟨_, nw_216⟩⟩
theorem shw_402 (G : va_G) (a0 a1 a2 a3 : ClassId) (n0 : Nat) (em mi ic : Nat) : oc_LF (VV G a0 a1 a2 a3 n0) "Twelvehundred" 305 9 2 := ⟨(RX4, TX4, 4), rfl, by decide, "Twelvehundred$Larder", Or.inl rfl, Or.inr ⟨_, nw_218⟩⟩
theorem shw_403 (G : va_G) (a0 a1 a2 a3 : ClassId) (n0 : Nat) (em mi ic : Nat) : oc_LF (VV G a0 a1 a2 a3 n0) "Twelvehundred" 308 9 3 := ⟨(RX4, TX4, 4), rfl, by decide, "Twelvehundred$Larder", Or.inl rfl, Or.inr ⟨_, nw_220⟩⟩
theorem shw_404 (G : va_G) (a0 a1 a2 a3 : ClassId) (n0 : Nat) (em mi ic : Nat) : oc_VZ (VV G a0 a1 a2 a3 n0) (DD em mi ic) 173 1 19 := oc_vz (ce_173 G a0 a1 a2 a3 n0 em mi ic) (hh173 em mi ic) (mn173 em mi ic) tw_1622 tw_38 ⟨(RX14, TX14, 18), rfl, rfl⟩
theorem shw_405 (G : va_G) (a0 a1 a2 a3 : ClassId) (n0 : Nat) (em mi ic : Nat) : oc_ML (VV G a0 a1 a2 a3 n0) "TwelvehundredModel" 224 yX14_asked := Or.inl tw_1620
theorem shw_406 (G : va_G) (a0 a1 a2 a3 : ClassId) (n0 : Nat) (em mi ic : Nat) : oc_VZ (VV G a0 a1 a2 a3 n0) (DD em mi ic) 174 0 19 := oc_vz (ce_174 G a0 a1 a2 a3 n0 em mi ic) (hh174 em mi ic) (mn174 em mi ic) tw_1626 tw_39 ⟨(RX14, TX14, 18), rfl, rfl⟩
theorem shw_407 (G : va_G) (a0 a1 a2 a3 : ClassId) (n0 : Nat) (em mi ic : Nat) : oc_ML (VV G a0 a1 a2 a3 n0) "TwelvehundredModel" 228 yX14_mealsLeft := Or.inl tw_1624
theorem shw_408 (G : va_G) (a0 a1 a2 a3 : ClassId) (n0 : Nat) (em mi ic : Nat) : oc_IZ (VV G a0 a1 a2 a3 n0) (DD em mi ic) 175 1 := oc_iz (ce_175 G a0 a1 a2 a3 n0 em mi ic) (hh175 em mi ic) (mn175 em mi ic) (rt_175 em mi ic) rfl tw_292
theorem shw_409 (G : va_G) (a0 a1 a2 a3 : ClassId) (n0 : Nat) (em mi ic : Nat) : oc_ML (VV G a0 a1 a2 a3 n0) "java/lang/StringBuilder" 1 yJ5_init_d00df := Or.inl tw_291
theorem shw_410 (G : va_G) (a0 a1 a2 a3 : ClassId) (n0 : Nat) (em mi ic : Nat) : oc_IZ (VV G a0 a1 a2 a3 n0) (DD em mi ic) 177 1 := oc_iz (ce_177 G a0 a1 a2 a3 n0 em mi ic) (hh177 em mi ic) (mn177 em mi ic) (rt_177 em mi ic) rfl tw_445
theorem shw_411 (G : va_G) (a0 a1 a2 a3 : ClassId) (n0 : Nat) (em mi ic : Nat) : oc_ML (VV G a0 a1 a2 a3 n0) "java/lang/StringBuilder" 137 yJ0_init_81219 := Or.inl tw_444
theorem shw_412 (G : va_G) (a0 a1 a2 a3 : ClassId) (n0 : Nat) (em mi ic : Nat) : oc_NO (VV G a0 a1 a2 a3 n0) "java/lang/StringBuilder" 18 0 := ⟨(RJ0, TJ0, 4), rfl, tw_442, tw_443, tw_83⟩
theorem shw_413 (G : va_G) (a0 a1 a2 a3 : ClassId) (n0 : Nat) (em mi ic : Nat) : oc_ML (VV G a0 a1 a2 a3 n0) "TwelvehundredModel" 236 yJ4_init_da8c8 := Or.inl tw_1637
theorem shw_414 (G : va_G) (a0 a1 a2 a3 : ClassId) (n0 : Nat) (em mi ic : Nat) : oc_NO (VV G a0 a1 a2 a3 n0) "TwelvehundredModel" 234 1 := ⟨(RJ4, TJ4, 4), rfl, tw_1636, tw_287, tw_82⟩
theorem shw_415 (G : va_G) (a0 a1 a2 a3 : ClassId) (n0 : Nat) (em mi ic : Nat) : oc_ML (VV G a0 a1 a2 a3 n0) "TwelvehundredModel" 237 yJ4_append_cf468 := Or.inl tw_1638
theorem shw_416 (G : va_G) (a0 a1 a2 a3 : ClassId) (n0 : Nat) (em mi ic : Nat) : oc_ML (VV G a0 a1 a2 a3 n0) "TwelvehundredModel" 241 yJ4_toString_0e30d := Or.inl tw_1639
theorem shw_417 (G : va_G) (a0 a1 a2 a3 : ClassId) (n0 : Nat) (em mi ic : Nat) : oc_VZ (VV G a0 a1 a2 a3 n0) (DD em mi ic) 178 1 13 := oc_vz (ce_178 G a0 a1 a2 a3 n0 em mi ic) (hh178 em mi ic) (mn178 em mi ic) tw_652 tw_653 ⟨(RX8, TX8, 4), rfl, rfl⟩
theorem shw_418 (G : va_G) (a0 a1 a2 a3 : ClassId) (n0 : Nat) (em mi ic : Nat) : oc_ML (VV G a0 a1 a2 a3 n0) "Twelvehundred" 330 yX8_canReach := Or.inl tw_1260
theorem shw_419 (G : va_G) (a0 a1 a2 a3 : ClassId) (n0 : Nat) (em mi ic : Nat) : oc_ML (VV G a0 a1 a2 a3 n0) "Twelvehundred$Rescue" 70 yX8_canReach := Or.inl tw_651
theorem shw_420 (G : va_G) (a0 a1 a2 a3 : ClassId) (n0 : Nat) (em mi ic : Nat) : oc_LF (VV G a0 a1 a2 a3 n0) "Twelvehundred$Rescue" 59 8 2 := ⟨(RX3, TX3, 5), rfl, by decide, "Twelvehundred$Household", Or.inl rfl, Or.inr ⟨_, nw_1078⟩⟩
theorem shw_421 (G : va_G) (a0 a1 a2 a3 : ClassId) (n0 : Nat) (em mi ic : Nat) : oc_CO (VV G a0 a1 a2 a3 n0) (DD em mi ic) "Twelvehundred$Rescue" 36 8 := ⟨"Twelvehundred$Household", tw_650, castO 8 rfl, castA 8 rfl⟩
theorem shw_422 (G : va_G) (a0 a1 a2 a3 : ClassId) (n0 : Nat) (em mi ic : Nat) : oc_ML (VV G a0 a1 a2 a3 n0) "Twelvehundred$Rescue" 32 yJx4a65c_get_915e3 := Or.inl tw_649
theorem shw_423 (G : va_G) (a0 a1 a2 a3 : ClassId) (n0 : Nat) (em mi ic : Nat) : oc_LF (VV G a0 a1 a2 a3 n0) "Twelvehundred$Rescue" 22 13 1 := ⟨(RX8, TX8, 4), rfl, by decide, "Twelvehundred$Rescue", Or.inl rfl, Or.inl tw_167⟩
theorem shw_424 (G : va_G) (a0 a1 a2 a3 : ClassId) (n0 : Nat) (em mi ic : Nat) : oc_ML (VV G a0 a1 a2 a3 n0) "Twelvehundred$Rescue" 26 yJx4a65c_size_8abf5 := Or.inl tw_648
theorem shw_425 (G : va_G) (a0 a1 a2 a3 : ClassId) (n0 : Nat) (em mi ic : Nat) : oc_ML (VV G a0 a1 a2 a3 n0) "Twelvehundred$Rescue" 55 yX11_hasMember := Or.inr ⟨_, nw_655⟩
theorem shw_426 (G : va_G) (a0 a1 a2 a3 : ClassId) (n0 : Nat) (em mi ic : Nat) : oc_ML (VV G a0 a1 a2 a3 n0) "Twelvehundred$Placing" 33 yJx4a65c_size_8abf5 := Or.inl tw_689
theorem shw_427 (G : va_G) (a0 a1 a2 a3 : ClassId) (n0 : Nat) (em mi ic : Nat) : oc_LF (VV G a0 a1 a2 a3 n0) "Twelvehundred$Placing" 17 12 0 := ⟨(RX7, TX7, 3), rfl, by decide, "Twelvehundred$Placing", Or.inl rfl, Or.inl tw_150⟩
theorem shw_428 (G : va_G) (a0 a1 a2 a3 : ClassId) (n0 : Nat) (em mi ic : Nat) : oc_ML (VV G a0 a1 a2 a3 n0) "Twelvehundred$Placing" 30 yX7_clear := Or.inl tw_685
theorem shw_429 (G : va_G) (a0 a1 a2 a3 : ClassId) (n0 : Nat) (em mi ic : Nat) : oc_LF (VV G a0 a1 a2 a3 n0) "Twelvehundred$Placing" 21 12 1 := ⟨(RX7, TX7, 3), rfl, by decide, "Twelvehundred$Placing", Or.inl rfl, Or.inl tw_151⟩
theorem shw_430 (G : va_G) (a0 a1 a2 a3 : ClassId) (n0 : Nat) (em mi ic : Nat) : oc_LF (VV G a0 a1 a2 a3 n0) "Twelvehundred$Placing" 43 8 4 := ⟨(RX3, TX3, 5), rfl, by decide, "Twelvehundred$Household", Or.inl rfl, Or.inr ⟨_, nw_1085⟩⟩
theorem shw_431 (G : va_G) (a0 a1 a2 a3 : ClassId) (n0 : Nat) (em mi ic : Nat) : oc_CO (VV G a0 a1 a2 a3 n0) (DD em mi ic) "Twelvehundred$Placing" 25 8 := ⟨"Twelvehundred$Household", tw_691, castO 8 rfl, castA 8 rfl⟩
theorem shw_432 (G : va_G) (a0 a1 a2 a3 : ClassId) (n0 : Nat) (em mi ic : Nat) : oc_ML (VV G a0 a1 a2 a3 n0) "Twelvehundred$Placing" 39 yJx4a65c_get_915e3 := Or.inl tw_690
theorem shw_433 (G : va_G) (a0 a1 a2 a3 : ClassId) (n0 : Nat) (em mi ic : Nat) : oc_CO (VV G a0 a1 a2 a3 n0) (DD em mi ic) "Twelvehundred$Placing" 9 7 := ⟨"Twelvehundred$Hall", tw_148, castO 7 rfl, castA 7 rfl⟩
theorem shw_434 (G : va_G) (a0 a1 a2 a3 : ClassId) (n0 : Nat) (em mi ic : Nat) : oc_VZ (VV G a0 a1 a2 a3 n0) (DD em mi ic) 179 2 12 := oc_vz (ce_179 G a0 a1 a2 a3 n0 em mi ic) (hh179 em mi ic) (mn179 em mi ic) tw_693 tw_694 ⟨(RX7, TX7, 3), rfl, rfl⟩
theorem shw_435 (G : va_G) (a0 a1 a2 a3 : ClassId) (n0 : Nat) (em mi ic : Nat) : oc_ML (VV G a0 a1 a2 a3 n0) "Twelvehundred$Placing" 46 yX7_put := Or.inl tw_692
theorem shw_436 (G : va_G) (a0 a1 a2 a3 : ClassId) (n0 : Nat) (em mi ic : Nat) : oc_LF (VV G a0 a1 a2 a3 n0) "Twelvehundred$Placing" 60 7 2 := ⟨(RX2, TX2, 3), rfl, by decide, "Twelvehundred$Hall", Or.inl rfl, Or.inr ⟨_, nw_1005⟩⟩
theorem shw_437 (G : va_G) (a0 a1 a2 a3 : ClassId) (n0 : Nat) (em mi ic : Nat) : oc_SZ (VV G a0 a1 a2 a3 n0) (DD em mi ic) 180 1 := oc_sz (ce_180 G a0 a1 a2 a3 n0 em mi ic) (hh180 em mi ic) (mn180 em mi ic) tw_705
theorem shw_438 (G : va_G) (a0 a1 a2 a3 : ClassId) (n0 : Nat) (em mi ic : Nat) : oc_ML (VV G a0 a1 a2 a3 n0) "Twelvehundred$Placing" 54 yJ6_bitCount_0f7a4 := Or.inl tw_704
theorem shw_439 (G : va_G) (a0 a1 a2 a3 : ClassId) (n0 : Nat) (em mi ic : Nat) : oc_ML (VV G a0 a1 a2 a3 n0) "Twelvehundred$Placing" 50 yX7_guestsOf := Or.inl tw_700
theorem shw_440 (G : va_G) (a0 a1 a2 a3 : ClassId) (n0 : Nat) (em mi ic : Nat) : oc_VZ (VV G a0 a1 a2 a3 n0) (DD em mi ic) 182 1 12 := oc_vz (ce_182 G a0 a1 a2 a3 n0 em mi ic) (hh182 em mi ic) (mn182 em mi ic) tw_736 tw_5 ⟨(RX7, TX7, 3), rfl, rfl⟩
theorem shw_441 (G : va_G) (a0 a1 a2 a3 : ClassId) (n0 : Nat) (em mi ic : Nat) : oc_ML (VV G a0 a1 a2 a3 n0) "Twelvehundred$Placing" 75 yX7_wantsEmptyRoom := Or.inl tw_734
theorem shw_442 (G : va_G) (a0 a1 a2 a3 : ClassId) (n0 : Nat) (em mi ic : Nat) : oc_VZ (VV G a0 a1 a2 a3 n0) (DD em mi ic) 181 1 12 := oc_vz (ce_181 G a0 a1 a2 a3 n0 em mi ic) (hh181 em mi ic) (mn181 em mi ic) tw_716 tw_3 ⟨(RX7, TX7, 3), rfl, rfl⟩
theorem shw_443 (G : va_G) (a0 a1 a2 a3 : ClassId) (n0 : Nat) (em mi ic : Nat) : oc_ML (VV G a0 a1 a2 a3 n0) "Twelvehundred$Placing" 71 yX7_hasEnvyUpTo := Or.inl tw_714
theorem shw_444 (G : va_G) (a0 a1 a2 a3 : ClassId) (n0 : Nat) (em mi ic : Nat) : oc_ML (VV G a0 a1 a2 a3 n0) "TwelvehundredModel" 199 yJ6_bitCount_0f7a4 := Or.inl tw_1656
theorem shw_445 (G : va_G) (a0 a1 a2 a3 : ClassId) (n0 : Nat) (em mi ic : Nat) : oc_VZ (VV G a0 a1 a2 a3 n0) (DD em mi ic) 183 3 19 := oc_vz (ce_183 G a0 a1 a2 a3 n0 em mi ic) (hh183 em mi ic) (mn183 em mi ic) tw_1578 tw_30 ⟨(RX14, TX14, 18), rfl, rfl⟩
theorem shw_446 (G : va_G) (a0 a1 a2 a3 : ClassId) (n0 : Nat) (em mi ic : Nat) : oc_ML (VV G a0 a1 a2 a3 n0) "TwelvehundredModel" 192 yX14_ratherHas := Or.inl tw_1576
theorem shw_447 (G : va_G) (a0 a1 a2 a3 : ClassId) (n0 : Nat) (em mi ic : Nat) : oc_VZ (VV G a0 a1 a2 a3 n0) (DD em mi ic) 184 2 19 := oc_vz (ce_184 G a0 a1 a2 a3 n0 em mi ic) (hh184 em mi ic) (mn184 em mi ic) tw_1574 tw_29 ⟨(RX14, TX14, 18), rfl, rfl⟩
theorem shw_448 (G : va_G) (a0 a1 a2 a3 : ClassId) (n0 : Nat) (em mi ic : Nat) : oc_ML (VV G a0 a1 a2 a3 n0) "TwelvehundredModel" 189 yX14_isBetterLiked := Or.inl tw_1572
theorem shw_449 (G : va_G) (a0 a1 a2 a3 : ClassId) (n0 : Nat) (em mi ic : Nat) : oc_ML (VV G a0 a1 a2 a3 n0) "Twelvehundred" 343 yJ9_min_7cf53 := Or.inl tw_867
theorem shw_450 (G : va_G) (a0 a1 a2 a3 : ClassId) (n0 : Nat) (em mi ic : Nat) : oc_SZ (VV G a0 a1 a2 a3 n0) (DD em mi ic) 185 2 := oc_sz (ce_185 G a0 a1 a2 a3 n0 em mi ic) (hh185 em mi ic) (mn185 em mi ic) tw_780
theorem shw_451 (G : va_G) (a0 a1 a2 a3 : ClassId) (n0 : Nat) (em mi ic : Nat) : oc_ML (VV G a0 a1 a2 a3 n0) "Twelvehundred" 351 yX1_isNear := Or.inl tw_1273
theorem shw_452 (G : va_G) (a0 a1 a2 a3 : ClassId) (n0 : Nat) (em mi ic : Nat) : oc_SZ (VV G a0 a1 a2 a3 n0) (DD em mi ic) 188 2 := oc_sz (ce_188 G a0 a1 a2 a3 n0 em mi ic) (hh188 em mi ic) (mn188 em mi ic) tw_1534
theorem shw_453 (G : va_G) (a0 a1 a2 a3 : ClassId) (n0 : Nat) (em mi ic : Nat) : oc_ML (VV G a0 a1 a2 a3 n0) "TwelvehundredModel" 152 yX14_leaves := Or.inl tw_1533
theorem shw_454 (G : va_G) (a0 a1 a2 a3 : ClassId) (n0 : Nat) (em mi ic : Nat) : oc_SZ (VV G a0 a1 a2 a3 n0) (DD em mi ic) 187 1 := oc_sz (ce_187 G a0 a1 a2 a3 n0 em mi ic) (hh187 em mi ic) (mn187 em mi ic) tw_728
theorem shw_455 (G : va_G) (a0 a1 a2 a3 : ClassId) (n0 : Nat) (em mi ic : Nat) : oc_ML (VV G a0 a1 a2 a3 n0) "TwelvehundredModel" 149 yJ9_abs_0f7a4 := Or.inl tw_1532
theorem shw_456 (G : va_G) (a0 a1 a2 a3 : ClassId) (n0 : Nat) (em mi ic : Nat) : oc_SZ (VV G a0 a1 a2 a3 n0) (DD em mi ic) 186 1 := oc_sz (ce_186 G a0 a1 a2 a3 n0 em mi ic) (hh186 em mi ic) (mn186 em mi ic) tw_1530
theorem shw_457 (G : va_G) (a0 a1 a2 a3 : ClassId) (n0 : Nat) (em mi ic : Nat) : oc_ML (VV G a0 a1 a2 a3 n0) "TwelvehundredModel" 146 yX14_digits := Or.inl tw_1529
theorem shw_458 (G : va_G) (a0 a1 a2 a3 : ClassId) (n0 : Nat) (em mi ic : Nat) : oc_LF (VV G a0 a1 a2 a3 n0) "Twelvehundred$Placing" 11 12 2 := ⟨(RX7, TX7, 3), rfl, by decide, "Twelvehundred$Placing", Or.inl rfl, Or.inl tw_152⟩
theorem shw_459 (G : va_G) (a0 a1 a2 a3 : ClassId) (n0 : Nat) (em mi ic : Nat) : oc_ML (VV G a0 a1 a2 a3 n0) "Twelvehundred$Placing" 94 yX7_isContested := Or.inl tw_754
theorem shw_460 (G : va_G) (a0 a1 a2 a3 : ClassId) (n0 : Nat) (em mi ic : Nat) : oc_VZ (VV G a0 a1 a2 a3 n0) (DD em mi ic) 189 1 12 := oc_vz (ce_189 G a0 a1 a2 a3 n0 em mi ic) (hh189 em mi ic) (mn189 em mi ic) tw_752 tw_6 ⟨(RX7, TX7, 3), rfl, rfl⟩
theorem shw_461 (G : va_G) (a0 a1 a2 a3 : ClassId) (n0 : Nat) (em mi ic : Nat) : oc_ML (VV G a0 a1 a2 a3 n0) "Twelvehundred$Placing" 90 yX7_isBetterForAny := Or.inl tw_750
theorem shw_462 (G : va_G) (a0 a1 a2 a3 : ClassId) (n0 : Nat) (em mi ic : Nat) : oc_ML (VV G a0 a1 a2 a3 n0) "Twelvehundred$Placing" 98 yX7_isBeaten := Or.inl tw_755
theorem shw_463 (G : va_G) (a0 a1 a2 a3 : ClassId) (n0 : Nat) (em mi ic : Nat) : oc_VZ (VV G a0 a1 a2 a3 n0) (DD em mi ic) 190 1 12 := oc_vz (ce_190 G a0 a1 a2 a3 n0 em mi ic) (hh190 em mi ic) (mn190 em mi ic) tw_739 tw_740 ⟨(RX7, TX7, 3), rfl, rfl⟩
theorem shw_464 (G : va_G) (a0 a1 a2 a3 : ClassId) (n0 : Nat) (em mi ic : Nat) : oc_ML (VV G a0 a1 a2 a3 n0) "Twelvehundred$Placing" 82 yX7_hasRoom := Or.inl tw_738
theorem shw_465 (G : va_G) (a0 a1 a2 a3 : ClassId) (n0 : Nat) (em mi ic : Nat) : oc_ML (VV G a0 a1 a2 a3 n0) "Twelvehundred$Rescue" 74 yX8_peopleOf := Or.inl tw_760
theorem shw_466 (G : va_G) (a0 a1 a2 a3 : ClassId) (n0 : Nat) (em mi ic : Nat) : oc_LF (VV G a0 a1 a2 a3 n0) "Twelvehundred$Larder" 34 11 2 := ⟨(RX6, TX6, 3), rfl, by decide, "Twelvehundred$Lot", Or.inl rfl, Or.inr ⟨_, nw_1165⟩⟩
theorem shw_467 (G : va_G) (a0 a1 a2 a3 : ClassId) (n0 : Nat) (em mi ic : Nat) : oc_CO (VV G a0 a1 a2 a3 n0) (DD em mi ic) "Twelvehundred$Larder" 35 11 := ⟨"Twelvehundred$Lot", tw_767, castO 11 rfl, castA 11 rfl⟩
theorem shw_468 (G : va_G) (a0 a1 a2 a3 : ClassId) (n0 : Nat) (em mi ic : Nat) : oc_ML (VV G a0 a1 a2 a3 n0) "Twelvehundred$Larder" 45 yJx4a65c_get_915e3 := Or.inl tw_766
theorem shw_469 (G : va_G) (a0 a1 a2 a3 : ClassId) (n0 : Nat) (em mi ic : Nat) : oc_LF (VV G a0 a1 a2 a3 n0) "Twelvehundred$Larder" 10 9 0 := ⟨(RX4, TX4, 4), rfl, by decide, "Twelvehundred$Larder", Or.inl rfl, Or.inl tw_213⟩
theorem shw_470 (G : va_G) (a0 a1 a2 a3 : ClassId) (n0 : Nat) (em mi ic : Nat) : oc_LF (VV G a0 a1 a2 a3 n0) "Twelvehundred$Larder" 52 11 0 := ⟨(RX6, TX6, 3), rfl, by decide, "Twelvehundred$Lot", Or.inl rfl, Or.inr ⟨_, nw_1160⟩⟩
theorem shw_471 (G : va_G) (a0 a1 a2 a3 : ClassId) (n0 : Nat) (em mi ic : Nat) : oc_ML (VV G a0 a1 a2 a3 n0) "Twelvehundred$Larder" 26 yJx4a65c_size_8abf5 := Or.inl tw_765
theorem shw_472 (G : va_G) (a0 a1 a2 a3 : ClassId) (n0 : Nat) (em mi ic : Nat) : oc_LF (VV G a0 a1 a2 a3 n0) "Twelvehundred$Larder" 20 9 2 := ⟨(RX4, TX4, 4), rfl, by decide, "Twelvehundred$Larder", Or.inl rfl, Or.inl tw_217⟩
theorem shw_473 (G : va_G) (a0 a1 a2 a3 : ClassId) (n0 : Nat) (em mi ic : Nat) : oc_LF (VV G a0 a1 a2 a3 n0) "Twelvehundred$Larder" 16 9 1 := ⟨(RX4, TX4, 4), rfl, by decide, "Twelvehundred$Larder", Or.inl rfl, Or.inl tw_215⟩
theorem shw_474 (G : va_G) (a0 a1 a2 a3 : ClassId) (n0 : Nat) (em mi ic : Nat) : oc_LF (VV G a0 a1 a2 a3 n0) "Twelvehundred$Bulletin" 36 10 1 := ⟨(RX5, TX5, 3), rfl, by decide, "Twelvehundred$Listed", Or.inl rfl, Or.inr ⟨_, nw_1213⟩⟩
theorem shw_475 (G : va_G) (a0 a1 a2 a3 : ClassId) (n0 : Nat) (em mi ic : Nat) : oc_CO (VV G a0 a1 a2 a3 n0) (DD em mi ic) "Twelvehundred$Bulletin" 31 10 := ⟨"Twelvehundred$Listed", tw_774, castO 10 rfl, castA 10 rfl⟩
theorem shw_476 (G : va_G) (a0 a1 a2 a3 : ClassId) (n0 : Nat) (em mi ic : Nat) : oc_ML (VV G a0 a1 a2 a3 n0) "Twelvehundred$Bulletin" 27 yJx4a65c_get_915e3 := Or.inl tw_773
theorem shw_477 (G : va_G) (a0 a1 a2 a3 : ClassId) (n0 : Nat) (em mi ic : Nat) : oc_LF (VV G a0 a1 a2 a3 n0) "Twelvehundred$Bulletin" 12 6 0 := ⟨(RX1, TX1, 2), rfl, by decide, "Twelvehundred$Bulletin", Or.inl rfl, Or.inl tw_238⟩
theorem shw_478 (G : va_G) (a0 a1 a2 a3 : ClassId) (n0 : Nat) (em mi ic : Nat) : oc_LP (VV G a0 a1 a2 a3 n0) "Twelvehundred$Bulletin" 33 10 2 := ⟨(RX5, TX5, 3), rfl, by decide, "Twelvehundred$Listed", Or.inl rfl, rfl, Or.inr ⟨_, nw_1216⟩⟩
theorem shw_479 (G : va_G) (a0 a1 a2 a3 : ClassId) (n0 : Nat) (em mi ic : Nat) : oc_ML (VV G a0 a1 a2 a3 n0) "Twelvehundred$Bulletin" 23 yJx4a65c_size_8abf5 := Or.inl tw_772
theorem shw_480 (G : va_G) (a0 a1 a2 a3 : ClassId) (n0 : Nat) (em mi ic : Nat) : oc_ML (VV G a0 a1 a2 a3 n0) "Twelvehundred$Bulletin" 40 yX11_oneIf := Or.inr ⟨_, nw_775⟩
theorem shw_481 (G : va_G) (a0 a1 a2 a3 : ClassId) (n0 : Nat) (em mi ic : Nat) : oc_VZ (VV G a0 a1 a2 a3 n0) (DD em mi ic) 192 2 6 := oc_vz (ce_192 G a0 a1 a2 a3 n0 em mi ic) (hh192 em mi ic) (mn192 em mi ic) tw_784 tw_7 ⟨(RX1, TX1, 2), rfl, rfl⟩
theorem shw_482 (G : va_G) (a0 a1 a2 a3 : ClassId) (n0 : Nat) (em mi ic : Nat) : oc_ML (VV G a0 a1 a2 a3 n0) "Twelvehundred$Bulletin" 48 yX1_join := Or.inl tw_782
theorem shw_483 (G : va_G) (a0 a1 a2 a3 : ClassId) (n0 : Nat) (em mi ic : Nat) : oc_LF (VV G a0 a1 a2 a3 n0) "Twelvehundred$Bulletin" 33 10 2 := ⟨(RX5, TX5, 3), rfl, by decide, "Twelvehundred$Listed", Or.inl rfl, Or.inr ⟨_, nw_1216⟩⟩
theorem shw_484 (G : va_G) (a0 a1 a2 a3 : ClassId) (n0 : Nat) (em mi ic : Nat) : oc_SZ (VV G a0 a1 a2 a3 n0) (DD em mi ic) 191 2 := oc_sz (ce_191 G a0 a1 a2 a3 n0 em mi ic) (hh191 em mi ic) (mn191 em mi ic) tw_777
theorem shw_485 (G : va_G) (a0 a1 a2 a3 : ClassId) (n0 : Nat) (em mi ic : Nat) : oc_ML (VV G a0 a1 a2 a3 n0) "Twelvehundred$Bulletin" 44 yX1_areTogether := Or.inl tw_776
theorem shw_486 (G : va_G) (a0 a1 a2 a3 : ClassId) (n0 : Nat) (em mi ic : Nat) : oc_VZ (VV G a0 a1 a2 a3 n0) (DD em mi ic) 193 3 19 := oc_vz (ce_193 G a0 a1 a2 a3 n0 em mi ic) (hh193 em mi ic) (mn193 em mi ic) tw_1679 tw_44 ⟨(RX14, TX14, 18), rfl, rfl⟩
theorem shw_487 (G : va_G) (a0 a1 a2 a3 : ClassId) (n0 : Nat) (em mi ic : Nat) : oc_ML (VV G a0 a1 a2 a3 n0) "TwelvehundredModel" 255 yX14_isBest := Or.inl tw_1677
theorem shw_488 (G : va_G) (a0 a1 a2 a3 : ClassId) (n0 : Nat) (em mi ic : Nat) : oc_VZ (VV G a0 a1 a2 a3 n0) (DD em mi ic) 194 0 0 := oc_vz (ce_194 G a0 a1 a2 a3 n0 em mi ic) (hh194 em mi ic) (mn194 em mi ic) tw_571 tw_572 ⟨(RJ0, TJ0, 4), rfl, rfl⟩
theorem shw_489 (G : va_G) (a0 a1 a2 a3 : ClassId) (n0 : Nat) (em mi ic : Nat) : oc_ML (VV G a0 a1 a2 a3 n0) "java/lang/String" 335 yJ0_coder_7d493 := Or.inl tw_570
theorem shw_490 (G : va_G) (a0 a1 a2 a3 : ClassId) (n0 : Nat) (em mi ic : Nat) : oc_LF (VV G a0 a1 a2 a3 n0) "java/lang/String" 9 0 0 := ⟨(RJ0, TJ0, 4), rfl, by decide, "java/lang/String", Or.inl rfl, Or.inl tw_629⟩
theorem shw_491 (G : va_G) (a0 a1 a2 a3 : ClassId) (n0 : Nat) (em mi ic : Nat) : oc_LP (VV G a0 a1 a2 a3 n0) "java/util/AbstractList" 7 4 0 := ⟨(RJx4a65c, TJx4a65c, 3), rfl, by decide, "java/util/AbstractList", Or.inl rfl, rfl, Or.inl tw_131⟩
theorem shw_492 (G : va_G) (a0 a1 a2 a3 : ClassId) (n0 : Nat) (em mi ic : Nat) : oc_IZ (VV G a0 a1 a2 a3 n0) (DD em mi ic) 195 0 := oc_iz (ce_195 G a0 a1 a2 a3 n0 em mi ic) (hh195 em mi ic) (mn195 em mi ic) (rt_195 em mi ic) rfl tw_122
theorem shw_493 (G : va_G) (a0 a1 a2 a3 : ClassId) (n0 : Nat) (em mi ic : Nat) : oc_ML (VV G a0 a1 a2 a3 n0) "java/util/AbstractList" 1 yJxa1e45_init_da8c8 := Or.inl tw_121
theorem shw_494 (G : va_G) (a0 a1 a2 a3 : ClassId) (n0 : Nat) (em mi ic : Nat) : oc_VZ (VV G a0 a1 a2 a3 n0) (DD em mi ic) 196 0 4 := oc_vz (ce_196 G a0 a1 a2 a3 n0 em mi ic) (hh196 em mi ic) (mn196 em mi ic) tw_937 tw_9 ⟨(RJx4a65c, TJx4a65c, 3), rfl, rfl⟩
theorem shw_495 (G : va_G) (a0 a1 a2 a3 : ClassId) (n0 : Nat) (em mi ic : Nat) : oc_ML (VV G a0 a1 a2 a3 n0) "java/util/ArrayList" 129 yJx4a65c_grow_d5877 := Or.inl tw_935
theorem shw_496 (G : va_G) (a0 a1 a2 a3 : ClassId) (n0 : Nat) (em mi ic : Nat) : oc_LP (VV G a0 a1 a2 a3 n0) "java/util/ArrayList" 48 4 2 := ⟨(RJx4a65c, TJx4a65c, 3), rfl, by decide, "java/util/ArrayList", Or.inl rfl, rfl, Or.inl tw_130⟩
theorem shw_497 (G : va_G) (a0 a1 a2 a3 : ClassId) (n0 : Nat) (em mi ic : Nat) : oc_LP (VV G a0 a1 a2 a3 n0) "Twelvehundred$Hall" 13 7 2 := ⟨(RX2, TX2, 3), rfl, by decide, "Twelvehundred$Hall", Or.inl rfl, rfl, Or.inl tw_1003⟩
theorem shw_498 (G : va_G) (a0 a1 a2 a3 : ClassId) (n0 : Nat) (em mi ic : Nat) : oc_ML (VV G a0 a1 a2 a3 n0) "Twelvehundred$Asking" 30 yX7_clear := Or.inl tw_1017
theorem shw_499 (G : va_G) (a0 a1 a2 a3 : ClassId) (n0 : Nat) (em mi ic : Nat) : oc_LF (VV G a0 a1 a2 a3 n0) "Twelvehundred$Asking" 26 5 2 := ⟨(RX0, TX0, 5), rfl, by decide, "Twelvehundred$Asking", Or.inl rfl, Or.inl tw_189⟩
theorem shw_500 (G : va_G) (a0 a1 a2 a3 : ClassId) (n0 : Nat) (em mi ic : Nat) : oc_LF (VV G a0 a1 a2 a3 n0) "Twelvehundred$Asking" 9 5 3 := ⟨(RX0, TX0, 5), rfl, by decide, "Twelvehundred$Asking", Or.inl rfl, Or.inl tw_190⟩
theorem shw_501 (G : va_G) (a0 a1 a2 a3 : ClassId) (n0 : Nat) (em mi ic : Nat) : oc_VZ (VV G a0 a1 a2 a3 n0) (DD em mi ic) 197 0 5 := oc_vz (ce_197 G a0 a1 a2 a3 n0 em mi ic) (hh197 em mi ic) (mn197 em mi ic) tw_1020 tw_11 ⟨(RX0, TX0, 5), rfl, rfl⟩
theorem shw_502 (G : va_G) (a0 a1 a2 a3 : ClassId) (n0 : Nat) (em mi ic : Nat) : oc_ML (VV G a0 a1 a2 a3 n0) "Twelvehundred$Asking" 35 yX0_askNext := Or.inl tw_1018
theorem shw_503 (G : va_G) (a0 a1 a2 a3 : ClassId) (n0 : Nat) (em mi ic : Nat) : oc_SZ (VV G a0 a1 a2 a3 n0) (DD em mi ic) 198 3 := oc_sz (ce_198 G a0 a1 a2 a3 n0 em mi ic) (hh198 em mi ic) (mn198 em mi ic) tw_330
theorem shw_504 (G : va_G) (a0 a1 a2 a3 : ClassId) (n0 : Nat) (em mi ic : Nat) : oc_ML (VV G a0 a1 a2 a3 n0) "java/util/Objects" 105 yJ3_checkIndex_8e157 := Or.inl tw_329
theorem shw_505 (G : va_G) (a0 a1 a2 a3 : ClassId) (n0 : Nat) (em mi ic : Nat) : oc_LP (VV G a0 a1 a2 a3 n0) "Twelvehundred$Household" 9 8 4 := ⟨(RX3, TX3, 5), rfl, by decide, "Twelvehundred$Household", Or.inl rfl, rfl, Or.inl tw_1082⟩
theorem shw_506 (G : va_G) (a0 a1 a2 a3 : ClassId) (n0 : Nat) (em mi ic : Nat) : oc_LF (VV G a0 a1 a2 a3 n0) "Twelvehundred$River" 30 15 1 := ⟨(RX10, TX10, 3), rfl, by decide, "Twelvehundred$Street", Or.inl rfl, Or.inr ⟨_, nw_915⟩⟩
theorem shw_507 (G : va_G) (a0 a1 a2 a3 : ClassId) (n0 : Nat) (em mi ic : Nat) : oc_LF (VV G a0 a1 a2 a3 n0) "Twelvehundred$River" 9 14 0 := ⟨(RX9, TX9, 3), rfl, by decide, "Twelvehundred$River", Or.inl rfl, Or.inl tw_100⟩
theorem shw_508 (G : va_G) (a0 a1 a2 a3 : ClassId) (n0 : Nat) (em mi ic : Nat) : oc_LF (VV G a0 a1 a2 a3 n0) "Twelvehundred$River" 18 14 2 := ⟨(RX9, TX9, 3), rfl, by decide, "Twelvehundred$River", Or.inl rfl, Or.inl tw_104⟩
theorem shw_509 (G : va_G) (a0 a1 a2 a3 : ClassId) (n0 : Nat) (em mi ic : Nat) : oc_ML (VV G a0 a1 a2 a3 n0) "Twelvehundred$River" 27 yJ9_max_7cf53 := Or.inl tw_1136
theorem shw_510 (G : va_G) (a0 a1 a2 a3 : ClassId) (n0 : Nat) (em mi ic : Nat) : oc_ML (VV G a0 a1 a2 a3 n0) "Twelvehundred$River" 21 yJ9_min_7cf53 := Or.inl tw_1135
theorem shw_511 (G : va_G) (a0 a1 a2 a3 : ClassId) (n0 : Nat) (em mi ic : Nat) : oc_LF (VV G a0 a1 a2 a3 n0) "Twelvehundred$River" 15 14 1 := ⟨(RX9, TX9, 3), rfl, by decide, "Twelvehundred$River", Or.inl rfl, Or.inl tw_102⟩
theorem shw_512 (G : va_G) (a0 a1 a2 a3 : ClassId) (n0 : Nat) (em mi ic : Nat) : oc_LP (VV G a0 a1 a2 a3 n0) "Twelvehundred$Rescue" 38 8 4 := ⟨(RX3, TX3, 5), rfl, by decide, "Twelvehundred$Household", Or.inl rfl, rfl, Or.inr ⟨_, nw_1083⟩⟩
theorem shw_513 (G : va_G) (a0 a1 a2 a3 : ClassId) (n0 : Nat) (em mi ic : Nat) : oc_ML (VV G a0 a1 a2 a3 n0) "Twelvehundred$Rescue" 49 yX9_floods := Or.inl tw_1141
theorem shw_514 (G : va_G) (a0 a1 a2 a3 : ClassId) (n0 : Nat) (em mi ic : Nat) : oc_LF (VV G a0 a1 a2 a3 n0) "Twelvehundred$Rescue" 45 8 1 := ⟨(RX3, TX3, 5), rfl, by decide, "Twelvehundred$Household", Or.inl rfl, Or.inr ⟨_, nw_1075⟩⟩
theorem shw_515 (G : va_G) (a0 a1 a2 a3 : ClassId) (n0 : Nat) (em mi ic : Nat) : oc_LF (VV G a0 a1 a2 a3 n0) "Twelvehundred$Rescue" 18 13 0 := ⟨(RX8, TX8, 4), rfl, by decide, "Twelvehundred$Rescue", Or.inl rfl, Or.inl tw_166⟩
theorem shw_516 (G : va_G) (a0 a1 a2 a3 : ClassId) (n0 : Nat) (em mi ic : Nat) : oc_LF (VV G a0 a1 a2 a3 n0) "Twelvehundred$Rescue" 38 8 4 := ⟨(RX3, TX3, 5), rfl, by decide, "Twelvehundred$Household", Or.inl rfl, Or.inr ⟨_, nw_1083⟩⟩
theorem shw_517 (G : va_G) (a0 a1 a2 a3 : ClassId) (n0 : Nat) (em mi ic : Nat) : oc_LP (VV G a0 a1 a2 a3 n0) "Twelvehundred$Larder" 34 11 2 := ⟨(RX6, TX6, 3), rfl, by decide, "Twelvehundred$Lot", Or.inl rfl, rfl, Or.inr ⟨_, nw_1165⟩⟩
theorem shw_518 (G : va_G) (a0 a1 a2 a3 : ClassId) (n0 : Nat) (em mi ic : Nat) : oc_LF (VV G a0 a1 a2 a3 n0) "Twelvehundred$Larder" 49 11 1 := ⟨(RX6, TX6, 3), rfl, by decide, "Twelvehundred$Lot", Or.inl rfl, Or.inr ⟨_, nw_1162⟩⟩
theorem shw_519 (G : va_G) (a0 a1 a2 a3 : ClassId) (n0 : Nat) (em mi ic : Nat) : oc_LP (VV G a0 a1 a2 a3 n0) "Twelvehundred$Lot" 16 11 2 := ⟨(RX6, TX6, 3), rfl, by decide, "Twelvehundred$Lot", Or.inl rfl, rfl, Or.inl tw_1164⟩
theorem shw_520 (G : va_G) (a0 a1 a2 a3 : ClassId) (n0 : Nat) (em mi ic : Nat) : oc_ML (VV G a0 a1 a2 a3 n0) "Twelvehundred$Larder" 39 yJ9_min_7cf53 := Or.inl tw_1190
theorem shw_521 (G : va_G) (a0 a1 a2 a3 : ClassId) (n0 : Nat) (em mi ic : Nat) : oc_VZ (VV G a0 a1 a2 a3 n0) (DD em mi ic) 199 0 9 := oc_vz (ce_199 G a0 a1 a2 a3 n0 em mi ic) (hh199 em mi ic) (mn199 em mi ic) tw_1188 tw_15 ⟨(RX4, TX4, 4), rfl, rfl⟩
theorem shw_522 (G : va_G) (a0 a1 a2 a3 : ClassId) (n0 : Nat) (em mi ic : Nat) : oc_ML (VV G a0 a1 a2 a3 n0) "Twelvehundred$Larder" 30 yX4_nextToSpoil := Or.inl tw_1186
theorem shw_523 (G : va_G) (a0 a1 a2 a3 : ClassId) (n0 : Nat) (em mi ic : Nat) : oc_LF (VV G a0 a1 a2 a3 n0) "Twelvehundred$Larder" 23 9 3 := ⟨(RX4, TX4, 4), rfl, by decide, "Twelvehundred$Larder", Or.inl rfl, Or.inl tw_219⟩
theorem shw_524 (G : va_G) (a0 a1 a2 a3 : ClassId) (n0 : Nat) (em mi ic : Nat) : oc_LP (VV G a0 a1 a2 a3 n0) "java/util/ArrayList$Itr" 22 3 2 := ⟨(RJx35411, TJx35411, 4), rfl, by decide, "java/util/ArrayList$Itr", Or.inl rfl, rfl, Or.inl tw_1437⟩
theorem shw_525 (G : va_G) (a0 a1 a2 a3 : ClassId) (n0 : Nat) (em mi ic : Nat) : oc_LF (VV G a0 a1 a2 a3 n0) "java/util/ArrayList$Itr" 17 4 0 := ⟨(RJx4a65c, TJx4a65c, 3), rfl, by decide, "java/util/ArrayList", Or.inr tw_133, Or.inl tw_132⟩
theorem shw_526 (G : va_G) (a0 a1 a2 a3 : ClassId) (n0 : Nat) (em mi ic : Nat) : oc_LF (VV G a0 a1 a2 a3 n0) "java/util/ArrayList$Itr" 22 3 2 := ⟨(RJx35411, TJx35411, 4), rfl, by decide, "java/util/ArrayList$Itr", Or.inl rfl, Or.inl tw_1437⟩
theorem shw_527 (G : va_G) (a0 a1 a2 a3 : ClassId) (n0 : Nat) (em mi ic : Nat) : oc_LP (VV G a0 a1 a2 a3 n0) "Twelvehundred$Listed" 13 10 2 := ⟨(RX5, TX5, 3), rfl, by decide, "Twelvehundred$Listed", Or.inl rfl, rfl, Or.inl tw_1215⟩
theorem shw_528 (G : va_G) (a0 a1 a2 a3 : ClassId) (n0 : Nat) (em mi ic : Nat) : oc_LP (VV G a0 a1 a2 a3 n0) "Twelvehundred$Listed" 7 10 1 := ⟨(RX5, TX5, 3), rfl, by decide, "Twelvehundred$Listed", Or.inl rfl, rfl, Or.inl tw_1212⟩
theorem shw_529 (G : va_G) (a0 a1 a2 a3 : ClassId) (n0 : Nat) (em mi ic : Nat) : oc_IZ (VV G a0 a1 a2 a3 n0) (DD em mi ic) 200 0 := oc_iz (ce_200 G a0 a1 a2 a3 n0 em mi ic) (hh200 em mi ic) (mn200 em mi ic) (rt_200 em mi ic) rfl tw_1500
theorem shw_530 (G : va_G) (a0 a1 a2 a3 : ClassId) (n0 : Nat) (em mi ic : Nat) : oc_ML (VV G a0 a1 a2 a3 n0) "java/lang/Integer" 202 yJxd2413_init_da8c8 := Or.inl tw_1499
theorem shw_531 (G : va_G) (a0 a1 a2 a3 : ClassId) (n0 : Nat) (em mi ic : Nat) : oc_LF (VV G a0 a1 a2 a3 n0) "java/lang/Integer" 205 2 0 := ⟨(RJ6, TJ6, 1), rfl, by decide, "java/lang/Integer", Or.inl rfl, Or.inl tw_1503⟩
theorem shw_532 (G : va_G) (a0 a1 a2 a3 : ClassId) (n0 : Nat) (em mi ic : Nat) : oc_ML (VV G a0 a1 a2 a3 n0) "Twelvehundred$River" 35 yX9_floods := Or.inl tw_666
theorem shw_533 (G : va_G) (a0 a1 a2 a3 : ClassId) (n0 : Nat) (em mi ic : Nat) : oc_ML (VV G a0 a1 a2 a3 n0) "Twelvehundred$Rescue" 41 yX11_oneIf := Or.inr ⟨_, nw_670⟩
theorem shw_534 (G : va_G) (a0 a1 a2 a3 : ClassId) (n0 : Nat) (em mi ic : Nat) : oc_LF (VV G a0 a1 a2 a3 n0) "Twelvehundred$Placing" 24 8 0 := ⟨(RX3, TX3, 5), rfl, by decide, "Twelvehundred$Household", Or.inl rfl, Or.inr ⟨_, nw_1072⟩⟩
theorem shw_535 (G : va_G) (a0 a1 a2 a3 : ClassId) (n0 : Nat) (em mi ic : Nat) : oc_LP (VV G a0 a1 a2 a3 n0) "java/lang/AbstractStringBuilder" 22 1 1 := ⟨(RJ4, TJ4, 4), rfl, by decide, "java/lang/AbstractStringBuilder", Or.inl rfl, rfl, Or.inl tw_305⟩
theorem shw_536 (G : va_G) (a0 a1 a2 a3 : ClassId) (n0 : Nat) (em mi ic : Nat) : oc_LP (VV G a0 a1 a2 a3 n0) "java/lang/AbstractStringBuilder" 15 1 0 := ⟨(RJ4, TJ4, 4), rfl, by decide, "java/lang/AbstractStringBuilder", Or.inl rfl, rfl, Or.inl tw_304⟩
theorem shw_537 (G : va_G) (a0 a1 a2 a3 : ClassId) (n0 : Nat) (em mi ic : Nat) : oc_LP (VV G a0 a1 a2 a3 n0) "java/lang/AbstractStringBuilder" 79 1 3 := ⟨(RJ4, TJ4, 4), rfl, by decide, "java/lang/AbstractStringBuilder", Or.inl rfl, rfl, Or.inl tw_307⟩
theorem shw_538 (G : va_G) (a0 a1 a2 a3 : ClassId) (n0 : Nat) (em mi ic : Nat) : oc_LF (VV G a0 a1 a2 a3 n0) "java/lang/AbstractStringBuilder" 79 1 3 := ⟨(RJ4, TJ4, 4), rfl, by decide, "java/lang/AbstractStringBuilder", Or.inl rfl, Or.inl tw_307⟩
theorem shw_539 (G : va_G) (a0 a1 a2 a3 : ClassId) (n0 : Nat) (em mi ic : Nat) : oc_LF (VV G a0 a1 a2 a3 n0) "java/lang/AbstractStringBuilder" 15 1 0 := ⟨(RJ4, TJ4, 4), rfl, by decide, "java/lang/AbstractStringBuilder", Or.inl rfl, Or.inl tw_304⟩
theorem shw_540 (G : va_G) (a0 a1 a2 a3 : ClassId) (n0 : Nat) (em mi ic : Nat) : oc_SZ (VV G a0 a1 a2 a3 n0) (DD em mi ic) 203 1 := oc_sz (ce_203 G a0 a1 a2 a3 n0 em mi ic) (hh203 em mi ic) (mn203 em mi ic) tw_393
theorem shw_541 (G : va_G) (a0 a1 a2 a3 : ClassId) (n0 : Nat) (em mi ic : Nat) : oc_ML (VV G a0 a1 a2 a3 n0) "java/lang/AbstractStringBuilder" 191 yJ1_canEncode_fc78d := Or.inl tw_392
theorem shw_542 (G : va_G) (a0 a1 a2 a3 : ClassId) (n0 : Nat) (em mi ic : Nat) : oc_IZ (VV G a0 a1 a2 a3 n0) (DD em mi ic) 204 2 := oc_iz (ce_204 G a0 a1 a2 a3 n0 em mi ic) (hh204 em mi ic) (mn204 em mi ic) (rt_204 em mi ic) rfl tw_448
theorem shw_543 (G : va_G) (a0 a1 a2 a3 : ClassId) (n0 : Nat) (em mi ic : Nat) : oc_ML (VV G a0 a1 a2 a3 n0) "java/lang/String" 489 yJ0_init_db425 := Or.inl tw_447
theorem shw_544 (G : va_G) (a0 a1 a2 a3 : ClassId) (n0 : Nat) (em mi ic : Nat) : oc_VZ (VV G a0 a1 a2 a3 n0) (DD em mi ic) 205 2 13 := oc_vz (ce_205 G a0 a1 a2 a3 n0 em mi ic) (hh205 em mi ic) (mn205 em mi ic) tw_660 tw_2 ⟨(RX8, TX8, 4), rfl, rfl⟩
theorem shw_545 (G : va_G) (a0 a1 a2 a3 : ClassId) (n0 : Nat) (em mi ic : Nat) : oc_ML (VV G a0 a1 a2 a3 n0) "Twelvehundred$Rescue" 62 yX8_canReachAsLateAs := Or.inl tw_658
theorem shw_546 (G : va_G) (a0 a1 a2 a3 : ClassId) (n0 : Nat) (em mi ic : Nat) : oc_VZ (VV G a0 a1 a2 a3 n0) (DD em mi ic) 206 2 12 := oc_vz (ce_206 G a0 a1 a2 a3 n0 em mi ic) (hh206 em mi ic) (mn206 em mi ic) tw_720 tw_4 ⟨(RX7, TX7, 3), rfl, rfl⟩
theorem shw_547 (G : va_G) (a0 a1 a2 a3 : ClassId) (n0 : Nat) (em mi ic : Nat) : oc_ML (VV G a0 a1 a2 a3 n0) "Twelvehundred$Placing" 86 yX7_couldOust := Or.inl tw_718
theorem shw_548 (G : va_G) (a0 a1 a2 a3 : ClassId) (n0 : Nat) (em mi ic : Nat) : oc_VZ (VV G a0 a1 a2 a3 n0) (DD em mi ic) 207 2 8 := oc_vz (ce_207 G a0 a1 a2 a3 n0 em mi ic) (hh207 em mi ic) (mn207 em mi ic) tw_724 tw_725 ⟨(RX3, TX3, 5), rfl, rfl⟩
theorem shw_549 (G : va_G) (a0 a1 a2 a3 : ClassId) (n0 : Nat) (em mi ic : Nat) : oc_ML (VV G a0 a1 a2 a3 n0) "Twelvehundred$Placing" 78 yX3_wouldRather := Or.inl tw_723
theorem shw_550 (G : va_G) (a0 a1 a2 a3 : ClassId) (n0 : Nat) (em mi ic : Nat) : oc_ML (VV G a0 a1 a2 a3 n0) "Twelvehundred$Placing" 63 yX7_hallOf := Or.inl tw_722
theorem shw_551 (G : va_G) (a0 a1 a2 a3 : ClassId) (n0 : Nat) (em mi ic : Nat) : oc_VZ (VV G a0 a1 a2 a3 n0) (DD em mi ic) 208 2 19 := oc_vz (ce_208 G a0 a1 a2 a3 n0 em mi ic) (hh208 em mi ic) (mn208 em mi ic) tw_1582 tw_31 ⟨(RX14, TX14, 18), rfl, rfl⟩
theorem shw_552 (G : va_G) (a0 a1 a2 a3 : ClassId) (n0 : Nat) (em mi ic : Nat) : oc_ML (VV G a0 a1 a2 a3 n0) "TwelvehundredModel" 183 yX14_miles := Or.inl tw_1580
theorem shw_553 (G : va_G) (a0 a1 a2 a3 : ClassId) (n0 : Nat) (em mi ic : Nat) : oc_ML (VV G a0 a1 a2 a3 n0) "Twelvehundred$Bulletin" 55 yX1_isNear := Or.inl tw_779
theorem shw_554 (G : va_G) (a0 a1 a2 a3 : ClassId) (n0 : Nat) (em mi ic : Nat) : oc_LF (VV G a0 a1 a2 a3 n0) "Twelvehundred$Bulletin" 52 10 0 := ⟨(RX5, TX5, 3), rfl, by decide, "Twelvehundred$Listed", Or.inl rfl, Or.inr ⟨_, nw_1211⟩⟩
theorem shw_555 (G : va_G) (a0 a1 a2 a3 : ClassId) (n0 : Nat) (em mi ic : Nat) : oc_LF (VV G a0 a1 a2 a3 n0) "java/lang/String" 15 0 1 := ⟨(RJ0, TJ0, 4), rfl, by decide, "java/lang/String", Or.inl rfl, Or.inl tw_630⟩
theorem shw_556 (G : va_G) (a0 a1 a2 a3 : ClassId) (n0 : Nat) (em mi ic : Nat) : oc_VZ (VV G a0 a1 a2 a3 n0) (DD em mi ic) 209 1 4 := oc_vz (ce_209 G a0 a1 a2 a3 n0 em mi ic) (hh209 em mi ic) (mn209 em mi ic) tw_941 tw_10 ⟨(RJx4a65c, TJx4a65c, 3), rfl, rfl⟩
theorem shw_557 (G : va_G) (a0 a1 a2 a3 : ClassId) (n0 : Nat) (em mi ic : Nat) : oc_ML (VV G a0 a1 a2 a3 n0) "java/util/ArrayList" 69 yJx4a65c_grow_92f84 := Or.inl tw_939
theorem shw_558 (G : va_G) (a0 a1 a2 a3 : ClassId) (n0 : Nat) (em mi ic : Nat) : oc_VZ (VV G a0 a1 a2 a3 n0) (DD em mi ic) 211 2 5 := oc_vz (ce_211 G a0 a1 a2 a3 n0 em mi ic) (hh211 em mi ic) (mn211 em mi ic) tw_1039 tw_14 ⟨(RX0, TX0, 5), rfl, rfl⟩
theorem shw_559 (G : va_G) (a0 a1 a2 a3 : ClassId) (n0 : Nat) (em mi ic : Nat) : oc_ML (VV G a0 a1 a2 a3 n0) "Twelvehundred$Asking" 60 yX0_ask := Or.inl tw_1037
theorem shw_560 (G : va_G) (a0 a1 a2 a3 : ClassId) (n0 : Nat) (em mi ic : Nat) : oc_VZ (VV G a0 a1 a2 a3 n0) (DD em mi ic) 210 1 5 := oc_vz (ce_210 G a0 a1 a2 a3 n0 em mi ic) (hh210 em mi ic) (mn210 em mi ic) tw_1028 tw_12 ⟨(RX0, TX0, 5), rfl, rfl⟩
theorem shw_561 (G : va_G) (a0 a1 a2 a3 : ClassId) (n0 : Nat) (em mi ic : Nat) : oc_ML (VV G a0 a1 a2 a3 n0) "Twelvehundred$Asking" 57 yX0_favouriteNotAsked := Or.inl tw_1026
theorem shw_562 (G : va_G) (a0 a1 a2 a3 : ClassId) (n0 : Nat) (em mi ic : Nat) : oc_ML (VV G a0 a1 a2 a3 n0) "Twelvehundred$Asking" 53 yX7_hallOf := Or.inl tw_1025
theorem shw_563 (G : va_G) (a0 a1 a2 a3 : ClassId) (n0 : Nat) (em mi ic : Nat) : oc_LF (VV G a0 a1 a2 a3 n0) "Twelvehundred$Asking" 50 8 4 := ⟨(RX3, TX3, 5), rfl, by decide, "Twelvehundred$Household", Or.inl rfl, Or.inr ⟨_, nw_1084⟩⟩
theorem shw_564 (G : va_G) (a0 a1 a2 a3 : ClassId) (n0 : Nat) (em mi ic : Nat) : oc_CO (VV G a0 a1 a2 a3 n0) (DD em mi ic) "Twelvehundred$Asking" 48 8 := ⟨"Twelvehundred$Household", tw_1024, castO 8 rfl, castA 8 rfl⟩
theorem shw_565 (G : va_G) (a0 a1 a2 a3 : ClassId) (n0 : Nat) (em mi ic : Nat) : oc_ML (VV G a0 a1 a2 a3 n0) "Twelvehundred$Asking" 44 yJx4a65c_get_915e3 := Or.inl tw_1023
theorem shw_566 (G : va_G) (a0 a1 a2 a3 : ClassId) (n0 : Nat) (em mi ic : Nat) : oc_LF (VV G a0 a1 a2 a3 n0) "Twelvehundred$Asking" 19 5 0 := ⟨(RX0, TX0, 5), rfl, by decide, "Twelvehundred$Asking", Or.inl rfl, Or.inl tw_187⟩
theorem shw_567 (G : va_G) (a0 a1 a2 a3 : ClassId) (n0 : Nat) (em mi ic : Nat) : oc_ML (VV G a0 a1 a2 a3 n0) "Twelvehundred$Asking" 38 yJx4a65c_size_8abf5 := Or.inl tw_1022
theorem shw_568 (G : va_G) (a0 a1 a2 a3 : ClassId) (n0 : Nat) (em mi ic : Nat) : oc_LF (VV G a0 a1 a2 a3 n0) "java/lang/AbstractStringBuilder" 22 1 1 := ⟨(RJ4, TJ4, 4), rfl, by decide, "java/lang/AbstractStringBuilder", Or.inl rfl, Or.inl tw_305⟩
theorem shw_569 (G : va_G) (a0 a1 a2 a3 : ClassId) (n0 : Nat) (em mi ic : Nat) : oc_SZ (VV G a0 a1 a2 a3 n0) (DD em mi ic) 214 3 := oc_sz (ce_214 G a0 a1 a2 a3 n0 em mi ic) (hh214 em mi ic) (mn214 em mi ic) tw_466
theorem shw_570 (G : va_G) (a0 a1 a2 a3 : ClassId) (n0 : Nat) (em mi ic : Nat) : oc_ML (VV G a0 a1 a2 a3 n0) "java/lang/String" 54 yJ7_copyOfRange_39247 := Or.inl tw_465
theorem shw_571 (G : va_G) (a0 a1 a2 a3 : ClassId) (n0 : Nat) (em mi ic : Nat) : oc_LF (VV G a0 a1 a2 a3 n0) "java/lang/String" 1048 1 2 := ⟨(RJ4, TJ4, 4), rfl, by decide, "java/lang/AbstractStringBuilder", Or.inl rfl, Or.inl tw_306⟩
theorem shw_572 (G : va_G) (a0 a1 a2 a3 : ClassId) (n0 : Nat) (em mi ic : Nat) : oc_ML (VV G a0 a1 a2 a3 n0) "Twelvehundred$Rescue" 66 yX9_limitOf := Or.inl tw_662
theorem shw_573 (G : va_G) (a0 a1 a2 a3 : ClassId) (n0 : Nat) (em mi ic : Nat) : oc_LF (VV G a0 a1 a2 a3 n0) "Twelvehundred$Rescue" 9 13 2 := ⟨(RX8, TX8, 4), rfl, by decide, "Twelvehundred$Rescue", Or.inl rfl, Or.inl tw_168⟩
theorem shw_574 (G : va_G) (a0 a1 a2 a3 : ClassId) (n0 : Nat) (em mi ic : Nat) : oc_VZ (VV G a0 a1 a2 a3 n0) (DD em mi ic) 215 1 8 := oc_vz (ce_215 G a0 a1 a2 a3 n0 em mi ic) (hh215 em mi ic) (mn215 em mi ic) tw_731 tw_732 ⟨(RX3, TX3, 5), rfl, rfl⟩
theorem shw_575 (G : va_G) (a0 a1 a2 a3 : ClassId) (n0 : Nat) (em mi ic : Nat) : oc_ML (VV G a0 a1 a2 a3 n0) "Twelvehundred$Placing" 67 yX3_goesBefore := Or.inl tw_730
theorem shw_576 (G : va_G) (a0 a1 a2 a3 : ClassId) (n0 : Nat) (em mi ic : Nat) : oc_ML (VV G a0 a1 a2 a3 n0) "Twelvehundred$Household" 37 yJ9_abs_0f7a4 := Or.inl tw_727
theorem shw_577 (G : va_G) (a0 a1 a2 a3 : ClassId) (n0 : Nat) (em mi ic : Nat) : oc_LF (VV G a0 a1 a2 a3 n0) "Twelvehundred$Household" 34 15 2 := ⟨(RX10, TX10, 3), rfl, by decide, "Twelvehundred$Street", Or.inl rfl, Or.inr ⟨_, nw_918⟩⟩
theorem shw_578 (G : va_G) (a0 a1 a2 a3 : ClassId) (n0 : Nat) (em mi ic : Nat) : oc_LF (VV G a0 a1 a2 a3 n0) "Twelvehundred$Household" 18 8 1 := ⟨(RX3, TX3, 5), rfl, by decide, "Twelvehundred$Household", Or.inl rfl, Or.inl tw_1074⟩
theorem shw_579 (G : va_G) (a0 a1 a2 a3 : ClassId) (n0 : Nat) (em mi ic : Nat) : oc_LF (VV G a0 a1 a2 a3 n0) "Twelvehundred$Household" 29 7 1 := ⟨(RX2, TX2, 3), rfl, by decide, "Twelvehundred$Hall", Or.inl rfl, Or.inr ⟨_, nw_1001⟩⟩
theorem shw_580 (G : va_G) (a0 a1 a2 a3 : ClassId) (n0 : Nat) (em mi ic : Nat) : oc_LF (VV G a0 a1 a2 a3 n0) "Twelvehundred$Household" 43 7 0 := ⟨(RX2, TX2, 3), rfl, by decide, "Twelvehundred$Hall", Or.inl rfl, Or.inr ⟨_, nw_997⟩⟩
theorem shw_581 (G : va_G) (a0 a1 a2 a3 : ClassId) (n0 : Nat) (em mi ic : Nat) : oc_SZ (VV G a0 a1 a2 a3 n0) (DD em mi ic) 217 2 := oc_sz (ce_217 G a0 a1 a2 a3 n0 em mi ic) (hh217 em mi ic) (mn217 em mi ic) tw_945
theorem shw_582 (G : va_G) (a0 a1 a2 a3 : ClassId) (n0 : Nat) (em mi ic : Nat) : oc_ML (VV G a0 a1 a2 a3 n0) "java/util/ArrayList" 66 yJ7_copyOf_1904c := Or.inl tw_944
theorem shw_583 (G : va_G) (a0 a1 a2 a3 : ClassId) (n0 : Nat) (em mi ic : Nat) : oc_SZ (VV G a0 a1 a2 a3 n0) (DD em mi ic) 216 3 := oc_sz (ce_216 G a0 a1 a2 a3 n0 em mi ic) (hh216 em mi ic) (mn216 em mi ic) tw_361
theorem shw_584 (G : va_G) (a0 a1 a2 a3 : ClassId) (n0 : Nat) (em mi ic : Nat) : oc_ML (VV G a0 a1 a2 a3 n0) "java/util/ArrayList" 73 yJ8_newLength_cabcc := Or.inl tw_943
theorem shw_585 (G : va_G) (a0 a1 a2 a3 : ClassId) (n0 : Nat) (em mi ic : Nat) : oc_ML (VV G a0 a1 a2 a3 n0) "java/util/ArrayList" 79 yJ9_max_7cf53 := Or.inl tw_980
theorem shw_586 (G : va_G) (a0 a1 a2 a3 : ClassId) (n0 : Nat) (em mi ic : Nat) : oc_ML (VV G a0 a1 a2 a3 n0) "Twelvehundred$Asking" 70 yX3_wouldRather := Or.inl tw_1036
theorem shw_587 (G : va_G) (a0 a1 a2 a3 : ClassId) (n0 : Nat) (em mi ic : Nat) : oc_VZ (VV G a0 a1 a2 a3 n0) (DD em mi ic) 218 2 5 := oc_vz (ce_218 G a0 a1 a2 a3 n0 em mi ic) (hh218 em mi ic) (mn218 em mi ic) tw_1033 tw_13 ⟨(RX0, TX0, 5), rfl, rfl⟩
theorem shw_588 (G : va_G) (a0 a1 a2 a3 : ClassId) (n0 : Nat) (em mi ic : Nat) : oc_ML (VV G a0 a1 a2 a3 n0) "Twelvehundred$Asking" 66 yX0_hasAsked := Or.inl tw_1031
theorem shw_589 (G : va_G) (a0 a1 a2 a3 : ClassId) (n0 : Nat) (em mi ic : Nat) : oc_CO (VV G a0 a1 a2 a3 n0) (DD em mi ic) "Twelvehundred$Asking" 64 7 := ⟨"Twelvehundred$Hall", tw_1030, castO 7 rfl, castA 7 rfl⟩
theorem shw_590 (G : va_G) (a0 a1 a2 a3 : ClassId) (n0 : Nat) (em mi ic : Nat) : oc_LF (VV G a0 a1 a2 a3 n0) "Twelvehundred$Asking" 23 5 1 := ⟨(RX0, TX0, 5), rfl, by decide, "Twelvehundred$Asking", Or.inl rfl, Or.inl tw_188⟩
theorem shw_591 (G : va_G) (a0 a1 a2 a3 : ClassId) (n0 : Nat) (em mi ic : Nat) : oc_LF (VV G a0 a1 a2 a3 n0) "Twelvehundred$Asking" 77 7 0 := ⟨(RX2, TX2, 3), rfl, by decide, "Twelvehundred$Hall", Or.inl rfl, Or.inr ⟨_, nw_998⟩⟩
theorem shw_592 (G : va_G) (a0 a1 a2 a3 : ClassId) (n0 : Nat) (em mi ic : Nat) : oc_LF (VV G a0 a1 a2 a3 n0) "Twelvehundred$Asking" 74 8 0 := ⟨(RX3, TX3, 5), rfl, by decide, "Twelvehundred$Household", Or.inl rfl, Or.inr ⟨_, nw_1073⟩⟩
theorem shw_593 (G : va_G) (a0 a1 a2 a3 : ClassId) (n0 : Nat) (em mi ic : Nat) : oc_LF (VV G a0 a1 a2 a3 n0) "Twelvehundred$Asking" 15 5 4 := ⟨(RX0, TX0, 5), rfl, by decide, "Twelvehundred$Asking", Or.inl rfl, Or.inl tw_191⟩
theorem shw_594 (G : va_G) (a0 a1 a2 a3 : ClassId) (n0 : Nat) (em mi ic : Nat) : oc_ML (VV G a0 a1 a2 a3 n0) "Twelvehundred$Asking" 86 yX7_put := Or.inl tw_1042
theorem shw_595 (G : va_G) (a0 a1 a2 a3 : ClassId) (n0 : Nat) (em mi ic : Nat) : oc_ML (VV G a0 a1 a2 a3 n0) "Twelvehundred$Asking" 82 yX7_hasRoom := Or.inl tw_1041
theorem shw_596 (G : va_G) (a0 a1 a2 a3 : ClassId) (n0 : Nat) (em mi ic : Nat) : oc_ML (VV G a0 a1 a2 a3 n0) "Twelvehundred$Asking" 93 yX3_goesBefore := Or.inl tw_1047
theorem shw_597 (G : va_G) (a0 a1 a2 a3 : ClassId) (n0 : Nat) (em mi ic : Nat) : oc_VZ (VV G a0 a1 a2 a3 n0) (DD em mi ic) 219 1 12 := oc_vz (ce_219 G a0 a1 a2 a3 n0 em mi ic) (hh219 em mi ic) (mn219 em mi ic) tw_1044 tw_1045 ⟨(RX7, TX7, 3), rfl, rfl⟩
theorem shw_598 (G : va_G) (a0 a1 a2 a3 : ClassId) (n0 : Nat) (em mi ic : Nat) : oc_ML (VV G a0 a1 a2 a3 n0) "Twelvehundred$Asking" 89 yX7_leastOf := Or.inl tw_1043
theorem shw_599 (G : va_G) (a0 a1 a2 a3 : ClassId) (n0 : Nat) (em mi ic : Nat) : oc_SZ (VV G a0 a1 a2 a3 n0) (DD em mi ic) 221 3 := oc_sz (ce_221 G a0 a1 a2 a3 n0 em mi ic) (hh221 em mi ic) (mn221 em mi ic) tw_469
theorem shw_600 (G : va_G) (a0 a1 a2 a3 : ClassId) (n0 : Nat) (em mi ic : Nat) : oc_ML (VV G a0 a1 a2 a3 n0) "java/util/Arrays" 339 yJ7_copyOfRangeByte_39247 := Or.inl tw_468
theorem shw_601 (G : va_G) (a0 a1 a2 a3 : ClassId) (n0 : Nat) (em mi ic : Nat) : oc_LF (VV G a0 a1 a2 a3 n0) "Twelvehundred$Household" 25 8 3 := ⟨(RX3, TX3, 5), rfl, by decide, "Twelvehundred$Household", Or.inl rfl, Or.inl tw_1080⟩
theorem shw_602 (G : va_G) (a0 a1 a2 a3 : ClassId) (n0 : Nat) (em mi ic : Nat) : oc_LF (VV G a0 a1 a2 a3 n0) "Twelvehundred$Household" 22 8 2 := ⟨(RX3, TX3, 5), rfl, by decide, "Twelvehundred$Household", Or.inl rfl, Or.inl tw_1077⟩
theorem shw_603 (G : va_G) (a0 a1 a2 a3 : ClassId) (n0 : Nat) (em mi ic : Nat) : oc_LF (VV G a0 a1 a2 a3 n0) "Twelvehundred$Household" 15 8 0 := ⟨(RX3, TX3, 5), rfl, by decide, "Twelvehundred$Household", Or.inl rfl, Or.inl tw_1071⟩
theorem shw_604 (G : va_G) (a0 a1 a2 a3 : ClassId) (n0 : Nat) (em mi ic : Nat) : oc_ML (VV G a0 a1 a2 a3 n0) "jdk/internal/util/ArraysSupport" 194 yJ9_max_7cf53 := Or.inl tw_363
theorem shw_605 (G : va_G) (a0 a1 a2 a3 : ClassId) (n0 : Nat) (em mi ic : Nat) : oc_SZ (VV G a0 a1 a2 a3 n0) (DD em mi ic) 222 3 := oc_sz (ce_222 G a0 a1 a2 a3 n0 em mi ic) (hh222 em mi ic) (mn222 em mi ic) tw_975
theorem shw_606 (G : va_G) (a0 a1 a2 a3 : ClassId) (n0 : Nat) (em mi ic : Nat) : oc_ML (VV G a0 a1 a2 a3 n0) "java/util/Arrays" 300 yJ7_copyOf_6403c := Or.inl tw_974
theorem shw_607 (G : va_G) (a0 a1 a2 a3 : ClassId) (n0 : Nat) (em mi ic : Nat) : oc_ML (VV G a0 a1 a2 a3 n0) "Twelvehundred$Asking" 78 yX11_hasMember := Or.inr ⟨_, nw_1035⟩
theorem shw_608 (G : va_G) (a0 a1 a2 a3 : ClassId) (n0 : Nat) (em mi ic : Nat) : oc_ML (VV G a0 a1 a2 a3 n0) "java/util/Arrays" 304 yJ9_min_7cf53 := Or.inl tw_381
theorem shw_609 (G : va_G) (a0 a1 a2 a3 : ClassId) (n0 : Nat) (em mi ic : Nat) : oc_SZ (VV G a0 a1 a2 a3 n0) (DD em mi ic) 223 2 := oc_sz (ce_223 G a0 a1 a2 a3 n0 em mi ic) (hh223 em mi ic) (mn223 em mi ic) tw_472
theorem shw_610 (G : va_G) (a0 a1 a2 a3 : ClassId) (n0 : Nat) (em mi ic : Nat) : oc_ML (VV G a0 a1 a2 a3 n0) "java/util/Arrays" 343 yJ7_checkLength_df160 := Or.inl tw_471
def thN : List String := ["java/lang/RuntimeException", "java/lang/Exception"]
theorem thN_ok : ∀ n ∈ thN, Bundle.fit n = true := by decide +kernel
def sx_0_77_81 : List Jvm.Cond := [Jvm.Cond.selects "java/lang/Throwable" (⟨"java/lang/Throwable", "fillInStackTrace", "(I)Ljava/lang/Throwable;"⟩ : MethodName) (⟨"java/lang/Throwable", "fillInStackTrace", "(I)Ljava/lang/Throwable;"⟩ : MethodName), Jvm.Cond.initialized "java/lang/Throwable", Jvm.Cond.initialized "java/lang/Exception", Jvm.Cond.initialized "java/lang/RuntimeException", Jvm.Cond.initialized "java/lang/IllegalArgumentException", Jvm.Cond.instanceMethod (⟨"java/lang/Object", "<init>", "()V"⟩ : MethodName), Jvm.Cond.code (⟨"java/lang/Object", "<init>", "()V"⟩ : MethodName) object_method_1_code 1 (none), Jvm.Cond.native (⟨"java/lang/Object", "clone", "()Ljava/lang/Object;"⟩ : MethodName), Jvm.Cond.instanceMethod (⟨"java/lang/Object", "clone", "()Ljava/lang/Object;"⟩ : MethodName), Jvm.Cond.classLink "java/util/Arrays" 43 "java/lang/IllegalArgumentException", Jvm.Cond.instantiable "java/lang/IllegalArgumentException" 6, Jvm.Cond.castable "java/lang/IllegalArgumentException" "java/lang/IllegalArgumentException", Jvm.Cond.declares (⟨"java/lang/RuntimeException", "<init>", "()V"⟩ : MethodName), Jvm.Cond.declares (⟨"java/lang/RuntimeException", "<init>", "(Ljava/lang/String;)V"⟩ : MethodName), Jvm.Cond.declares (⟨"java/lang/Exception", "<init>", "()V"⟩ : MethodName), Jvm.Cond.declares (⟨"java/lang/Exception", "<init>", "(Ljava/lang/String;)V"⟩ : MethodName), Jvm.Cond.declares (⟨"java/lang/Throwable", "<init>", "()V"⟩ : MethodName), Jvm.Cond.declares (⟨"java/lang/Throwable", "<init>", "(Ljava/lang/String;)V"⟩ : MethodName), Jvm.Cond.selects "java/lang/IllegalArgumentException" (⟨"java/lang/Throwable", "fillInStackTrace", "(I)Ljava/lang/Throwable;"⟩ : MethodName) (⟨"java/lang/Throwable", "fillInStackTrace", "(I)Ljava/lang/Throwable;"⟩ : MethodName), Jvm.Cond.selects "java/lang/IllegalArgumentException" (⟨"java/lang/Throwable", "fillInStackTrace", "()Ljava/lang/Throwable;"⟩ : MethodName) (⟨"java/lang/Throwable", "fillInStackTrace", "()Ljava/lang/Throwable;"⟩ : MethodName), Jvm.Cond.lays "java/lang/IllegalArgumentException" "java/lang/Throwable" "cause" "Ljava/lang/Throwable;", Jvm.Cond.lays "java/lang/Throwable" "java/lang/Throwable" "cause" "Ljava/lang/Throwable;", Jvm.Cond.lays "java/lang/IllegalArgumentException" "java/lang/Throwable" "stackTrace" "[Ljava/lang/StackTraceElement;", Jvm.Cond.lays "java/lang/Throwable" "java/lang/Throwable" "stackTrace" "[Ljava/lang/StackTraceElement;", Jvm.Cond.lays "java/lang/IllegalArgumentException" "java/lang/Throwable" "suppressedExceptions" "Ljava/util/List;", Jvm.Cond.lays "java/lang/Throwable" "java/lang/Throwable" "suppressedExceptions" "Ljava/util/List;", Jvm.Cond.lays "java/lang/IllegalArgumentException" "java/lang/Throwable" "detailMessage" "Ljava/lang/String;", Jvm.Cond.lays "java/lang/Throwable" "java/lang/Throwable" "detailMessage" "Ljava/lang/String;", Jvm.Cond.lays "java/lang/IllegalArgumentException" "java/lang/Throwable" "backtrace" "Ljava/lang/Object;", Jvm.Cond.lays "java/lang/Throwable" "java/lang/Throwable" "backtrace" "Ljava/lang/Object;", Jvm.Cond.fieldLink "java/lang/Throwable" 198 "java/lang/Throwable" "backtrace" "Ljava/lang/Object;", Jvm.Cond.superclass "java/lang/Throwable" "java/lang/Object", Jvm.Cond.instanceMethod (⟨"java/lang/Throwable", "<init>", "()V"⟩ : MethodName), Jvm.Cond.code (⟨"java/lang/Throwable", "<init>", "()V"⟩ : MethodName) prog_38_method_1_code 1 (none), Jvm.Cond.methodLink "java/lang/Throwable" 1 (⟨"java/lang/Object", "<init>", "()V"⟩ : MethodName), Jvm.Cond.fieldLink "java/lang/Throwable" 13 "java/lang/Throwable" "UNASSIGNED_STACK" "[Ljava/lang/StackTraceElement;", Jvm.Cond.fieldLink "java/lang/Throwable" 20 "java/lang/Throwable" "SUPPRESSED_SENTINEL" "Ljava/util/List;", Jvm.Cond.methodLink "java/lang/Throwable" 27 (⟨"java/lang/Throwable", "fillInStackTrace", "()Ljava/lang/Throwable;"⟩ : MethodName), Jvm.Cond.instanceMethod (⟨"java/lang/Throwable", "fillInStackTrace", "()Ljava/lang/Throwable;"⟩ : MethodName), Jvm.Cond.sameMethod "java/lang/Throwable" "java/lang/Throwable" "fillInStackTrace" "()Ljava/lang/Throwable;", Jvm.Cond.selects "java/lang/IllegalStateException" (⟨"java/lang/Throwable", "fillInStackTrace", "()Ljava/lang/Throwable;"⟩ : MethodName) (⟨"java/lang/Throwable", "fillInStackTrace", "()Ljava/lang/Throwable;"⟩ : MethodName), Jvm.Cond.selects "java/lang/IndexOutOfBoundsException" (⟨"java/lang/Throwable", "fillInStackTrace", "()Ljava/lang/Throwable;"⟩ : MethodName) (⟨"java/lang/Throwable", "fillInStackTrace", "()Ljava/lang/Throwable;"⟩ : MethodName), Jvm.Cond.methodLink "java/lang/Throwable" 202 (⟨"java/lang/Throwable", "fillInStackTrace", "(I)Ljava/lang/Throwable;"⟩ : MethodName), Jvm.Cond.instanceMethod (⟨"java/lang/Throwable", "fillInStackTrace", "(I)Ljava/lang/Throwable;"⟩ : MethodName), Jvm.Cond.instantiable "java/lang/Throwable" 6, Jvm.Cond.native (⟨"java/lang/Throwable", "fillInStackTrace", "(I)Ljava/lang/Throwable;"⟩ : MethodName), Jvm.Cond.methodLink "java/util/Arrays" 65 (⟨"java/lang/IllegalArgumentException", "<init>", "(Ljava/lang/String;)V"⟩ : MethodName), Jvm.Cond.instanceMethod (⟨"java/lang/IllegalArgumentException", "<init>", "(Ljava/lang/String;)V"⟩ : MethodName), Jvm.Cond.code (⟨"java/lang/IllegalArgumentException", "<init>", "(Ljava/lang/String;)V"⟩ : MethodName) prog_24_method_2_code 2 (none), Jvm.Cond.methodLink "java/lang/IllegalArgumentException" 7 (⟨"java/lang/RuntimeException", "<init>", "(Ljava/lang/String;)V"⟩ : MethodName), Jvm.Cond.instanceMethod (⟨"java/lang/RuntimeException", "<init>", "(Ljava/lang/String;)V"⟩ : MethodName), Jvm.Cond.code (⟨"java/lang/RuntimeException", "<init>", "(Ljava/lang/String;)V"⟩ : MethodName) prog_32_method_2_code 2 (none), Jvm.Cond.methodLink "java/lang/RuntimeException" 7 (⟨"java/lang/Exception", "<init>", "(Ljava/lang/String;)V"⟩ : MethodName), Jvm.Cond.instanceMethod (⟨"java/lang/Exception", "<init>", "(Ljava/lang/String;)V"⟩ : MethodName), Jvm.Cond.code (⟨"java/lang/Exception", "<init>", "(Ljava/lang/String;)V"⟩ : MethodName) prog_23_method_2_code 2 (none), Jvm.Cond.methodLink "java/lang/Exception" 7 (⟨"java/lang/Throwable", "<init>", "(Ljava/lang/String;)V"⟩ : MethodName), Jvm.Cond.instanceMethod (⟨"java/lang/Throwable", "<init>", "(Ljava/lang/String;)V"⟩ : MethodName), Jvm.Cond.code (⟨"java/lang/Throwable", "<init>", "(Ljava/lang/String;)V"⟩ : MethodName) prog_38_method_2_code 2 (none), Jvm.Cond.fieldLink "java/lang/Throwable" 31 "java/lang/Throwable" "detailMessage" "Ljava/lang/String;", Jvm.Cond.fieldLink "java/lang/Throwable" 7 "java/lang/Throwable" "cause" "Ljava/lang/Throwable;", Jvm.Cond.fieldLink "java/lang/Throwable" 17 "java/lang/Throwable" "stackTrace" "[Ljava/lang/StackTraceElement;", Jvm.Cond.fieldLink "java/lang/Throwable" 24 "java/lang/Throwable" "suppressedExceptions" "Ljava/util/List;", Jvm.Cond.lays "java/lang/IllegalArgumentException" "java/lang/Throwable" "depth" "I", Jvm.Cond.superclass "java/lang/IllegalArgumentException" "java/lang/RuntimeException", Jvm.Cond.classLink "Twelvehundred" 77 "java/lang/IllegalArgumentException", Jvm.Cond.methodLink "Twelvehundred" 81 (⟨"java/lang/IllegalArgumentException", "<init>", "(Ljava/lang/String;)V"⟩ : MethodName), Jvm.Cond.selects "java/lang/IndexOutOfBoundsException" (⟨"java/lang/Throwable", "fillInStackTrace", "(I)Ljava/lang/Throwable;"⟩ : MethodName) (⟨"java/lang/Throwable", "fillInStackTrace", "(I)Ljava/lang/Throwable;"⟩ : MethodName), Jvm.Cond.lays "java/lang/IndexOutOfBoundsException" "java/lang/Throwable" "cause" "Ljava/lang/Throwable;", Jvm.Cond.lays "java/lang/IndexOutOfBoundsException" "java/lang/Throwable" "stackTrace" "[Ljava/lang/StackTraceElement;", Jvm.Cond.lays "java/lang/IndexOutOfBoundsException" "java/lang/Throwable" "suppressedExceptions" "Ljava/util/List;", Jvm.Cond.lays "java/lang/IndexOutOfBoundsException" "java/lang/Throwable" "detailMessage" "Ljava/lang/String;", Jvm.Cond.lays "java/lang/IndexOutOfBoundsException" "java/lang/Throwable" "backtrace" "Ljava/lang/Object;", Jvm.Cond.methodLink "java/lang/IndexOutOfBoundsException" 7 (⟨"java/lang/RuntimeException", "<init>", "(Ljava/lang/String;)V"⟩ : MethodName), Jvm.Cond.lays "java/lang/IndexOutOfBoundsException" "java/lang/Throwable" "depth" "I", Jvm.Cond.superclass "java/lang/IndexOutOfBoundsException" "java/lang/RuntimeException", Jvm.Cond.classLink "TwelvehundredLaw" 19 "java/lang/IllegalArgumentException", Jvm.Cond.selects "java/lang/IllegalStateException" (⟨"java/lang/Throwable", "fillInStackTrace", "(I)Ljava/lang/Throwable;"⟩ : MethodName) (⟨"java/lang/Throwable", "fillInStackTrace", "(I)Ljava/lang/Throwable;"⟩ : MethodName), Jvm.Cond.lays "java/lang/IllegalStateException" "java/lang/Throwable" "cause" "Ljava/lang/Throwable;", Jvm.Cond.lays "java/lang/IllegalStateException" "java/lang/Throwable" "stackTrace" "[Ljava/lang/StackTraceElement;", Jvm.Cond.lays "java/lang/IllegalStateException" "java/lang/Throwable" "suppressedExceptions" "Ljava/util/List;", Jvm.Cond.lays "java/lang/IllegalStateException" "java/lang/Throwable" "detailMessage" "Ljava/lang/String;", Jvm.Cond.lays "java/lang/IllegalStateException" "java/lang/Throwable" "backtrace" "Ljava/lang/Object;", Jvm.Cond.methodLink "java/lang/IllegalStateException" 7 (⟨"java/lang/RuntimeException", "<init>", "(Ljava/lang/String;)V"⟩ : MethodName), Jvm.Cond.lays "java/lang/IllegalStateException" "java/lang/Throwable" "depth" "I", Jvm.Cond.superclass "java/lang/IllegalStateException" "java/lang/RuntimeException", Jvm.Cond.instanceMethod (⟨"java/lang/Object", "getClass", "()Ljava/lang/Class;"⟩ : MethodName), Jvm.Cond.sameMethod "java/lang/Object" "java/lang/Object" "getClass" "()Ljava/lang/Class;", Jvm.Cond.selects "java/lang/IllegalArgumentException" (⟨"java/lang/Object", "getClass", "()Ljava/lang/Class;"⟩ : MethodName) (⟨"java/lang/Object", "getClass", "()Ljava/lang/Class;"⟩ : MethodName), Jvm.Cond.native (⟨"java/lang/Object", "getClass", "()Ljava/lang/Class;"⟩ : MethodName), Jvm.Cond.sameMethod "java/lang/Throwable" "java/lang/Throwable" "fillInStackTrace" "(I)Ljava/lang/Throwable;", Jvm.Cond.castable "java/lang/IllegalArgumentException" "java/lang/Object", Jvm.Cond.castable "java/lang/Throwable" "java/lang/Object", Jvm.Cond.declares (⟨"java/lang/Object", "getClass", "()Ljava/lang/Class;"⟩ : MethodName)]
theorem sxm_0_77_81 : ∀ w ∈ sx_0_77_81, w ∈ Tgl ∨ w ∈ Ntl := List.forall_mem_cons.mpr ⟨Or.inl tw_1, List.forall_mem_cons.mpr ⟨Or.inl tw_59, List.forall_mem_cons.mpr ⟨Or.inl tw_60, List.forall_mem_cons.mpr ⟨Or.inl tw_61, List.forall_mem_cons.mpr ⟨Or.inl tw_62, List.forall_mem_cons.mpr ⟨Or.inl tw_92, List.forall_mem_cons.mpr ⟨Or.inl tw_93, List.forall_mem_cons.mpr ⟨Or.inl tw_376, List.forall_mem_cons.mpr ⟨Or.inl tw_377, List.forall_mem_cons.mpr ⟨Or.inl tw_474, List.forall_mem_cons.mpr ⟨Or.inl tw_475, List.forall_mem_cons.mpr ⟨Or.inr nw_476, List.forall_mem_cons.mpr ⟨Or.inr nw_477, List.forall_mem_cons.mpr ⟨Or.inr nw_478, List.forall_mem_cons.mpr ⟨Or.inr nw_479, List.forall_mem_cons.mpr ⟨Or.inr nw_480, List.forall_mem_cons.mpr ⟨Or.inr nw_481, List.forall_mem_cons.mpr ⟨Or.inr nw_482, List.forall_mem_cons.mpr ⟨Or.inl tw_483, List.forall_mem_cons.mpr ⟨Or.inl tw_484, List.forall_mem_cons.mpr ⟨Or.inl tw_485, List.forall_mem_cons.mpr ⟨Or.inl tw_486, List.forall_mem_cons.mpr ⟨Or.inl tw_487, List.forall_mem_cons.mpr ⟨Or.inl tw_488, List.forall_mem_cons.mpr ⟨Or.inl tw_489, List.forall_mem_cons.mpr ⟨Or.inl tw_490, List.forall_mem_cons.mpr ⟨Or.inl tw_491, List.forall_mem_cons.mpr ⟨Or.inl tw_492, List.forall_mem_cons.mpr ⟨Or.inl tw_493, List.forall_mem_cons.mpr ⟨Or.inl tw_494, List.forall_mem_cons.mpr ⟨Or.inl tw_495, List.forall_mem_cons.mpr ⟨Or.inl tw_496, List.forall_mem_cons.mpr ⟨Or.inl tw_497, List.forall_mem_cons.mpr ⟨Or.inl tw_498, List.forall_mem_cons.mpr ⟨Or.inl tw_499, List.forall_mem_cons.mpr ⟨Or.inl tw_500, List.forall_mem_cons.mpr ⟨Or.inl tw_502, List.forall_mem_cons.mpr ⟨Or.inl tw_504, List.forall_mem_cons.mpr ⟨Or.inl tw_505, List.forall_mem_cons.mpr ⟨Or.inl tw_506, List.forall_mem_cons.mpr ⟨Or.inl tw_507, List.forall_mem_cons.mpr ⟨Or.inl tw_508, List.forall_mem_cons.mpr ⟨Or.inl tw_510, List.forall_mem_cons.mpr ⟨Or.inl tw_512, List.forall_mem_cons.mpr ⟨Or.inl tw_513, List.forall_mem_cons.mpr ⟨Or.inl tw_514, List.forall_mem_cons.mpr ⟨Or.inl tw_591, List.forall_mem_cons.mpr ⟨Or.inl tw_592, List.forall_mem_cons.mpr ⟨Or.inl tw_593, List.forall_mem_cons.mpr ⟨Or.inl tw_594, List.forall_mem_cons.mpr ⟨Or.inl tw_595, List.forall_mem_cons.mpr ⟨Or.inl tw_596, List.forall_mem_cons.mpr ⟨Or.inl tw_597, List.forall_mem_cons.mpr ⟨Or.inl tw_598, List.forall_mem_cons.mpr ⟨Or.inl tw_599, List.forall_mem_cons.mpr ⟨Or.inl tw_600, List.forall_mem_cons.mpr ⟨Or.inl tw_601, List.forall_mem_cons.mpr ⟨Or.inl tw_602, List.forall_mem_cons.mpr ⟨Or.inl tw_604, List.forall_mem_cons.mpr ⟨Or.inl tw_605, List.forall_mem_cons.mpr ⟨Or.inl tw_606, List.forall_mem_cons.mpr ⟨Or.inl tw_607, List.forall_mem_cons.mpr ⟨Or.inl tw_612, List.forall_mem_cons.mpr ⟨Or.inl tw_615, List.forall_mem_cons.mpr ⟨Or.inl tw_804, List.forall_mem_cons.mpr ⟨Or.inl tw_806, List.forall_mem_cons.mpr ⟨Or.inl tw_814, List.forall_mem_cons.mpr ⟨Or.inl tw_815, List.forall_mem_cons.mpr ⟨Or.inl tw_816, List.forall_mem_cons.mpr ⟨Or.inl tw_817, List.forall_mem_cons.mpr ⟨Or.inl tw_818, List.forall_mem_cons.mpr ⟨Or.inl tw_819, List.forall_mem_cons.mpr ⟨Or.inl tw_824, List.forall_mem_cons.mpr ⟨Or.inl tw_825, List.forall_mem_cons.mpr ⟨Or.inl tw_826, List.forall_mem_cons.mpr ⟨Or.inl tw_884, List.forall_mem_cons.mpr ⟨Or.inl tw_894, List.forall_mem_cons.mpr ⟨Or.inl tw_895, List.forall_mem_cons.mpr ⟨Or.inl tw_896, List.forall_mem_cons.mpr ⟨Or.inl tw_897, List.forall_mem_cons.mpr ⟨Or.inl tw_898, List.forall_mem_cons.mpr ⟨Or.inl tw_899, List.forall_mem_cons.mpr ⟨Or.inl tw_904, List.forall_mem_cons.mpr ⟨Or.inl tw_905, List.forall_mem_cons.mpr ⟨Or.inl tw_906, List.forall_mem_cons.mpr ⟨Or.inl tw_948, List.forall_mem_cons.mpr ⟨Or.inl tw_949, List.forall_mem_cons.mpr ⟨Or.inl tw_965, List.forall_mem_cons.mpr ⟨Or.inl tw_973, List.forall_mem_cons.mpr ⟨Or.inl tw_1696, List.forall_mem_cons.mpr ⟨Or.inr nw_1714, List.forall_mem_cons.mpr ⟨Or.inr nw_1725, List.forall_mem_cons.mpr ⟨Or.inr nw_1728, fun x hx => absurd hx List.not_mem_nil⟩⟩⟩⟩⟩⟩⟩⟩⟩⟩⟩⟩⟩⟩⟩⟩⟩⟩⟩⟩⟩⟩⟩⟩⟩⟩⟩⟩⟩⟩⟩⟩⟩⟩⟩⟩⟩⟩⟩⟩⟩⟩⟩⟩⟩⟩⟩⟩⟩⟩⟩⟩⟩⟩⟩⟩⟩⟩⟩⟩⟩⟩⟩⟩⟩⟩⟩⟩⟩⟩⟩⟩⟩⟩⟩⟩⟩⟩⟩⟩⟩⟩⟩⟩⟩⟩⟩⟩⟩⟩⟩⟩⟩
theorem thrc_0_77_81 : (Jvm.Cond.classLink "Twelvehundred" 77 (xn 0) :: Jvm.Cond.initialized (xn 0) :: vx_atS "Twelvehundred" 81 (xn 0) thN).all (fun w => sx_0_77_81.contains w || (Tgl.contains w || Ntl.contains w)) = true := by decide +kernel
theorem thr_0_77_81 (G : va_G) (a0 a1 a2 a3 : ClassId) (n0 : Nat) : ∀ w ∈ Jvm.Cond.classLink "Twelvehundred" 77 (xn 0) :: Jvm.Cond.initialized (xn 0) :: vx_atS "Twelvehundred" 81 (xn 0) thN, w ∈ vTg (VV G a0 a1 a2 a3 n0) ∨ w ∈ vNt (VV G a0 a1 a2 a3 n0) := by
  intro w hw
  have h := List.all_eq_true.mp thrc_0_77_81 w hw
  rcases Bool.or_eq_true_iff.mp h with h | h
  · exact sxm_0_77_81 w (List.contains_iff_mem.mp h)
  rcases Bool.or_eq_true_iff.mp h with h | h
  · exact Or.inl (List.contains_iff_mem.mp h)
  · exact Or.inr (List.contains_iff_mem.mp h)
def sx_1_88_92 : List Jvm.Cond := [Jvm.Cond.selects "java/lang/Throwable" (⟨"java/lang/Throwable", "fillInStackTrace", "(I)Ljava/lang/Throwable;"⟩ : MethodName) (⟨"java/lang/Throwable", "fillInStackTrace", "(I)Ljava/lang/Throwable;"⟩ : MethodName), Jvm.Cond.initialized "java/lang/Throwable", Jvm.Cond.initialized "java/lang/Exception", Jvm.Cond.initialized "java/lang/RuntimeException", Jvm.Cond.initialized "java/lang/IllegalStateException", Jvm.Cond.instanceMethod (⟨"java/lang/Object", "<init>", "()V"⟩ : MethodName), Jvm.Cond.code (⟨"java/lang/Object", "<init>", "()V"⟩ : MethodName) object_method_1_code 1 (none), Jvm.Cond.native (⟨"java/lang/Object", "clone", "()Ljava/lang/Object;"⟩ : MethodName), Jvm.Cond.instanceMethod (⟨"java/lang/Object", "clone", "()Ljava/lang/Object;"⟩ : MethodName), Jvm.Cond.declares (⟨"java/lang/RuntimeException", "<init>", "()V"⟩ : MethodName), Jvm.Cond.declares (⟨"java/lang/RuntimeException", "<init>", "(Ljava/lang/String;)V"⟩ : MethodName), Jvm.Cond.declares (⟨"java/lang/Exception", "<init>", "()V"⟩ : MethodName), Jvm.Cond.declares (⟨"java/lang/Exception", "<init>", "(Ljava/lang/String;)V"⟩ : MethodName), Jvm.Cond.declares (⟨"java/lang/Throwable", "<init>", "()V"⟩ : MethodName), Jvm.Cond.declares (⟨"java/lang/Throwable", "<init>", "(Ljava/lang/String;)V"⟩ : MethodName), Jvm.Cond.selects "java/lang/IllegalArgumentException" (⟨"java/lang/Throwable", "fillInStackTrace", "(I)Ljava/lang/Throwable;"⟩ : MethodName) (⟨"java/lang/Throwable", "fillInStackTrace", "(I)Ljava/lang/Throwable;"⟩ : MethodName), Jvm.Cond.selects "java/lang/IllegalArgumentException" (⟨"java/lang/Throwable", "fillInStackTrace", "()Ljava/lang/Throwable;"⟩ : MethodName) (⟨"java/lang/Throwable", "fillInStackTrace", "()Ljava/lang/Throwable;"⟩ : MethodName), Jvm.Cond.lays "java/lang/IllegalArgumentException" "java/lang/Throwable" "cause" "Ljava/lang/Throwable;", Jvm.Cond.lays "java/lang/Throwable" "java/lang/Throwable" "cause" "Ljava/lang/Throwable;", Jvm.Cond.lays "java/lang/IllegalArgumentException" "java/lang/Throwable" "stackTrace" "[Ljava/lang/StackTraceElement;", Jvm.Cond.lays "java/lang/Throwable" "java/lang/Throwable" "stackTrace" "[Ljava/lang/StackTraceElement;", Jvm.Cond.lays "java/lang/IllegalArgumentException" "java/lang/Throwable" "suppressedExceptions" "Ljava/util/List;", Jvm.Cond.lays "java/lang/Throwable" "java/lang/Throwable" "suppressedExceptions" "Ljava/util/List;", Jvm.Cond.lays "java/lang/IllegalArgumentException" "java/lang/Throwable" "detailMessage" "Ljava/lang/String;", Jvm.Cond.lays "java/lang/Throwable" "java/lang/Throwable" "detailMessage" "Ljava/lang/String;", Jvm.Cond.lays "java/lang/IllegalArgumentException" "java/lang/Throwable" "backtrace" "Ljava/lang/Object;", Jvm.Cond.lays "java/lang/Throwable" "java/lang/Throwable" "backtrace" "Ljava/lang/Object;", Jvm.Cond.fieldLink "java/lang/Throwable" 198 "java/lang/Throwable" "backtrace" "Ljava/lang/Object;", Jvm.Cond.superclass "java/lang/Throwable" "java/lang/Object", Jvm.Cond.instanceMethod (⟨"java/lang/Throwable", "<init>", "()V"⟩ : MethodName), Jvm.Cond.code (⟨"java/lang/Throwable", "<init>", "()V"⟩ : MethodName) prog_38_method_1_code 1 (none), Jvm.Cond.methodLink "java/lang/Throwable" 1 (⟨"java/lang/Object", "<init>", "()V"⟩ : MethodName), Jvm.Cond.fieldLink "java/lang/Throwable" 13 "java/lang/Throwable" "UNASSIGNED_STACK" "[Ljava/lang/StackTraceElement;", Jvm.Cond.fieldLink "java/lang/Throwable" 20 "java/lang/Throwable" "SUPPRESSED_SENTINEL" "Ljava/util/List;", Jvm.Cond.methodLink "java/lang/Throwable" 27 (⟨"java/lang/Throwable", "fillInStackTrace", "()Ljava/lang/Throwable;"⟩ : MethodName), Jvm.Cond.instanceMethod (⟨"java/lang/Throwable", "fillInStackTrace", "()Ljava/lang/Throwable;"⟩ : MethodName), Jvm.Cond.sameMethod "java/lang/Throwable" "java/lang/Throwable" "fillInStackTrace" "()Ljava/lang/Throwable;", Jvm.Cond.selects "java/lang/IllegalStateException" (⟨"java/lang/Throwable", "fillInStackTrace", "()Ljava/lang/Throwable;"⟩ : MethodName) (⟨"java/lang/Throwable", "fillInStackTrace", "()Ljava/lang/Throwable;"⟩ : MethodName), Jvm.Cond.selects "java/lang/IndexOutOfBoundsException" (⟨"java/lang/Throwable", "fillInStackTrace", "()Ljava/lang/Throwable;"⟩ : MethodName) (⟨"java/lang/Throwable", "fillInStackTrace", "()Ljava/lang/Throwable;"⟩ : MethodName), Jvm.Cond.methodLink "java/lang/Throwable" 202 (⟨"java/lang/Throwable", "fillInStackTrace", "(I)Ljava/lang/Throwable;"⟩ : MethodName), Jvm.Cond.instanceMethod (⟨"java/lang/Throwable", "fillInStackTrace", "(I)Ljava/lang/Throwable;"⟩ : MethodName), Jvm.Cond.instantiable "java/lang/Throwable" 6, Jvm.Cond.native (⟨"java/lang/Throwable", "fillInStackTrace", "(I)Ljava/lang/Throwable;"⟩ : MethodName), Jvm.Cond.methodLink "java/lang/IllegalArgumentException" 7 (⟨"java/lang/RuntimeException", "<init>", "(Ljava/lang/String;)V"⟩ : MethodName), Jvm.Cond.instanceMethod (⟨"java/lang/RuntimeException", "<init>", "(Ljava/lang/String;)V"⟩ : MethodName), Jvm.Cond.code (⟨"java/lang/RuntimeException", "<init>", "(Ljava/lang/String;)V"⟩ : MethodName) prog_32_method_2_code 2 (none), Jvm.Cond.methodLink "java/lang/RuntimeException" 7 (⟨"java/lang/Exception", "<init>", "(Ljava/lang/String;)V"⟩ : MethodName), Jvm.Cond.instanceMethod (⟨"java/lang/Exception", "<init>", "(Ljava/lang/String;)V"⟩ : MethodName), Jvm.Cond.code (⟨"java/lang/Exception", "<init>", "(Ljava/lang/String;)V"⟩ : MethodName) prog_23_method_2_code 2 (none), Jvm.Cond.methodLink "java/lang/Exception" 7 (⟨"java/lang/Throwable", "<init>", "(Ljava/lang/String;)V"⟩ : MethodName), Jvm.Cond.instanceMethod (⟨"java/lang/Throwable", "<init>", "(Ljava/lang/String;)V"⟩ : MethodName), Jvm.Cond.code (⟨"java/lang/Throwable", "<init>", "(Ljava/lang/String;)V"⟩ : MethodName) prog_38_method_2_code 2 (none), Jvm.Cond.fieldLink "java/lang/Throwable" 31 "java/lang/Throwable" "detailMessage" "Ljava/lang/String;", Jvm.Cond.fieldLink "java/lang/Throwable" 7 "java/lang/Throwable" "cause" "Ljava/lang/Throwable;", Jvm.Cond.fieldLink "java/lang/Throwable" 17 "java/lang/Throwable" "stackTrace" "[Ljava/lang/StackTraceElement;", Jvm.Cond.fieldLink "java/lang/Throwable" 24 "java/lang/Throwable" "suppressedExceptions" "Ljava/util/List;", Jvm.Cond.lays "java/lang/IllegalArgumentException" "java/lang/Throwable" "depth" "I", Jvm.Cond.superclass "java/lang/IllegalArgumentException" "java/lang/RuntimeException", Jvm.Cond.selects "java/lang/IndexOutOfBoundsException" (⟨"java/lang/Throwable", "fillInStackTrace", "(I)Ljava/lang/Throwable;"⟩ : MethodName) (⟨"java/lang/Throwable", "fillInStackTrace", "(I)Ljava/lang/Throwable;"⟩ : MethodName), Jvm.Cond.lays "java/lang/IndexOutOfBoundsException" "java/lang/Throwable" "cause" "Ljava/lang/Throwable;", Jvm.Cond.lays "java/lang/IndexOutOfBoundsException" "java/lang/Throwable" "stackTrace" "[Ljava/lang/StackTraceElement;", Jvm.Cond.lays "java/lang/IndexOutOfBoundsException" "java/lang/Throwable" "suppressedExceptions" "Ljava/util/List;", Jvm.Cond.lays "java/lang/IndexOutOfBoundsException" "java/lang/Throwable" "detailMessage" "Ljava/lang/String;", Jvm.Cond.lays "java/lang/IndexOutOfBoundsException" "java/lang/Throwable" "backtrace" "Ljava/lang/Object;", Jvm.Cond.methodLink "java/lang/IndexOutOfBoundsException" 7 (⟨"java/lang/RuntimeException", "<init>", "(Ljava/lang/String;)V"⟩ : MethodName), Jvm.Cond.lays "java/lang/IndexOutOfBoundsException" "java/lang/Throwable" "depth" "I", Jvm.Cond.superclass "java/lang/IndexOutOfBoundsException" "java/lang/RuntimeException", Jvm.Cond.classLink "TwelvehundredLaw" 21 "java/lang/IllegalStateException", Jvm.Cond.classLink "Twelvehundred" 88 "java/lang/IllegalStateException", Jvm.Cond.instantiable "java/lang/IllegalStateException" 6, Jvm.Cond.castable "java/lang/IllegalStateException" "java/lang/IllegalStateException", Jvm.Cond.selects "java/lang/IllegalStateException" (⟨"java/lang/Throwable", "fillInStackTrace", "(I)Ljava/lang/Throwable;"⟩ : MethodName) (⟨"java/lang/Throwable", "fillInStackTrace", "(I)Ljava/lang/Throwable;"⟩ : MethodName), Jvm.Cond.lays "java/lang/IllegalStateException" "java/lang/Throwable" "cause" "Ljava/lang/Throwable;", Jvm.Cond.lays "java/lang/IllegalStateException" "java/lang/Throwable" "stackTrace" "[Ljava/lang/StackTraceElement;", Jvm.Cond.lays "java/lang/IllegalStateException" "java/lang/Throwable" "suppressedExceptions" "Ljava/util/List;", Jvm.Cond.lays "java/lang/IllegalStateException" "java/lang/Throwable" "detailMessage" "Ljava/lang/String;", Jvm.Cond.lays "java/lang/IllegalStateException" "java/lang/Throwable" "backtrace" "Ljava/lang/Object;", Jvm.Cond.methodLink "Twelvehundred" 92 (⟨"java/lang/IllegalStateException", "<init>", "(Ljava/lang/String;)V"⟩ : MethodName), Jvm.Cond.instanceMethod (⟨"java/lang/IllegalStateException", "<init>", "(Ljava/lang/String;)V"⟩ : MethodName), Jvm.Cond.code (⟨"java/lang/IllegalStateException", "<init>", "(Ljava/lang/String;)V"⟩ : MethodName) prog_25_method_2_code 2 (none), Jvm.Cond.methodLink "java/lang/IllegalStateException" 7 (⟨"java/lang/RuntimeException", "<init>", "(Ljava/lang/String;)V"⟩ : MethodName), Jvm.Cond.lays "java/lang/IllegalStateException" "java/lang/Throwable" "depth" "I", Jvm.Cond.superclass "java/lang/IllegalStateException" "java/lang/RuntimeException", Jvm.Cond.instanceMethod (⟨"java/lang/Object", "getClass", "()Ljava/lang/Class;"⟩ : MethodName), Jvm.Cond.sameMethod "java/lang/Object" "java/lang/Object" "getClass" "()Ljava/lang/Class;", Jvm.Cond.selects "java/lang/IllegalStateException" (⟨"java/lang/Object", "getClass", "()Ljava/lang/Class;"⟩ : MethodName) (⟨"java/lang/Object", "getClass", "()Ljava/lang/Class;"⟩ : MethodName), Jvm.Cond.native (⟨"java/lang/Object", "getClass", "()Ljava/lang/Class;"⟩ : MethodName), Jvm.Cond.sameMethod "java/lang/Throwable" "java/lang/Throwable" "fillInStackTrace" "(I)Ljava/lang/Throwable;", Jvm.Cond.castable "java/lang/IllegalStateException" "java/lang/Object", Jvm.Cond.castable "java/lang/Throwable" "java/lang/Object", Jvm.Cond.declares (⟨"java/lang/Object", "getClass", "()Ljava/lang/Class;"⟩ : MethodName)]
theorem sxm_1_88_92 : ∀ w ∈ sx_1_88_92, w ∈ Tgl ∨ w ∈ Ntl := List.forall_mem_cons.mpr ⟨Or.inl tw_1, List.forall_mem_cons.mpr ⟨Or.inl tw_59, List.forall_mem_cons.mpr ⟨Or.inl tw_60, List.forall_mem_cons.mpr ⟨Or.inl tw_61, List.forall_mem_cons.mpr ⟨Or.inl tw_63, List.forall_mem_cons.mpr ⟨Or.inl tw_92, List.forall_mem_cons.mpr ⟨Or.inl tw_93, List.forall_mem_cons.mpr ⟨Or.inl tw_376, List.forall_mem_cons.mpr ⟨Or.inl tw_377, List.forall_mem_cons.mpr ⟨Or.inr nw_477, List.forall_mem_cons.mpr ⟨Or.inr nw_478, List.forall_mem_cons.mpr ⟨Or.inr nw_479, List.forall_mem_cons.mpr ⟨Or.inr nw_480, List.forall_mem_cons.mpr ⟨Or.inr nw_481, List.forall_mem_cons.mpr ⟨Or.inr nw_482, List.forall_mem_cons.mpr ⟨Or.inl tw_483, List.forall_mem_cons.mpr ⟨Or.inl tw_484, List.forall_mem_cons.mpr ⟨Or.inl tw_485, List.forall_mem_cons.mpr ⟨Or.inl tw_486, List.forall_mem_cons.mpr ⟨Or.inl tw_487, List.forall_mem_cons.mpr ⟨Or.inl tw_488, List.forall_mem_cons.mpr ⟨Or.inl tw_489, List.forall_mem_cons.mpr ⟨Or.inl tw_490, List.forall_mem_cons.mpr ⟨Or.inl tw_491, List.forall_mem_cons.mpr ⟨Or.inl tw_492, List.forall_mem_cons.mpr ⟨Or.inl tw_493, List.forall_mem_cons.mpr ⟨Or.inl tw_494, List.forall_mem_cons.mpr ⟨Or.inl tw_495, List.forall_mem_cons.mpr ⟨Or.inl tw_496, List.forall_mem_cons.mpr ⟨Or.inl tw_497, List.forall_mem_cons.mpr ⟨Or.inl tw_498, List.forall_mem_cons.mpr ⟨Or.inl tw_499, List.forall_mem_cons.mpr ⟨Or.inl tw_500, List.forall_mem_cons.mpr ⟨Or.inl tw_502, List.forall_mem_cons.mpr ⟨Or.inl tw_504, List.forall_mem_cons.mpr ⟨Or.inl tw_505, List.forall_mem_cons.mpr ⟨Or.inl tw_506, List.forall_mem_cons.mpr ⟨Or.inl tw_507, List.forall_mem_cons.mpr ⟨Or.inl tw_508, List.forall_mem_cons.mpr ⟨Or.inl tw_510, List.forall_mem_cons.mpr ⟨Or.inl tw_512, List.forall_mem_cons.mpr ⟨Or.inl tw_513, List.forall_mem_cons.mpr ⟨Or.inl tw_514, List.forall_mem_cons.mpr ⟨Or.inl tw_594, List.forall_mem_cons.mpr ⟨Or.inl tw_595, List.forall_mem_cons.mpr ⟨Or.inl tw_596, List.forall_mem_cons.mpr ⟨Or.inl tw_597, List.forall_mem_cons.mpr ⟨Or.inl tw_598, List.forall_mem_cons.mpr ⟨Or.inl tw_599, List.forall_mem_cons.mpr ⟨Or.inl tw_600, List.forall_mem_cons.mpr ⟨Or.inl tw_601, List.forall_mem_cons.mpr ⟨Or.inl tw_602, List.forall_mem_cons.mpr ⟨Or.inl tw_604, List.forall_mem_cons.mpr ⟨Or.inl tw_605, List.forall_mem_cons.mpr ⟨Or.inl tw_606, List.forall_mem_cons.mpr ⟨Or.inl tw_607, List.forall_mem_cons.mpr ⟨Or.inl tw_612, List.forall_mem_cons.mpr ⟨Or.inl tw_615, List.forall_mem_cons.mpr ⟨Or.inl tw_814, List.forall_mem_cons.mpr ⟨Or.inl tw_815, List.forall_mem_cons.mpr ⟨Or.inl tw_816, List.forall_mem_cons.mpr ⟨Or.inl tw_817, List.forall_mem_cons.mpr ⟨Or.inl tw_818, List.forall_mem_cons.mpr ⟨Or.inl tw_819, List.forall_mem_cons.mpr ⟨Or.inl tw_824, List.forall_mem_cons.mpr ⟨Or.inl tw_825, List.forall_mem_cons.mpr ⟨Or.inl tw_826, List.forall_mem_cons.mpr ⟨Or.inl tw_885, List.forall_mem_cons.mpr ⟨Or.inl tw_891, List.forall_mem_cons.mpr ⟨Or.inl tw_892, List.forall_mem_cons.mpr ⟨Or.inr nw_893, List.forall_mem_cons.mpr ⟨Or.inl tw_894, List.forall_mem_cons.mpr ⟨Or.inl tw_895, List.forall_mem_cons.mpr ⟨Or.inl tw_896, List.forall_mem_cons.mpr ⟨Or.inl tw_897, List.forall_mem_cons.mpr ⟨Or.inl tw_898, List.forall_mem_cons.mpr ⟨Or.inl tw_899, List.forall_mem_cons.mpr ⟨Or.inl tw_901, List.forall_mem_cons.mpr ⟨Or.inl tw_902, List.forall_mem_cons.mpr ⟨Or.inl tw_903, List.forall_mem_cons.mpr ⟨Or.inl tw_904, List.forall_mem_cons.mpr ⟨Or.inl tw_905, List.forall_mem_cons.mpr ⟨Or.inl tw_906, List.forall_mem_cons.mpr ⟨Or.inl tw_948, List.forall_mem_cons.mpr ⟨Or.inl tw_949, List.forall_mem_cons.mpr ⟨Or.inl tw_966, List.forall_mem_cons.mpr ⟨Or.inl tw_973, List.forall_mem_cons.mpr ⟨Or.inl tw_1696, List.forall_mem_cons.mpr ⟨Or.inr nw_1715, List.forall_mem_cons.mpr ⟨Or.inr nw_1725, List.forall_mem_cons.mpr ⟨Or.inr nw_1728, fun x hx => absurd hx List.not_mem_nil⟩⟩⟩⟩⟩⟩⟩⟩⟩⟩⟩⟩⟩⟩⟩⟩⟩⟩⟩⟩⟩⟩⟩⟩⟩⟩⟩⟩⟩⟩⟩⟩⟩⟩⟩⟩⟩⟩⟩⟩⟩⟩⟩⟩⟩⟩⟩⟩⟩⟩⟩⟩⟩⟩⟩⟩⟩⟩⟩⟩⟩⟩⟩⟩⟩⟩⟩⟩⟩⟩⟩⟩⟩⟩⟩⟩⟩⟩⟩⟩⟩⟩⟩⟩⟩⟩⟩⟩⟩⟩⟩
theorem thrc_1_88_92 : (Jvm.Cond.classLink "Twelvehundred" 88 (xn 1) :: Jvm.Cond.initialized (xn 1) :: vx_atS "Twelvehundred" 92 (xn 1) thN).all (fun w => sx_1_88_92.contains w || (Tgl.contains w || Ntl.contains w)) = true := by decide +kernel
theorem thr_1_88_92 (G : va_G) (a0 a1 a2 a3 : ClassId) (n0 : Nat) : ∀ w ∈ Jvm.Cond.classLink "Twelvehundred" 88 (xn 1) :: Jvm.Cond.initialized (xn 1) :: vx_atS "Twelvehundred" 92 (xn 1) thN, w ∈ vTg (VV G a0 a1 a2 a3 n0) ∨ w ∈ vNt (VV G a0 a1 a2 a3 n0) := by
  intro w hw
  have h := List.all_eq_true.mp thrc_1_88_92 w hw
  rcases Bool.or_eq_true_iff.mp h with h | h
  · exact sxm_1_88_92 w (List.contains_iff_mem.mp h)
  rcases Bool.or_eq_true_iff.mp h with h | h
  · exact Or.inl (List.contains_iff_mem.mp h)
  · exact Or.inr (List.contains_iff_mem.mp h)
def sx_2_112_116 : List Jvm.Cond := [Jvm.Cond.selects "java/lang/Throwable" (⟨"java/lang/Throwable", "fillInStackTrace", "(I)Ljava/lang/Throwable;"⟩ : MethodName) (⟨"java/lang/Throwable", "fillInStackTrace", "(I)Ljava/lang/Throwable;"⟩ : MethodName), Jvm.Cond.initialized "java/lang/Throwable", Jvm.Cond.initialized "java/lang/Exception", Jvm.Cond.initialized "java/lang/RuntimeException", Jvm.Cond.initialized "java/lang/IndexOutOfBoundsException", Jvm.Cond.instanceMethod (⟨"java/lang/Object", "<init>", "()V"⟩ : MethodName), Jvm.Cond.code (⟨"java/lang/Object", "<init>", "()V"⟩ : MethodName) object_method_1_code 1 (none), Jvm.Cond.native (⟨"java/lang/Object", "clone", "()Ljava/lang/Object;"⟩ : MethodName), Jvm.Cond.instanceMethod (⟨"java/lang/Object", "clone", "()Ljava/lang/Object;"⟩ : MethodName), Jvm.Cond.declares (⟨"java/lang/RuntimeException", "<init>", "()V"⟩ : MethodName), Jvm.Cond.declares (⟨"java/lang/RuntimeException", "<init>", "(Ljava/lang/String;)V"⟩ : MethodName), Jvm.Cond.declares (⟨"java/lang/Exception", "<init>", "()V"⟩ : MethodName), Jvm.Cond.declares (⟨"java/lang/Exception", "<init>", "(Ljava/lang/String;)V"⟩ : MethodName), Jvm.Cond.declares (⟨"java/lang/Throwable", "<init>", "()V"⟩ : MethodName), Jvm.Cond.declares (⟨"java/lang/Throwable", "<init>", "(Ljava/lang/String;)V"⟩ : MethodName), Jvm.Cond.selects "java/lang/IllegalArgumentException" (⟨"java/lang/Throwable", "fillInStackTrace", "(I)Ljava/lang/Throwable;"⟩ : MethodName) (⟨"java/lang/Throwable", "fillInStackTrace", "(I)Ljava/lang/Throwable;"⟩ : MethodName), Jvm.Cond.selects "java/lang/IllegalArgumentException" (⟨"java/lang/Throwable", "fillInStackTrace", "()Ljava/lang/Throwable;"⟩ : MethodName) (⟨"java/lang/Throwable", "fillInStackTrace", "()Ljava/lang/Throwable;"⟩ : MethodName), Jvm.Cond.lays "java/lang/IllegalArgumentException" "java/lang/Throwable" "cause" "Ljava/lang/Throwable;", Jvm.Cond.lays "java/lang/Throwable" "java/lang/Throwable" "cause" "Ljava/lang/Throwable;", Jvm.Cond.lays "java/lang/IllegalArgumentException" "java/lang/Throwable" "stackTrace" "[Ljava/lang/StackTraceElement;", Jvm.Cond.lays "java/lang/Throwable" "java/lang/Throwable" "stackTrace" "[Ljava/lang/StackTraceElement;", Jvm.Cond.lays "java/lang/IllegalArgumentException" "java/lang/Throwable" "suppressedExceptions" "Ljava/util/List;", Jvm.Cond.lays "java/lang/Throwable" "java/lang/Throwable" "suppressedExceptions" "Ljava/util/List;", Jvm.Cond.lays "java/lang/IllegalArgumentException" "java/lang/Throwable" "detailMessage" "Ljava/lang/String;", Jvm.Cond.lays "java/lang/Throwable" "java/lang/Throwable" "detailMessage" "Ljava/lang/String;", Jvm.Cond.lays "java/lang/IllegalArgumentException" "java/lang/Throwable" "backtrace" "Ljava/lang/Object;", Jvm.Cond.lays "java/lang/Throwable" "java/lang/Throwable" "backtrace" "Ljava/lang/Object;", Jvm.Cond.fieldLink "java/lang/Throwable" 198 "java/lang/Throwable" "backtrace" "Ljava/lang/Object;", Jvm.Cond.superclass "java/lang/Throwable" "java/lang/Object", Jvm.Cond.instanceMethod (⟨"java/lang/Throwable", "<init>", "()V"⟩ : MethodName), Jvm.Cond.code (⟨"java/lang/Throwable", "<init>", "()V"⟩ : MethodName) prog_38_method_1_code 1 (none), Jvm.Cond.methodLink "java/lang/Throwable" 1 (⟨"java/lang/Object", "<init>", "()V"⟩ : MethodName), Jvm.Cond.fieldLink "java/lang/Throwable" 13 "java/lang/Throwable" "UNASSIGNED_STACK" "[Ljava/lang/StackTraceElement;", Jvm.Cond.fieldLink "java/lang/Throwable" 20 "java/lang/Throwable" "SUPPRESSED_SENTINEL" "Ljava/util/List;", Jvm.Cond.methodLink "java/lang/Throwable" 27 (⟨"java/lang/Throwable", "fillInStackTrace", "()Ljava/lang/Throwable;"⟩ : MethodName), Jvm.Cond.instanceMethod (⟨"java/lang/Throwable", "fillInStackTrace", "()Ljava/lang/Throwable;"⟩ : MethodName), Jvm.Cond.sameMethod "java/lang/Throwable" "java/lang/Throwable" "fillInStackTrace" "()Ljava/lang/Throwable;", Jvm.Cond.selects "java/lang/IllegalStateException" (⟨"java/lang/Throwable", "fillInStackTrace", "()Ljava/lang/Throwable;"⟩ : MethodName) (⟨"java/lang/Throwable", "fillInStackTrace", "()Ljava/lang/Throwable;"⟩ : MethodName), Jvm.Cond.selects "java/lang/IndexOutOfBoundsException" (⟨"java/lang/Throwable", "fillInStackTrace", "()Ljava/lang/Throwable;"⟩ : MethodName) (⟨"java/lang/Throwable", "fillInStackTrace", "()Ljava/lang/Throwable;"⟩ : MethodName), Jvm.Cond.methodLink "java/lang/Throwable" 202 (⟨"java/lang/Throwable", "fillInStackTrace", "(I)Ljava/lang/Throwable;"⟩ : MethodName), Jvm.Cond.instanceMethod (⟨"java/lang/Throwable", "fillInStackTrace", "(I)Ljava/lang/Throwable;"⟩ : MethodName), Jvm.Cond.instantiable "java/lang/Throwable" 6, Jvm.Cond.native (⟨"java/lang/Throwable", "fillInStackTrace", "(I)Ljava/lang/Throwable;"⟩ : MethodName), Jvm.Cond.methodLink "java/lang/IllegalArgumentException" 7 (⟨"java/lang/RuntimeException", "<init>", "(Ljava/lang/String;)V"⟩ : MethodName), Jvm.Cond.instanceMethod (⟨"java/lang/RuntimeException", "<init>", "(Ljava/lang/String;)V"⟩ : MethodName), Jvm.Cond.code (⟨"java/lang/RuntimeException", "<init>", "(Ljava/lang/String;)V"⟩ : MethodName) prog_32_method_2_code 2 (none), Jvm.Cond.methodLink "java/lang/RuntimeException" 7 (⟨"java/lang/Exception", "<init>", "(Ljava/lang/String;)V"⟩ : MethodName), Jvm.Cond.instanceMethod (⟨"java/lang/Exception", "<init>", "(Ljava/lang/String;)V"⟩ : MethodName), Jvm.Cond.code (⟨"java/lang/Exception", "<init>", "(Ljava/lang/String;)V"⟩ : MethodName) prog_23_method_2_code 2 (none), Jvm.Cond.methodLink "java/lang/Exception" 7 (⟨"java/lang/Throwable", "<init>", "(Ljava/lang/String;)V"⟩ : MethodName), Jvm.Cond.instanceMethod (⟨"java/lang/Throwable", "<init>", "(Ljava/lang/String;)V"⟩ : MethodName), Jvm.Cond.code (⟨"java/lang/Throwable", "<init>", "(Ljava/lang/String;)V"⟩ : MethodName) prog_38_method_2_code 2 (none), Jvm.Cond.fieldLink "java/lang/Throwable" 31 "java/lang/Throwable" "detailMessage" "Ljava/lang/String;", Jvm.Cond.fieldLink "java/lang/Throwable" 7 "java/lang/Throwable" "cause" "Ljava/lang/Throwable;", Jvm.Cond.fieldLink "java/lang/Throwable" 17 "java/lang/Throwable" "stackTrace" "[Ljava/lang/StackTraceElement;", Jvm.Cond.fieldLink "java/lang/Throwable" 24 "java/lang/Throwable" "suppressedExceptions" "Ljava/util/List;", Jvm.Cond.lays "java/lang/IllegalArgumentException" "java/lang/Throwable" "depth" "I", Jvm.Cond.superclass "java/lang/IllegalArgumentException" "java/lang/RuntimeException", Jvm.Cond.classLink "Twelvehundred" 112 "java/lang/IndexOutOfBoundsException", Jvm.Cond.instantiable "java/lang/IndexOutOfBoundsException" 6, Jvm.Cond.castable "java/lang/IndexOutOfBoundsException" "java/lang/IndexOutOfBoundsException", Jvm.Cond.selects "java/lang/IndexOutOfBoundsException" (⟨"java/lang/Throwable", "fillInStackTrace", "(I)Ljava/lang/Throwable;"⟩ : MethodName) (⟨"java/lang/Throwable", "fillInStackTrace", "(I)Ljava/lang/Throwable;"⟩ : MethodName), Jvm.Cond.lays "java/lang/IndexOutOfBoundsException" "java/lang/Throwable" "cause" "Ljava/lang/Throwable;", Jvm.Cond.lays "java/lang/IndexOutOfBoundsException" "java/lang/Throwable" "stackTrace" "[Ljava/lang/StackTraceElement;", Jvm.Cond.lays "java/lang/IndexOutOfBoundsException" "java/lang/Throwable" "suppressedExceptions" "Ljava/util/List;", Jvm.Cond.lays "java/lang/IndexOutOfBoundsException" "java/lang/Throwable" "detailMessage" "Ljava/lang/String;", Jvm.Cond.lays "java/lang/IndexOutOfBoundsException" "java/lang/Throwable" "backtrace" "Ljava/lang/Object;", Jvm.Cond.methodLink "Twelvehundred" 116 (⟨"java/lang/IndexOutOfBoundsException", "<init>", "(Ljava/lang/String;)V"⟩ : MethodName), Jvm.Cond.instanceMethod (⟨"java/lang/IndexOutOfBoundsException", "<init>", "(Ljava/lang/String;)V"⟩ : MethodName), Jvm.Cond.code (⟨"java/lang/IndexOutOfBoundsException", "<init>", "(Ljava/lang/String;)V"⟩ : MethodName) prog_26_method_2_code 2 (none), Jvm.Cond.methodLink "java/lang/IndexOutOfBoundsException" 7 (⟨"java/lang/RuntimeException", "<init>", "(Ljava/lang/String;)V"⟩ : MethodName), Jvm.Cond.lays "java/lang/IndexOutOfBoundsException" "java/lang/Throwable" "depth" "I", Jvm.Cond.superclass "java/lang/IndexOutOfBoundsException" "java/lang/RuntimeException", Jvm.Cond.selects "java/lang/IllegalStateException" (⟨"java/lang/Throwable", "fillInStackTrace", "(I)Ljava/lang/Throwable;"⟩ : MethodName) (⟨"java/lang/Throwable", "fillInStackTrace", "(I)Ljava/lang/Throwable;"⟩ : MethodName), Jvm.Cond.lays "java/lang/IllegalStateException" "java/lang/Throwable" "cause" "Ljava/lang/Throwable;", Jvm.Cond.lays "java/lang/IllegalStateException" "java/lang/Throwable" "stackTrace" "[Ljava/lang/StackTraceElement;", Jvm.Cond.lays "java/lang/IllegalStateException" "java/lang/Throwable" "suppressedExceptions" "Ljava/util/List;", Jvm.Cond.lays "java/lang/IllegalStateException" "java/lang/Throwable" "detailMessage" "Ljava/lang/String;", Jvm.Cond.lays "java/lang/IllegalStateException" "java/lang/Throwable" "backtrace" "Ljava/lang/Object;", Jvm.Cond.methodLink "java/lang/IllegalStateException" 7 (⟨"java/lang/RuntimeException", "<init>", "(Ljava/lang/String;)V"⟩ : MethodName), Jvm.Cond.lays "java/lang/IllegalStateException" "java/lang/Throwable" "depth" "I", Jvm.Cond.superclass "java/lang/IllegalStateException" "java/lang/RuntimeException", Jvm.Cond.instanceMethod (⟨"java/lang/Object", "getClass", "()Ljava/lang/Class;"⟩ : MethodName), Jvm.Cond.sameMethod "java/lang/Object" "java/lang/Object" "getClass" "()Ljava/lang/Class;", Jvm.Cond.selects "java/lang/IndexOutOfBoundsException" (⟨"java/lang/Object", "getClass", "()Ljava/lang/Class;"⟩ : MethodName) (⟨"java/lang/Object", "getClass", "()Ljava/lang/Class;"⟩ : MethodName), Jvm.Cond.native (⟨"java/lang/Object", "getClass", "()Ljava/lang/Class;"⟩ : MethodName), Jvm.Cond.classLink "TwelvehundredLaw" 29 "java/lang/IndexOutOfBoundsException", Jvm.Cond.sameMethod "java/lang/Throwable" "java/lang/Throwable" "fillInStackTrace" "(I)Ljava/lang/Throwable;", Jvm.Cond.castable "java/lang/IndexOutOfBoundsException" "java/lang/Object", Jvm.Cond.castable "java/lang/Throwable" "java/lang/Object", Jvm.Cond.declares (⟨"java/lang/Object", "getClass", "()Ljava/lang/Class;"⟩ : MethodName)]
theorem sxm_2_112_116 : ∀ w ∈ sx_2_112_116, w ∈ Tgl ∨ w ∈ Ntl := List.forall_mem_cons.mpr ⟨Or.inl tw_1, List.forall_mem_cons.mpr ⟨Or.inl tw_59, List.forall_mem_cons.mpr ⟨Or.inl tw_60, List.forall_mem_cons.mpr ⟨Or.inl tw_61, List.forall_mem_cons.mpr ⟨Or.inl tw_74, List.forall_mem_cons.mpr ⟨Or.inl tw_92, List.forall_mem_cons.mpr ⟨Or.inl tw_93, List.forall_mem_cons.mpr ⟨Or.inl tw_376, List.forall_mem_cons.mpr ⟨Or.inl tw_377, List.forall_mem_cons.mpr ⟨Or.inr nw_477, List.forall_mem_cons.mpr ⟨Or.inr nw_478, List.forall_mem_cons.mpr ⟨Or.inr nw_479, List.forall_mem_cons.mpr ⟨Or.inr nw_480, List.forall_mem_cons.mpr ⟨Or.inr nw_481, List.forall_mem_cons.mpr ⟨Or.inr nw_482, List.forall_mem_cons.mpr ⟨Or.inl tw_483, List.forall_mem_cons.mpr ⟨Or.inl tw_484, List.forall_mem_cons.mpr ⟨Or.inl tw_485, List.forall_mem_cons.mpr ⟨Or.inl tw_486, List.forall_mem_cons.mpr ⟨Or.inl tw_487, List.forall_mem_cons.mpr ⟨Or.inl tw_488, List.forall_mem_cons.mpr ⟨Or.inl tw_489, List.forall_mem_cons.mpr ⟨Or.inl tw_490, List.forall_mem_cons.mpr ⟨Or.inl tw_491, List.forall_mem_cons.mpr ⟨Or.inl tw_492, List.forall_mem_cons.mpr ⟨Or.inl tw_493, List.forall_mem_cons.mpr ⟨Or.inl tw_494, List.forall_mem_cons.mpr ⟨Or.inl tw_495, List.forall_mem_cons.mpr ⟨Or.inl tw_496, List.forall_mem_cons.mpr ⟨Or.inl tw_497, List.forall_mem_cons.mpr ⟨Or.inl tw_498, List.forall_mem_cons.mpr ⟨Or.inl tw_499, List.forall_mem_cons.mpr ⟨Or.inl tw_500, List.forall_mem_cons.mpr ⟨Or.inl tw_502, List.forall_mem_cons.mpr ⟨Or.inl tw_504, List.forall_mem_cons.mpr ⟨Or.inl tw_505, List.forall_mem_cons.mpr ⟨Or.inl tw_506, List.forall_mem_cons.mpr ⟨Or.inl tw_507, List.forall_mem_cons.mpr ⟨Or.inl tw_508, List.forall_mem_cons.mpr ⟨Or.inl tw_510, List.forall_mem_cons.mpr ⟨Or.inl tw_512, List.forall_mem_cons.mpr ⟨Or.inl tw_513, List.forall_mem_cons.mpr ⟨Or.inl tw_514, List.forall_mem_cons.mpr ⟨Or.inl tw_594, List.forall_mem_cons.mpr ⟨Or.inl tw_595, List.forall_mem_cons.mpr ⟨Or.inl tw_596, List.forall_mem_cons.mpr ⟨Or.inl tw_597, List.forall_mem_cons.mpr ⟨Or.inl tw_598, List.forall_mem_cons.mpr ⟨Or.inl tw_599, List.forall_mem_cons.mpr ⟨Or.inl tw_600, List.forall_mem_cons.mpr ⟨Or.inl tw_601, List.forall_mem_cons.mpr ⟨Or.inl tw_602, List.forall_mem_cons.mpr ⟨Or.inl tw_604, List.forall_mem_cons.mpr ⟨Or.inl tw_605, List.forall_mem_cons.mpr ⟨Or.inl tw_606, List.forall_mem_cons.mpr ⟨Or.inl tw_607, List.forall_mem_cons.mpr ⟨Or.inl tw_612, List.forall_mem_cons.mpr ⟨Or.inl tw_615, List.forall_mem_cons.mpr ⟨Or.inl tw_811, List.forall_mem_cons.mpr ⟨Or.inl tw_812, List.forall_mem_cons.mpr ⟨Or.inr nw_813, List.forall_mem_cons.mpr ⟨Or.inl tw_814, List.forall_mem_cons.mpr ⟨Or.inl tw_815, List.forall_mem_cons.mpr ⟨Or.inl tw_816, List.forall_mem_cons.mpr ⟨Or.inl tw_817, List.forall_mem_cons.mpr ⟨Or.inl tw_818, List.forall_mem_cons.mpr ⟨Or.inl tw_819, List.forall_mem_cons.mpr ⟨Or.inl tw_821, List.forall_mem_cons.mpr ⟨Or.inl tw_822, List.forall_mem_cons.mpr ⟨Or.inl tw_823, List.forall_mem_cons.mpr ⟨Or.inl tw_824, List.forall_mem_cons.mpr ⟨Or.inl tw_825, List.forall_mem_cons.mpr ⟨Or.inl tw_826, List.forall_mem_cons.mpr ⟨Or.inl tw_894, List.forall_mem_cons.mpr ⟨Or.inl tw_895, List.forall_mem_cons.mpr ⟨Or.inl tw_896, List.forall_mem_cons.mpr ⟨Or.inl tw_897, List.forall_mem_cons.mpr ⟨Or.inl tw_898, List.forall_mem_cons.mpr ⟨Or.inl tw_899, List.forall_mem_cons.mpr ⟨Or.inl tw_904, List.forall_mem_cons.mpr ⟨Or.inl tw_905, List.forall_mem_cons.mpr ⟨Or.inl tw_906, List.forall_mem_cons.mpr ⟨Or.inl tw_948, List.forall_mem_cons.mpr ⟨Or.inl tw_949, List.forall_mem_cons.mpr ⟨Or.inl tw_967, List.forall_mem_cons.mpr ⟨Or.inl tw_973, List.forall_mem_cons.mpr ⟨Or.inl tw_1051, List.forall_mem_cons.mpr ⟨Or.inl tw_1696, List.forall_mem_cons.mpr ⟨Or.inr nw_1717, List.forall_mem_cons.mpr ⟨Or.inr nw_1725, List.forall_mem_cons.mpr ⟨Or.inr nw_1728, fun x hx => absurd hx List.not_mem_nil⟩⟩⟩⟩⟩⟩⟩⟩⟩⟩⟩⟩⟩⟩⟩⟩⟩⟩⟩⟩⟩⟩⟩⟩⟩⟩⟩⟩⟩⟩⟩⟩⟩⟩⟩⟩⟩⟩⟩⟩⟩⟩⟩⟩⟩⟩⟩⟩⟩⟩⟩⟩⟩⟩⟩⟩⟩⟩⟩⟩⟩⟩⟩⟩⟩⟩⟩⟩⟩⟩⟩⟩⟩⟩⟩⟩⟩⟩⟩⟩⟩⟩⟩⟩⟩⟩⟩⟩⟩⟩⟩
theorem thrc_2_112_116 : (Jvm.Cond.classLink "Twelvehundred" 112 (xn 2) :: Jvm.Cond.initialized (xn 2) :: vx_atS "Twelvehundred" 116 (xn 2) thN).all (fun w => sx_2_112_116.contains w || (Tgl.contains w || Ntl.contains w)) = true := by decide +kernel
theorem thr_2_112_116 (G : va_G) (a0 a1 a2 a3 : ClassId) (n0 : Nat) : ∀ w ∈ Jvm.Cond.classLink "Twelvehundred" 112 (xn 2) :: Jvm.Cond.initialized (xn 2) :: vx_atS "Twelvehundred" 116 (xn 2) thN, w ∈ vTg (VV G a0 a1 a2 a3 n0) ∨ w ∈ vNt (VV G a0 a1 a2 a3 n0) := by
  intro w hw
  have h := List.all_eq_true.mp thrc_2_112_116 w hw
  rcases Bool.or_eq_true_iff.mp h with h | h
  · exact sxm_2_112_116 w (List.contains_iff_mem.mp h)
  rcases Bool.or_eq_true_iff.mp h with h | h
  · exact Or.inl (List.contains_iff_mem.mp h)
  · exact Or.inr (List.contains_iff_mem.mp h)
theorem han_4 (G : va_G) (a0 a1 a2 a3 : ClassId) (n0 : Nat) (em mi ic : Nat) (pc : Nat) (h1 : 0 ≤ pc) (h2 : pc < 11) : HanOk (VV G a0 a1 a2 a3 n0) (DD em mi ic) 4 pc := by
  have hc : ∀ x ∈ tableOf [(0, 11, 14, 19), (0, 11, 18, 21)], covers x pc = true := by
    intro x hx
    simp [tableOf] at hx
    rcases hx with rfl | rfl <;> simp [covers] <;> omega
  intro k t hk
  have hk : (k, t) ∈ ([(0, 1), (1, 2)] : List (Nat × Nat)) := hk
  simp only [List.mem_cons, Prod.mk.injEq, List.not_mem_nil, or_false] at hk
  rcases hk with ⟨rfl, rfl⟩ | ⟨rfl, rfl⟩
  · exact ⟨(tableOf [(0, 11, 14, 19), (0, 11, 18, 21)]).take 0, _, (tableOf [(0, 11, 14, 19), (0, 11, 18, 21)]).drop 1, "java/lang/IllegalArgumentException", rfl, fun w hw => absurd hw List.not_mem_nil, hc _ (List.mem_of_getElem? (i := 0) rfl), by decide, tw_884, Or.inr nw_476, rfl⟩
  · exact ⟨(tableOf [(0, 11, 14, 19), (0, 11, 18, 21)]).take 1, _, (tableOf [(0, 11, 14, 19), (0, 11, 18, 21)]).drop 2, "java/lang/IllegalStateException", rfl, List.forall_mem_cons.mpr ⟨Or.inr ⟨by decide, "java/lang/IllegalArgumentException", tw_884, List.mem_of_getElem? (i := 2) rfl⟩, fun w hw => absurd hw List.not_mem_nil⟩, hc _ (List.mem_of_getElem? (i := 1) rfl), by decide, tw_885, Or.inr nw_893, rfl⟩
theorem han_6 (G : va_G) (a0 a1 a2 a3 : ClassId) (n0 : Nat) (em mi ic : Nat) (pc : Nat) (h1 : 0 ≤ pc) (h2 : pc < 11) : HanOk (VV G a0 a1 a2 a3 n0) (DD em mi ic) 6 pc := by
  have hc : ∀ x ∈ tableOf [(0, 11, 14, 19), (0, 11, 18, 21)], covers x pc = true := by
    intro x hx
    simp [tableOf] at hx
    rcases hx with rfl | rfl <;> simp [covers] <;> omega
  intro k t hk
  have hk : (k, t) ∈ ([(0, 1), (1, 2)] : List (Nat × Nat)) := hk
  simp only [List.mem_cons, Prod.mk.injEq, List.not_mem_nil, or_false] at hk
  rcases hk with ⟨rfl, rfl⟩ | ⟨rfl, rfl⟩
  · exact ⟨(tableOf [(0, 11, 14, 19), (0, 11, 18, 21)]).take 0, _, (tableOf [(0, 11, 14, 19), (0, 11, 18, 21)]).drop 1, "java/lang/IllegalArgumentException", rfl, fun w hw => absurd hw List.not_mem_nil, hc _ (List.mem_of_getElem? (i := 0) rfl), by decide, tw_884, Or.inr nw_476, rfl⟩
  · exact ⟨(tableOf [(0, 11, 14, 19), (0, 11, 18, 21)]).take 1, _, (tableOf [(0, 11, 14, 19), (0, 11, 18, 21)]).drop 2, "java/lang/IllegalStateException", rfl, List.forall_mem_cons.mpr ⟨Or.inr ⟨by decide, "java/lang/IllegalArgumentException", tw_884, List.mem_of_getElem? (i := 2) rfl⟩, fun w hw => absurd hw List.not_mem_nil⟩, hc _ (List.mem_of_getElem? (i := 1) rfl), by decide, tw_885, Or.inr nw_893, rfl⟩
theorem han_8 (G : va_G) (a0 a1 a2 a3 : ClassId) (n0 : Nat) (em mi ic : Nat) (pc : Nat) (h1 : 0 ≤ pc) (h2 : pc < 11) : HanOk (VV G a0 a1 a2 a3 n0) (DD em mi ic) 8 pc := by
  have hc : ∀ x ∈ tableOf [(0, 11, 14, 29), (0, 11, 18, 19)], covers x pc = true := by
    intro x hx
    simp [tableOf] at hx
    rcases hx with rfl | rfl <;> simp [covers] <;> omega
  intro k t hk
  have hk : (k, t) ∈ ([(2, 1), (0, 2)] : List (Nat × Nat)) := hk
  simp only [List.mem_cons, Prod.mk.injEq, List.not_mem_nil, or_false] at hk
  rcases hk with ⟨rfl, rfl⟩ | ⟨rfl, rfl⟩
  · exact ⟨(tableOf [(0, 11, 14, 29), (0, 11, 18, 19)]).take 0, _, (tableOf [(0, 11, 14, 29), (0, 11, 18, 19)]).drop 1, "java/lang/IndexOutOfBoundsException", rfl, fun w hw => absurd hw List.not_mem_nil, hc _ (List.mem_of_getElem? (i := 0) rfl), by decide, tw_1051, Or.inr nw_813, rfl⟩
  · exact ⟨(tableOf [(0, 11, 14, 29), (0, 11, 18, 19)]).take 1, _, (tableOf [(0, 11, 14, 29), (0, 11, 18, 19)]).drop 2, "java/lang/IllegalArgumentException", rfl, List.forall_mem_cons.mpr ⟨Or.inr ⟨by decide, "java/lang/IndexOutOfBoundsException", tw_1051, List.mem_of_getElem? (i := 1) rfl⟩, fun w hw => absurd hw List.not_mem_nil⟩, hc _ (List.mem_of_getElem? (i := 1) rfl), by decide, tw_884, Or.inr nw_476, rfl⟩
theorem han_10 (G : va_G) (a0 a1 a2 a3 : ClassId) (n0 : Nat) (em mi ic : Nat) (pc : Nat) (h1 : 0 ≤ pc) (h2 : pc < 13) : HanOk (VV G a0 a1 a2 a3 n0) (DD em mi ic) 10 pc := by
  have hc : ∀ x ∈ tableOf [(0, 13, 16, 29), (0, 13, 20, 19), (0, 13, 24, 21)], covers x pc = true := by
    intro x hx
    simp [tableOf] at hx
    rcases hx with rfl | rfl | rfl <;> simp [covers] <;> omega
  intro k t hk
  have hk : (k, t) ∈ ([(2, 1), (0, 2), (1, 3)] : List (Nat × Nat)) := hk
  simp only [List.mem_cons, Prod.mk.injEq, List.not_mem_nil, or_false] at hk
  rcases hk with ⟨rfl, rfl⟩ | ⟨rfl, rfl⟩ | ⟨rfl, rfl⟩
  · exact ⟨(tableOf [(0, 13, 16, 29), (0, 13, 20, 19), (0, 13, 24, 21)]).take 0, _, (tableOf [(0, 13, 16, 29), (0, 13, 20, 19), (0, 13, 24, 21)]).drop 1, "java/lang/IndexOutOfBoundsException", rfl, fun w hw => absurd hw List.not_mem_nil, hc _ (List.mem_of_getElem? (i := 0) rfl), by decide, tw_1051, Or.inr nw_813, rfl⟩
  · exact ⟨(tableOf [(0, 13, 16, 29), (0, 13, 20, 19), (0, 13, 24, 21)]).take 1, _, (tableOf [(0, 13, 16, 29), (0, 13, 20, 19), (0, 13, 24, 21)]).drop 2, "java/lang/IllegalArgumentException", rfl, List.forall_mem_cons.mpr ⟨Or.inr ⟨by decide, "java/lang/IndexOutOfBoundsException", tw_1051, List.mem_of_getElem? (i := 1) rfl⟩, fun w hw => absurd hw List.not_mem_nil⟩, hc _ (List.mem_of_getElem? (i := 1) rfl), by decide, tw_884, Or.inr nw_476, rfl⟩
  · exact ⟨(tableOf [(0, 13, 16, 29), (0, 13, 20, 19), (0, 13, 24, 21)]).take 2, _, (tableOf [(0, 13, 16, 29), (0, 13, 20, 19), (0, 13, 24, 21)]).drop 3, "java/lang/IllegalStateException", rfl, List.forall_mem_cons.mpr ⟨Or.inr ⟨by decide, "java/lang/IndexOutOfBoundsException", tw_1051, List.mem_of_getElem? (i := 3) rfl⟩, List.forall_mem_cons.mpr ⟨Or.inr ⟨by decide, "java/lang/IllegalArgumentException", tw_884, List.mem_of_getElem? (i := 2) rfl⟩, fun w hw => absurd hw List.not_mem_nil⟩⟩, hc _ (List.mem_of_getElem? (i := 2) rfl), by decide, tw_885, Or.inr nw_893, rfl⟩
theorem han_12 (G : va_G) (a0 a1 a2 a3 : ClassId) (n0 : Nat) (em mi ic : Nat) (pc : Nat) (h1 : 0 ≤ pc) (h2 : pc < 11) : HanOk (VV G a0 a1 a2 a3 n0) (DD em mi ic) 12 pc := by
  have hc : ∀ x ∈ tableOf [(0, 11, 14, 19)], covers x pc = true := by
    intro x hx
    simp [tableOf] at hx
    rcases hx with rfl <;> simp [covers] <;> omega
  intro k t hk
  have hk : (k, t) ∈ ([(0, 1)] : List (Nat × Nat)) := hk
  simp only [List.mem_cons, Prod.mk.injEq, List.not_mem_nil, or_false] at hk
  rcases hk with ⟨rfl, rfl⟩
  · exact ⟨(tableOf [(0, 11, 14, 19)]).take 0, _, (tableOf [(0, 11, 14, 19)]).drop 1, "java/lang/IllegalArgumentException", rfl, fun w hw => absurd hw List.not_mem_nil, hc _ (List.mem_of_getElem? (i := 0) rfl), by decide, tw_884, Or.inr nw_476, rfl⟩
theorem han_14 (G : va_G) (a0 a1 a2 a3 : ClassId) (n0 : Nat) (em mi ic : Nat) (pc : Nat) (h1 : 0 ≤ pc) (h2 : pc < 10) : HanOk (VV G a0 a1 a2 a3 n0) (DD em mi ic) 14 pc := by
  have hc : ∀ x ∈ tableOf [(0, 10, 13, 19)], covers x pc = true := by
    intro x hx
    simp [tableOf] at hx
    rcases hx with rfl <;> simp [covers] <;> omega
  intro k t hk
  have hk : (k, t) ∈ ([(0, 1)] : List (Nat × Nat)) := hk
  simp only [List.mem_cons, Prod.mk.injEq, List.not_mem_nil, or_false] at hk
  rcases hk with ⟨rfl, rfl⟩
  · exact ⟨(tableOf [(0, 10, 13, 19)]).take 0, _, (tableOf [(0, 10, 13, 19)]).drop 1, "java/lang/IllegalArgumentException", rfl, fun w hw => absurd hw List.not_mem_nil, hc _ (List.mem_of_getElem? (i := 0) rfl), by decide, tw_884, Or.inr nw_476, rfl⟩
theorem han_16 (G : va_G) (a0 a1 a2 a3 : ClassId) (n0 : Nat) (em mi ic : Nat) (pc : Nat) (h1 : 0 ≤ pc) (h2 : pc < 10) : HanOk (VV G a0 a1 a2 a3 n0) (DD em mi ic) 16 pc := by
  have hc : ∀ x ∈ tableOf [(0, 10, 13, 29), (0, 10, 16, 21)], covers x pc = true := by
    intro x hx
    simp [tableOf] at hx
    rcases hx with rfl | rfl <;> simp [covers] <;> omega
  intro k t hk
  have hk : (k, t) ∈ ([(2, 1), (1, 2)] : List (Nat × Nat)) := hk
  simp only [List.mem_cons, Prod.mk.injEq, List.not_mem_nil, or_false] at hk
  rcases hk with ⟨rfl, rfl⟩ | ⟨rfl, rfl⟩
  · exact ⟨(tableOf [(0, 10, 13, 29), (0, 10, 16, 21)]).take 0, _, (tableOf [(0, 10, 13, 29), (0, 10, 16, 21)]).drop 1, "java/lang/IndexOutOfBoundsException", rfl, fun w hw => absurd hw List.not_mem_nil, hc _ (List.mem_of_getElem? (i := 0) rfl), by decide, tw_1051, Or.inr nw_813, rfl⟩
  · exact ⟨(tableOf [(0, 10, 13, 29), (0, 10, 16, 21)]).take 1, _, (tableOf [(0, 10, 13, 29), (0, 10, 16, 21)]).drop 2, "java/lang/IllegalStateException", rfl, List.forall_mem_cons.mpr ⟨Or.inr ⟨by decide, "java/lang/IndexOutOfBoundsException", tw_1051, List.mem_of_getElem? (i := 3) rfl⟩, fun w hw => absurd hw List.not_mem_nil⟩, hc _ (List.mem_of_getElem? (i := 1) rfl), by decide, tw_885, Or.inr nw_893, rfl⟩
theorem han_18 (G : va_G) (a0 a1 a2 a3 : ClassId) (n0 : Nat) (em mi ic : Nat) (pc : Nat) (h1 : 0 ≤ pc) (h2 : pc < 10) : HanOk (VV G a0 a1 a2 a3 n0) (DD em mi ic) 18 pc := by
  have hc : ∀ x ∈ tableOf [(0, 10, 13, 19), (0, 10, 16, 21)], covers x pc = true := by
    intro x hx
    simp [tableOf] at hx
    rcases hx with rfl | rfl <;> simp [covers] <;> omega
  intro k t hk
  have hk : (k, t) ∈ ([(0, 1), (1, 2)] : List (Nat × Nat)) := hk
  simp only [List.mem_cons, Prod.mk.injEq, List.not_mem_nil, or_false] at hk
  rcases hk with ⟨rfl, rfl⟩ | ⟨rfl, rfl⟩
  · exact ⟨(tableOf [(0, 10, 13, 19), (0, 10, 16, 21)]).take 0, _, (tableOf [(0, 10, 13, 19), (0, 10, 16, 21)]).drop 1, "java/lang/IllegalArgumentException", rfl, fun w hw => absurd hw List.not_mem_nil, hc _ (List.mem_of_getElem? (i := 0) rfl), by decide, tw_884, Or.inr nw_476, rfl⟩
  · exact ⟨(tableOf [(0, 10, 13, 19), (0, 10, 16, 21)]).take 1, _, (tableOf [(0, 10, 13, 19), (0, 10, 16, 21)]).drop 2, "java/lang/IllegalStateException", rfl, List.forall_mem_cons.mpr ⟨Or.inr ⟨by decide, "java/lang/IllegalArgumentException", tw_884, List.mem_of_getElem? (i := 2) rfl⟩, fun w hw => absurd hw List.not_mem_nil⟩, hc _ (List.mem_of_getElem? (i := 1) rfl), by decide, tw_885, Or.inr nw_893, rfl⟩
theorem han_21 (G : va_G) (a0 a1 a2 a3 : ClassId) (n0 : Nat) (em mi ic : Nat) (pc : Nat) (h1 : 0 ≤ pc) (h2 : pc < 11) : HanOk (VV G a0 a1 a2 a3 n0) (DD em mi ic) 21 pc := by
  have hc : ∀ x ∈ tableOf [(0, 11, 14, 19), (0, 11, 18, 21)], covers x pc = true := by
    intro x hx
    simp [tableOf] at hx
    rcases hx with rfl | rfl <;> simp [covers] <;> omega
  intro k t hk
  have hk : (k, t) ∈ ([(0, 1), (1, 2)] : List (Nat × Nat)) := hk
  simp only [List.mem_cons, Prod.mk.injEq, List.not_mem_nil, or_false] at hk
  rcases hk with ⟨rfl, rfl⟩ | ⟨rfl, rfl⟩
  · exact ⟨(tableOf [(0, 11, 14, 19), (0, 11, 18, 21)]).take 0, _, (tableOf [(0, 11, 14, 19), (0, 11, 18, 21)]).drop 1, "java/lang/IllegalArgumentException", rfl, fun w hw => absurd hw List.not_mem_nil, hc _ (List.mem_of_getElem? (i := 0) rfl), by decide, tw_884, Or.inr nw_476, rfl⟩
  · exact ⟨(tableOf [(0, 11, 14, 19), (0, 11, 18, 21)]).take 1, _, (tableOf [(0, 11, 14, 19), (0, 11, 18, 21)]).drop 2, "java/lang/IllegalStateException", rfl, List.forall_mem_cons.mpr ⟨Or.inr ⟨by decide, "java/lang/IllegalArgumentException", tw_884, List.mem_of_getElem? (i := 2) rfl⟩, fun w hw => absurd hw List.not_mem_nil⟩, hc _ (List.mem_of_getElem? (i := 1) rfl), by decide, tw_885, Or.inr nw_893, rfl⟩
theorem han_23 (G : va_G) (a0 a1 a2 a3 : ClassId) (n0 : Nat) (em mi ic : Nat) (pc : Nat) (h1 : 0 ≤ pc) (h2 : pc < 10) : HanOk (VV G a0 a1 a2 a3 n0) (DD em mi ic) 23 pc := by
  have hc : ∀ x ∈ tableOf [(0, 10, 13, 19)], covers x pc = true := by
    intro x hx
    simp [tableOf] at hx
    rcases hx with rfl <;> simp [covers] <;> omega
  intro k t hk
  have hk : (k, t) ∈ ([(0, 1)] : List (Nat × Nat)) := hk
  simp only [List.mem_cons, Prod.mk.injEq, List.not_mem_nil, or_false] at hk
  rcases hk with ⟨rfl, rfl⟩
  · exact ⟨(tableOf [(0, 10, 13, 19)]).take 0, _, (tableOf [(0, 10, 13, 19)]).drop 1, "java/lang/IllegalArgumentException", rfl, fun w hw => absurd hw List.not_mem_nil, hc _ (List.mem_of_getElem? (i := 0) rfl), by decide, tw_884, Or.inr nw_476, rfl⟩
theorem han_25 (G : va_G) (a0 a1 a2 a3 : ClassId) (n0 : Nat) (em mi ic : Nat) (pc : Nat) (h1 : 0 ≤ pc) (h2 : pc < 10) : HanOk (VV G a0 a1 a2 a3 n0) (DD em mi ic) 25 pc := by
  have hc : ∀ x ∈ tableOf [(0, 10, 13, 19), (0, 10, 16, 21)], covers x pc = true := by
    intro x hx
    simp [tableOf] at hx
    rcases hx with rfl | rfl <;> simp [covers] <;> omega
  intro k t hk
  have hk : (k, t) ∈ ([(0, 1), (1, 2)] : List (Nat × Nat)) := hk
  simp only [List.mem_cons, Prod.mk.injEq, List.not_mem_nil, or_false] at hk
  rcases hk with ⟨rfl, rfl⟩ | ⟨rfl, rfl⟩
  · exact ⟨(tableOf [(0, 10, 13, 19), (0, 10, 16, 21)]).take 0, _, (tableOf [(0, 10, 13, 19), (0, 10, 16, 21)]).drop 1, "java/lang/IllegalArgumentException", rfl, fun w hw => absurd hw List.not_mem_nil, hc _ (List.mem_of_getElem? (i := 0) rfl), by decide, tw_884, Or.inr nw_476, rfl⟩
  · exact ⟨(tableOf [(0, 10, 13, 19), (0, 10, 16, 21)]).take 1, _, (tableOf [(0, 10, 13, 19), (0, 10, 16, 21)]).drop 2, "java/lang/IllegalStateException", rfl, List.forall_mem_cons.mpr ⟨Or.inr ⟨by decide, "java/lang/IllegalArgumentException", tw_884, List.mem_of_getElem? (i := 2) rfl⟩, fun w hw => absurd hw List.not_mem_nil⟩, hc _ (List.mem_of_getElem? (i := 1) rfl), by decide, tw_885, Or.inr nw_893, rfl⟩
theorem han_27 (G : va_G) (a0 a1 a2 a3 : ClassId) (n0 : Nat) (em mi ic : Nat) (pc : Nat) (h1 : 0 ≤ pc) (h2 : pc < 11) : HanOk (VV G a0 a1 a2 a3 n0) (DD em mi ic) 27 pc := by
  have hc : ∀ x ∈ tableOf [(0, 11, 14, 29)], covers x pc = true := by
    intro x hx
    simp [tableOf] at hx
    rcases hx with rfl <;> simp [covers] <;> omega
  intro k t hk
  have hk : (k, t) ∈ ([(2, 1)] : List (Nat × Nat)) := hk
  simp only [List.mem_cons, Prod.mk.injEq, List.not_mem_nil, or_false] at hk
  rcases hk with ⟨rfl, rfl⟩
  · exact ⟨(tableOf [(0, 11, 14, 29)]).take 0, _, (tableOf [(0, 11, 14, 29)]).drop 1, "java/lang/IndexOutOfBoundsException", rfl, fun w hw => absurd hw List.not_mem_nil, hc _ (List.mem_of_getElem? (i := 0) rfl), by decide, tw_1051, Or.inr nw_813, rfl⟩
theorem han_31 (G : va_G) (a0 a1 a2 a3 : ClassId) (n0 : Nat) (em mi ic : Nat) (pc : Nat) (h1 : 0 ≤ pc) (h2 : pc < 11) : HanOk (VV G a0 a1 a2 a3 n0) (DD em mi ic) 31 pc := by
  have hc : ∀ x ∈ tableOf [(0, 11, 14, 29), (0, 11, 18, 19)], covers x pc = true := by
    intro x hx
    simp [tableOf] at hx
    rcases hx with rfl | rfl <;> simp [covers] <;> omega
  intro k t hk
  have hk : (k, t) ∈ ([(2, 1), (0, 2)] : List (Nat × Nat)) := hk
  simp only [List.mem_cons, Prod.mk.injEq, List.not_mem_nil, or_false] at hk
  rcases hk with ⟨rfl, rfl⟩ | ⟨rfl, rfl⟩
  · exact ⟨(tableOf [(0, 11, 14, 29), (0, 11, 18, 19)]).take 0, _, (tableOf [(0, 11, 14, 29), (0, 11, 18, 19)]).drop 1, "java/lang/IndexOutOfBoundsException", rfl, fun w hw => absurd hw List.not_mem_nil, hc _ (List.mem_of_getElem? (i := 0) rfl), by decide, tw_1051, Or.inr nw_813, rfl⟩
  · exact ⟨(tableOf [(0, 11, 14, 29), (0, 11, 18, 19)]).take 1, _, (tableOf [(0, 11, 14, 29), (0, 11, 18, 19)]).drop 2, "java/lang/IllegalArgumentException", rfl, List.forall_mem_cons.mpr ⟨Or.inr ⟨by decide, "java/lang/IndexOutOfBoundsException", tw_1051, List.mem_of_getElem? (i := 1) rfl⟩, fun w hw => absurd hw List.not_mem_nil⟩, hc _ (List.mem_of_getElem? (i := 1) rfl), by decide, tw_884, Or.inr nw_476, rfl⟩
theorem han_33 (G : va_G) (a0 a1 a2 a3 : ClassId) (n0 : Nat) (em mi ic : Nat) (pc : Nat) (h1 : 0 ≤ pc) (h2 : pc < 11) : HanOk (VV G a0 a1 a2 a3 n0) (DD em mi ic) 33 pc := by
  have hc : ∀ x ∈ tableOf [(0, 11, 14, 29), (0, 11, 18, 19)], covers x pc = true := by
    intro x hx
    simp [tableOf] at hx
    rcases hx with rfl | rfl <;> simp [covers] <;> omega
  intro k t hk
  have hk : (k, t) ∈ ([(2, 1), (0, 2)] : List (Nat × Nat)) := hk
  simp only [List.mem_cons, Prod.mk.injEq, List.not_mem_nil, or_false] at hk
  rcases hk with ⟨rfl, rfl⟩ | ⟨rfl, rfl⟩
  · exact ⟨(tableOf [(0, 11, 14, 29), (0, 11, 18, 19)]).take 0, _, (tableOf [(0, 11, 14, 29), (0, 11, 18, 19)]).drop 1, "java/lang/IndexOutOfBoundsException", rfl, fun w hw => absurd hw List.not_mem_nil, hc _ (List.mem_of_getElem? (i := 0) rfl), by decide, tw_1051, Or.inr nw_813, rfl⟩
  · exact ⟨(tableOf [(0, 11, 14, 29), (0, 11, 18, 19)]).take 1, _, (tableOf [(0, 11, 14, 29), (0, 11, 18, 19)]).drop 2, "java/lang/IllegalArgumentException", rfl, List.forall_mem_cons.mpr ⟨Or.inr ⟨by decide, "java/lang/IndexOutOfBoundsException", tw_1051, List.mem_of_getElem? (i := 1) rfl⟩, fun w hw => absurd hw List.not_mem_nil⟩, hc _ (List.mem_of_getElem? (i := 1) rfl), by decide, tw_884, Or.inr nw_476, rfl⟩
theorem han_35 (G : va_G) (a0 a1 a2 a3 : ClassId) (n0 : Nat) (em mi ic : Nat) (pc : Nat) (h1 : 0 ≤ pc) (h2 : pc < 11) : HanOk (VV G a0 a1 a2 a3 n0) (DD em mi ic) 35 pc := by
  have hc : ∀ x ∈ tableOf [(0, 11, 14, 29), (0, 11, 18, 19)], covers x pc = true := by
    intro x hx
    simp [tableOf] at hx
    rcases hx with rfl | rfl <;> simp [covers] <;> omega
  intro k t hk
  have hk : (k, t) ∈ ([(2, 1), (0, 2)] : List (Nat × Nat)) := hk
  simp only [List.mem_cons, Prod.mk.injEq, List.not_mem_nil, or_false] at hk
  rcases hk with ⟨rfl, rfl⟩ | ⟨rfl, rfl⟩
  · exact ⟨(tableOf [(0, 11, 14, 29), (0, 11, 18, 19)]).take 0, _, (tableOf [(0, 11, 14, 29), (0, 11, 18, 19)]).drop 1, "java/lang/IndexOutOfBoundsException", rfl, fun w hw => absurd hw List.not_mem_nil, hc _ (List.mem_of_getElem? (i := 0) rfl), by decide, tw_1051, Or.inr nw_813, rfl⟩
  · exact ⟨(tableOf [(0, 11, 14, 29), (0, 11, 18, 19)]).take 1, _, (tableOf [(0, 11, 14, 29), (0, 11, 18, 19)]).drop 2, "java/lang/IllegalArgumentException", rfl, List.forall_mem_cons.mpr ⟨Or.inr ⟨by decide, "java/lang/IndexOutOfBoundsException", tw_1051, List.mem_of_getElem? (i := 1) rfl⟩, fun w hw => absurd hw List.not_mem_nil⟩, hc _ (List.mem_of_getElem? (i := 1) rfl), by decide, tw_884, Or.inr nw_476, rfl⟩
theorem han_37 (G : va_G) (a0 a1 a2 a3 : ClassId) (n0 : Nat) (em mi ic : Nat) (pc : Nat) (h1 : 0 ≤ pc) (h2 : pc < 11) : HanOk (VV G a0 a1 a2 a3 n0) (DD em mi ic) 37 pc := by
  have hc : ∀ x ∈ tableOf [(0, 11, 14, 29), (0, 11, 18, 19)], covers x pc = true := by
    intro x hx
    simp [tableOf] at hx
    rcases hx with rfl | rfl <;> simp [covers] <;> omega
  intro k t hk
  have hk : (k, t) ∈ ([(2, 1), (0, 2)] : List (Nat × Nat)) := hk
  simp only [List.mem_cons, Prod.mk.injEq, List.not_mem_nil, or_false] at hk
  rcases hk with ⟨rfl, rfl⟩ | ⟨rfl, rfl⟩
  · exact ⟨(tableOf [(0, 11, 14, 29), (0, 11, 18, 19)]).take 0, _, (tableOf [(0, 11, 14, 29), (0, 11, 18, 19)]).drop 1, "java/lang/IndexOutOfBoundsException", rfl, fun w hw => absurd hw List.not_mem_nil, hc _ (List.mem_of_getElem? (i := 0) rfl), by decide, tw_1051, Or.inr nw_813, rfl⟩
  · exact ⟨(tableOf [(0, 11, 14, 29), (0, 11, 18, 19)]).take 1, _, (tableOf [(0, 11, 14, 29), (0, 11, 18, 19)]).drop 2, "java/lang/IllegalArgumentException", rfl, List.forall_mem_cons.mpr ⟨Or.inr ⟨by decide, "java/lang/IndexOutOfBoundsException", tw_1051, List.mem_of_getElem? (i := 1) rfl⟩, fun w hw => absurd hw List.not_mem_nil⟩, hc _ (List.mem_of_getElem? (i := 1) rfl), by decide, tw_884, Or.inr nw_476, rfl⟩
theorem han_39 (G : va_G) (a0 a1 a2 a3 : ClassId) (n0 : Nat) (em mi ic : Nat) (pc : Nat) (h1 : 0 ≤ pc) (h2 : pc < 10) : HanOk (VV G a0 a1 a2 a3 n0) (DD em mi ic) 39 pc := by
  have hc : ∀ x ∈ tableOf [(0, 10, 13, 19)], covers x pc = true := by
    intro x hx
    simp [tableOf] at hx
    rcases hx with rfl <;> simp [covers] <;> omega
  intro k t hk
  have hk : (k, t) ∈ ([(0, 1)] : List (Nat × Nat)) := hk
  simp only [List.mem_cons, Prod.mk.injEq, List.not_mem_nil, or_false] at hk
  rcases hk with ⟨rfl, rfl⟩
  · exact ⟨(tableOf [(0, 10, 13, 19)]).take 0, _, (tableOf [(0, 10, 13, 19)]).drop 1, "java/lang/IllegalArgumentException", rfl, fun w hw => absurd hw List.not_mem_nil, hc _ (List.mem_of_getElem? (i := 0) rfl), by decide, tw_884, Or.inr nw_476, rfl⟩
theorem han_43 (G : va_G) (a0 a1 a2 a3 : ClassId) (n0 : Nat) (em mi ic : Nat) (pc : Nat) (h1 : 0 ≤ pc) (h2 : pc < 17) : HanOk (VV G a0 a1 a2 a3 n0) (DD em mi ic) 43 pc := by
  have hc : ∀ x ∈ tableOf [(0, 17, 20, 19)], covers x pc = true := by
    intro x hx
    simp [tableOf] at hx
    rcases hx with rfl <;> simp [covers] <;> omega
  intro k t hk
  have hk : (k, t) ∈ ([(0, 3)] : List (Nat × Nat)) := hk
  simp only [List.mem_cons, Prod.mk.injEq, List.not_mem_nil, or_false] at hk
  rcases hk with ⟨rfl, rfl⟩
  · exact ⟨(tableOf [(0, 17, 20, 19)]).take 0, _, (tableOf [(0, 17, 20, 19)]).drop 1, "java/lang/IllegalArgumentException", rfl, fun w hw => absurd hw List.not_mem_nil, hc _ (List.mem_of_getElem? (i := 0) rfl), by decide, tw_884, Or.inr nw_476, rfl⟩
theorem han_49 (G : va_G) (a0 a1 a2 a3 : ClassId) (n0 : Nat) (em mi ic : Nat) (pc : Nat) (h1 : 0 ≤ pc) (h2 : pc < 11) : HanOk (VV G a0 a1 a2 a3 n0) (DD em mi ic) 49 pc := by
  have hc : ∀ x ∈ tableOf [(0, 11, 14, 19)], covers x pc = true := by
    intro x hx
    simp [tableOf] at hx
    rcases hx with rfl <;> simp [covers] <;> omega
  intro k t hk
  have hk : (k, t) ∈ ([(0, 1)] : List (Nat × Nat)) := hk
  simp only [List.mem_cons, Prod.mk.injEq, List.not_mem_nil, or_false] at hk
  rcases hk with ⟨rfl, rfl⟩
  · exact ⟨(tableOf [(0, 11, 14, 19)]).take 0, _, (tableOf [(0, 11, 14, 19)]).drop 1, "java/lang/IllegalArgumentException", rfl, fun w hw => absurd hw List.not_mem_nil, hc _ (List.mem_of_getElem? (i := 0) rfl), by decide, tw_884, Or.inr nw_476, rfl⟩
theorem han_51 (G : va_G) (a0 a1 a2 a3 : ClassId) (n0 : Nat) (em mi ic : Nat) (pc : Nat) (h1 : 0 ≤ pc) (h2 : pc < 18) : HanOk (VV G a0 a1 a2 a3 n0) (DD em mi ic) 51 pc := by
  have hc : ∀ x ∈ tableOf [(0, 18, 21, 19)], covers x pc = true := by
    intro x hx
    simp [tableOf] at hx
    rcases hx with rfl <;> simp [covers] <;> omega
  intro k t hk
  have hk : (k, t) ∈ ([(0, 3)] : List (Nat × Nat)) := hk
  simp only [List.mem_cons, Prod.mk.injEq, List.not_mem_nil, or_false] at hk
  rcases hk with ⟨rfl, rfl⟩
  · exact ⟨(tableOf [(0, 18, 21, 19)]).take 0, _, (tableOf [(0, 18, 21, 19)]).drop 1, "java/lang/IllegalArgumentException", rfl, fun w hw => absurd hw List.not_mem_nil, hc _ (List.mem_of_getElem? (i := 0) rfl), by decide, tw_884, Or.inr nw_476, rfl⟩
theorem lsw_100_45 (G : va_G) (a0 a1 a2 a3 : ClassId) (n0 : Nat) (em mi ic : Nat) : ∀ x : Int, jmp (DD em mi ic) 100 45 (lsw [(0, 27), (1, 32)] x [3, 4] 5) (Op.lookupswitch.offset [(0, 27), (1, 32)] 37 x) := by
  intro x
  simp only [lsw, Op.lookupswitch.offset]
  by_cases h0 : x = 0
  · subst h0; rfl
  by_cases h1 : x = 1
  · subst h1; rfl
  simp only [if_neg h0, if_neg h1]
  first | rfl | (simp only [if_neg (Ne.symm h0), if_neg (Ne.symm h1)]; rfl) | (simp [h0, Ne.symm h0, h1, Ne.symm h1]; rfl)
theorem lsw_134_45 (G : va_G) (a0 a1 a2 a3 : ClassId) (n0 : Nat) (em mi ic : Nat) : ∀ x : Int, jmp (DD em mi ic) 134 45 (lsw [(0, 27), (1, 32)] x [3, 4] 5) (Op.lookupswitch.offset [(0, 27), (1, 32)] 37 x) := by
  intro x
  simp only [lsw, Op.lookupswitch.offset]
  by_cases h0 : x = 0
  · subst h0; rfl
  by_cases h1 : x = 1
  · subst h1; rfl
  simp only [if_neg h0, if_neg h1]
  first | rfl | (simp only [if_neg (Ne.symm h0), if_neg (Ne.symm h1)]; rfl) | (simp [h0, Ne.symm h0, h1, Ne.symm h1]; rfl)
