/-! what the tables say of each method, row by row, by program -/
theorem sg0_0 (em mi ic : Nat) : mSeg (DD em mi ic) 0 0 = g0_0 := rfl
theorem lv0_0 (em mi ic : Nat) : mLive (DD em mi ic) 0 0 = [1, 0, 0, 0, 0, 0, 0] := rfl
theorem sg0_1 (em mi ic : Nat) : mSeg (DD em mi ic) 0 1 = g0_1 := rfl
theorem lv0_1 (em mi ic : Nat) : mLive (DD em mi ic) 0 1 = [1, 1, 1, 1, 1, 0, 0] := rfl
theorem sg0_2 (em mi ic : Nat) : mSeg (DD em mi ic) 0 2 = g0_2 := rfl
theorem lv0_2 (em mi ic : Nat) : mLive (DD em mi ic) 0 2 = [1, 1, 1, 1, 1, 0, 0] := rfl
theorem sg0_3 (em mi ic : Nat) : mSeg (DD em mi ic) 0 3 = g0_3 := rfl
theorem lv0_3 (em mi ic : Nat) : mLive (DD em mi ic) 0 3 = [1, 1, 1, 1, 1, 0, 0] := rfl
theorem sg0_4 (em mi ic : Nat) : mSeg (DD em mi ic) 0 4 = g0_4 := rfl
theorem lv0_4 (em mi ic : Nat) : mLive (DD em mi ic) 0 4 = [1, 1, 1, 1, 1, 0, 0] := rfl
theorem sg0_5 (em mi ic : Nat) : mSeg (DD em mi ic) 0 5 = g0_5 := rfl
theorem lv0_5 (em mi ic : Nat) : mLive (DD em mi ic) 0 5 = [1, 1, 1, 1, 1, 0, 0] := rfl
theorem sg0_6 (em mi ic : Nat) : mSeg (DD em mi ic) 0 6 = g0_6 := rfl
theorem lv0_6 (em mi ic : Nat) : mLive (DD em mi ic) 0 6 = [1, 1, 1, 1, 1, 0, 0] := rfl
theorem sg0_7 (em mi ic : Nat) : mSeg (DD em mi ic) 0 7 = g0_7 := rfl
theorem lv0_7 (em mi ic : Nat) : mLive (DD em mi ic) 0 7 = [1, 1, 1, 1, 1, 0, 0] := rfl
theorem sg0_8 (em mi ic : Nat) : mSeg (DD em mi ic) 0 8 = g0_8 := rfl
theorem lv0_8 (em mi ic : Nat) : mLive (DD em mi ic) 0 8 = [1, 1, 1, 1, 1, 1, 0] := rfl
theorem sg0_9 (em mi ic : Nat) : mSeg (DD em mi ic) 0 9 = g0_9 := rfl
theorem lv0_9 (em mi ic : Nat) : mLive (DD em mi ic) 0 9 = [1, 1, 1, 1, 1, 1, 0] := rfl
theorem sg0_10 (em mi ic : Nat) : mSeg (DD em mi ic) 0 10 = g0_10 := rfl
theorem lv0_10 (em mi ic : Nat) : mLive (DD em mi ic) 0 10 = [1, 1, 1, 1, 1, 1, 1] := rfl
theorem sg0_11 (em mi ic : Nat) : mSeg (DD em mi ic) 0 11 = g0_11 := rfl
theorem lv0_11 (em mi ic : Nat) : mLive (DD em mi ic) 0 11 = [1, 1, 1, 1, 1, 0, 0] := rfl
theorem sg0_12 (em mi ic : Nat) : mSeg (DD em mi ic) 0 12 = g0_12 := rfl
theorem lv0_12 (em mi ic : Nat) : mLive (DD em mi ic) 0 12 = [1, 1, 1, 1, 1, 0, 0] := rfl
theorem sg0_13 (em mi ic : Nat) : mSeg (DD em mi ic) 0 13 = g0_13 := rfl
theorem lv0_13 (em mi ic : Nat) : mLive (DD em mi ic) 0 13 = [1, 1, 1, 1, 1, 0, 0] := rfl
theorem sg0_14 (em mi ic : Nat) : mSeg (DD em mi ic) 0 14 = g0_14 := rfl
theorem lv0_14 (em mi ic : Nat) : mLive (DD em mi ic) 0 14 = [1, 1, 1, 1, 1, 0, 0] := rfl
theorem sg0_15 (em mi ic : Nat) : mSeg (DD em mi ic) 0 15 = g0_15 := rfl
theorem lv0_15 (em mi ic : Nat) : mLive (DD em mi ic) 0 15 = [1, 1, 1, 1, 1, 0, 0] := rfl
theorem sg0_16 (em mi ic : Nat) : mSeg (DD em mi ic) 0 16 = g0_16 := rfl
theorem lv0_16 (em mi ic : Nat) : mLive (DD em mi ic) 0 16 = [1, 1, 1, 1, 1, 0, 0] := rfl
theorem sg0_17 (em mi ic : Nat) : mSeg (DD em mi ic) 0 17 = g0_17 := rfl
theorem lv0_17 (em mi ic : Nat) : mLive (DD em mi ic) 0 17 = [1, 1, 1, 1, 1, 0, 0] := rfl
theorem sg0_18 (em mi ic : Nat) : mSeg (DD em mi ic) 0 18 = g0_18 := rfl
theorem lv0_18 (em mi ic : Nat) : mLive (DD em mi ic) 0 18 = [1, 1, 1, 1, 1, 0, 0] := rfl
theorem sg0_19 (em mi ic : Nat) : mSeg (DD em mi ic) 0 19 = g0_19 := rfl
theorem lv0_19 (em mi ic : Nat) : mLive (DD em mi ic) 0 19 = [1, 1, 1, 1, 1, 0, 0] := rfl
theorem sg0_20 (em mi ic : Nat) : mSeg (DD em mi ic) 0 20 = g0_20 := rfl
theorem lv0_20 (em mi ic : Nat) : mLive (DD em mi ic) 0 20 = [1, 1, 1, 1, 1, 0, 0] := rfl
theorem sg0_21 (em mi ic : Nat) : mSeg (DD em mi ic) 0 21 = g0_21 := rfl
theorem lv0_21 (em mi ic : Nat) : mLive (DD em mi ic) 0 21 = [1, 1, 1, 1, 1, 0, 0] := rfl
theorem sg0_22 (em mi ic : Nat) : mSeg (DD em mi ic) 0 22 = g0_22 := rfl
theorem lv0_22 (em mi ic : Nat) : mLive (DD em mi ic) 0 22 = [1, 1, 1, 1, 1, 0, 0] := rfl
theorem sg0_23 (em mi ic : Nat) : mSeg (DD em mi ic) 0 23 = g0_23 := rfl
theorem lv0_23 (em mi ic : Nat) : mLive (DD em mi ic) 0 23 = [1, 1, 1, 1, 1, 0, 0] := rfl
theorem sg0_24 (em mi ic : Nat) : mSeg (DD em mi ic) 0 24 = g0_24 := rfl
theorem lv0_24 (em mi ic : Nat) : mLive (DD em mi ic) 0 24 = [1, 1, 1, 1, 1, 0, 0] := rfl
theorem sg0_25 (em mi ic : Nat) : mSeg (DD em mi ic) 0 25 = g0_25 := rfl
theorem lv0_25 (em mi ic : Nat) : mLive (DD em mi ic) 0 25 = [1, 1, 1, 1, 1, 0, 0] := rfl
theorem sg0_26 (em mi ic : Nat) : mSeg (DD em mi ic) 0 26 = g0_26 := rfl
theorem lv0_26 (em mi ic : Nat) : mLive (DD em mi ic) 0 26 = [1, 1, 1, 1, 1, 0, 0] := rfl
theorem sg0_27 (em mi ic : Nat) : mSeg (DD em mi ic) 0 27 = g0_27 := rfl
theorem lv0_27 (em mi ic : Nat) : mLive (DD em mi ic) 0 27 = [1, 1, 1, 1, 1, 0, 0] := rfl
theorem sg0_28 (em mi ic : Nat) : mSeg (DD em mi ic) 0 28 = g0_28 := rfl
theorem lv0_28 (em mi ic : Nat) : mLive (DD em mi ic) 0 28 = [1, 1, 1, 1, 1, 0, 0] := rfl
theorem sg0_29 (em mi ic : Nat) : mSeg (DD em mi ic) 0 29 = g0_29 := rfl
theorem lv0_29 (em mi ic : Nat) : mLive (DD em mi ic) 0 29 = [1, 1, 1, 1, 1, 0, 0] := rfl
theorem sg0_30 (em mi ic : Nat) : mSeg (DD em mi ic) 0 30 = g0_30 := rfl
theorem lv0_30 (em mi ic : Nat) : mLive (DD em mi ic) 0 30 = [1, 1, 1, 1, 1, 0, 0] := rfl
theorem sg0_31 (em mi ic : Nat) : mSeg (DD em mi ic) 0 31 = g0_31 := rfl
theorem lv0_31 (em mi ic : Nat) : mLive (DD em mi ic) 0 31 = [1, 1, 1, 1, 1, 0, 0] := rfl
theorem sg0_32 (em mi ic : Nat) : mSeg (DD em mi ic) 0 32 = g0_32 := rfl
theorem lv0_32 (em mi ic : Nat) : mLive (DD em mi ic) 0 32 = [1, 1, 1, 1, 1, 0, 0] := rfl
theorem sg0_33 (em mi ic : Nat) : mSeg (DD em mi ic) 0 33 = g0_33 := rfl
theorem lv0_33 (em mi ic : Nat) : mLive (DD em mi ic) 0 33 = [1, 1, 1, 1, 1, 0, 0] := rfl
theorem sg0_34 (em mi ic : Nat) : mSeg (DD em mi ic) 0 34 = g0_34 := rfl
theorem lv0_34 (em mi ic : Nat) : mLive (DD em mi ic) 0 34 = [1, 1, 1, 1, 1, 0, 0] := rfl
theorem sg0_35 (em mi ic : Nat) : mSeg (DD em mi ic) 0 35 = g0_35 := rfl
theorem lv0_35 (em mi ic : Nat) : mLive (DD em mi ic) 0 35 = [1, 1, 1, 1, 1, 0, 0] := rfl
theorem sg0_36 (em mi ic : Nat) : mSeg (DD em mi ic) 0 36 = g0_36 := rfl
theorem lv0_36 (em mi ic : Nat) : mLive (DD em mi ic) 0 36 = [1, 1, 1, 1, 1, 0, 0] := rfl
theorem sg0_37 (em mi ic : Nat) : mSeg (DD em mi ic) 0 37 = g0_37 := rfl
theorem lv0_37 (em mi ic : Nat) : mLive (DD em mi ic) 0 37 = [1, 1, 1, 1, 1, 0, 0] := rfl
theorem sg0_38 (em mi ic : Nat) : mSeg (DD em mi ic) 0 38 = g0_38 := rfl
theorem lv0_38 (em mi ic : Nat) : mLive (DD em mi ic) 0 38 = [1, 1, 1, 1, 1, 0, 0] := rfl
theorem sg0_39 (em mi ic : Nat) : mSeg (DD em mi ic) 0 39 = g0_39 := rfl
theorem lv0_39 (em mi ic : Nat) : mLive (DD em mi ic) 0 39 = [0, 0, 0, 0, 0, 0, 0] := rfl
theorem bc_0 (em mi ic : Nat) : mBc (DD em mi ic) 0 = 200000 := rfl
theorem bs_0 (em mi ic : Nat) : mBs (DD em mi ic) 0 = 2000000 := rfl
theorem rt_0 (em mi ic : Nat) : mRet (DD em mi ic) 0 = some .boolean := rfl
theorem ml_0 (em mi ic : Nat) : mMaxL (DD em mi ic) 0 = 7 := rfl
theorem sg1_0 (em mi ic : Nat) : mSeg (DD em mi ic) 1 0 = g1_0 := rfl
theorem lv1_0 (em mi ic : Nat) : mLive (DD em mi ic) 1 0 = [1, 0, 0, 0, 0] := rfl
theorem bc_1 (em mi ic : Nat) : mBc (DD em mi ic) 1 = 15 := rfl
theorem bs_1 (em mi ic : Nat) : mBs (DD em mi ic) 1 = 60 := rfl
theorem rt_1 (em mi ic : Nat) : mRet (DD em mi ic) 1 = none := rfl
theorem ml_1 (em mi ic : Nat) : mMaxL (DD em mi ic) 1 = 5 := rfl
theorem sg2_0 (em mi ic : Nat) : mSeg (DD em mi ic) 2 0 = g2_0 := rfl
theorem lv2_0 (em mi ic : Nat) : mLive (DD em mi ic) 2 0 = [1] := rfl
theorem bc_2 (em mi ic : Nat) : mBc (DD em mi ic) 2 = 5 := rfl
theorem bs_2 (em mi ic : Nat) : mBs (DD em mi ic) 2 = 15 := rfl
theorem rt_2 (em mi ic : Nat) : mRet (DD em mi ic) 2 = none := rfl
theorem ml_2 (em mi ic : Nat) : mMaxL (DD em mi ic) 2 = 1 := rfl
theorem sg3_0 (em mi ic : Nat) : mSeg (DD em mi ic) 3 0 = g3_0 := rfl
theorem lv3_0 (em mi ic : Nat) : mLive (DD em mi ic) 3 0 = [1] := rfl
theorem bc_3 (em mi ic : Nat) : mBc (DD em mi ic) 3 = 0 := rfl
theorem bs_3 (em mi ic : Nat) : mBs (DD em mi ic) 3 = 0 := rfl
theorem rt_3 (em mi ic : Nat) : mRet (DD em mi ic) 3 = none := rfl
theorem ml_3 (em mi ic : Nat) : mMaxL (DD em mi ic) 3 = 1 := rfl
theorem sg4_0 (em mi ic : Nat) : mSeg (DD em mi ic) 4 0 = g4_0 := rfl
theorem lv4_0 (em mi ic : Nat) : mLive (DD em mi ic) 4 0 = [1, 1, 1, 1, 0] := rfl
theorem sg4_1 (em mi ic : Nat) : mSeg (DD em mi ic) 4 1 = g4_1 := rfl
theorem lv4_1 (em mi ic : Nat) : mLive (DD em mi ic) 4 1 = [0, 0, 0, 0, 0] := rfl
theorem sg4_2 (em mi ic : Nat) : mSeg (DD em mi ic) 4 2 = g4_2 := rfl
theorem lv4_2 (em mi ic : Nat) : mLive (DD em mi ic) 4 2 = [0, 0, 0, 0, 0] := rfl
theorem sg4_3 (em mi ic : Nat) : mSeg (DD em mi ic) 4 3 = g4_3 := rfl
theorem lv4_3 (em mi ic : Nat) : mLive (DD em mi ic) 4 3 = [0, 0, 0, 0, 0] := rfl
theorem bc_4 (em mi ic : Nat) : mBc (DD em mi ic) 4 = 3 := rfl
theorem bs_4 (em mi ic : Nat) : mBs (DD em mi ic) 4 = 24 := rfl
theorem rt_4 (em mi ic : Nat) : mRet (DD em mi ic) 4 = some .int := rfl
theorem ml_4 (em mi ic : Nat) : mMaxL (DD em mi ic) 4 = 5 := rfl
theorem hn_4 (em mi ic : Nat) : mHan (DD em mi ic) 4 = [(0, 1), (1, 2)] := rfl
theorem sg5_0 (em mi ic : Nat) : mSeg (DD em mi ic) 5 0 = g5_0 := rfl
theorem lv5_0 (em mi ic : Nat) : mLive (DD em mi ic) 5 0 = [1, 1, 1] := rfl
theorem sg5_1 (em mi ic : Nat) : mSeg (DD em mi ic) 5 1 = g5_1 := rfl
theorem lv5_1 (em mi ic : Nat) : mLive (DD em mi ic) 5 1 = [1, 0, 0] := rfl
theorem sg5_2 (em mi ic : Nat) : mSeg (DD em mi ic) 5 2 = g5_2 := rfl
theorem lv5_2 (em mi ic : Nat) : mLive (DD em mi ic) 5 2 = [1, 1, 1] := rfl
theorem sg5_3 (em mi ic : Nat) : mSeg (DD em mi ic) 5 3 = g5_3 := rfl
theorem lv5_3 (em mi ic : Nat) : mLive (DD em mi ic) 5 3 = [1, 1, 1] := rfl
theorem bc_5 (em mi ic : Nat) : mBc (DD em mi ic) 5 = 2 := rfl
theorem bs_5 (em mi ic : Nat) : mBs (DD em mi ic) 5 = 17 := rfl
theorem rt_5 (em mi ic : Nat) : mRet (DD em mi ic) 5 = some .int := rfl
theorem ml_5 (em mi ic : Nat) : mMaxL (DD em mi ic) 5 = 3 := rfl
theorem sg6_0 (em mi ic : Nat) : mSeg (DD em mi ic) 6 0 = g6_0 := rfl
theorem lv6_0 (em mi ic : Nat) : mLive (DD em mi ic) 6 0 = [1, 1, 1, 1, 0] := rfl
theorem sg6_1 (em mi ic : Nat) : mSeg (DD em mi ic) 6 1 = g6_1 := rfl
theorem lv6_1 (em mi ic : Nat) : mLive (DD em mi ic) 6 1 = [0, 0, 0, 0, 0] := rfl
theorem sg6_2 (em mi ic : Nat) : mSeg (DD em mi ic) 6 2 = g6_2 := rfl
theorem lv6_2 (em mi ic : Nat) : mLive (DD em mi ic) 6 2 = [0, 0, 0, 0, 0] := rfl
theorem sg6_3 (em mi ic : Nat) : mSeg (DD em mi ic) 6 3 = g6_3 := rfl
theorem lv6_3 (em mi ic : Nat) : mLive (DD em mi ic) 6 3 = [0, 0, 0, 0, 0] := rfl
theorem bc_6 (em mi ic : Nat) : mBc (DD em mi ic) 6 = 3 := rfl
theorem bs_6 (em mi ic : Nat) : mBs (DD em mi ic) 6 = 24 := rfl
theorem rt_6 (em mi ic : Nat) : mRet (DD em mi ic) 6 = some .int := rfl
theorem ml_6 (em mi ic : Nat) : mMaxL (DD em mi ic) 6 = 5 := rfl
theorem hn_6 (em mi ic : Nat) : mHan (DD em mi ic) 6 = [(0, 1), (1, 2)] := rfl
theorem sg7_0 (em mi ic : Nat) : mSeg (DD em mi ic) 7 0 = g7_0 := rfl
theorem lv7_0 (em mi ic : Nat) : mLive (DD em mi ic) 7 0 = [1, 1, 1] := rfl
theorem sg7_1 (em mi ic : Nat) : mSeg (DD em mi ic) 7 1 = g7_1 := rfl
theorem lv7_1 (em mi ic : Nat) : mLive (DD em mi ic) 7 1 = [1, 0, 0] := rfl
theorem sg7_2 (em mi ic : Nat) : mSeg (DD em mi ic) 7 2 = g7_2 := rfl
theorem lv7_2 (em mi ic : Nat) : mLive (DD em mi ic) 7 2 = [1, 1, 1] := rfl
theorem sg7_3 (em mi ic : Nat) : mSeg (DD em mi ic) 7 3 = g7_3 := rfl
theorem lv7_3 (em mi ic : Nat) : mLive (DD em mi ic) 7 3 = [1, 1, 1] := rfl
theorem bc_7 (em mi ic : Nat) : mBc (DD em mi ic) 7 = 2 := rfl
theorem bs_7 (em mi ic : Nat) : mBs (DD em mi ic) 7 = 17 := rfl
theorem rt_7 (em mi ic : Nat) : mRet (DD em mi ic) 7 = some .int := rfl
theorem ml_7 (em mi ic : Nat) : mMaxL (DD em mi ic) 7 = 3 := rfl
theorem sg8_0 (em mi ic : Nat) : mSeg (DD em mi ic) 8 0 = g8_0 := rfl
theorem lv8_0 (em mi ic : Nat) : mLive (DD em mi ic) 8 0 = [1, 1, 1, 1, 0] := rfl
theorem sg8_1 (em mi ic : Nat) : mSeg (DD em mi ic) 8 1 = g8_1 := rfl
theorem lv8_1 (em mi ic : Nat) : mLive (DD em mi ic) 8 1 = [0, 0, 0, 0, 0] := rfl
theorem sg8_2 (em mi ic : Nat) : mSeg (DD em mi ic) 8 2 = g8_2 := rfl
theorem lv8_2 (em mi ic : Nat) : mLive (DD em mi ic) 8 2 = [0, 0, 0, 0, 0] := rfl
theorem sg8_3 (em mi ic : Nat) : mSeg (DD em mi ic) 8 3 = g8_3 := rfl
theorem lv8_3 (em mi ic : Nat) : mLive (DD em mi ic) 8 3 = [0, 0, 0, 0, 0] := rfl
theorem bc_8 (em mi ic : Nat) : mBc (DD em mi ic) 8 = 1 := rfl
theorem bs_8 (em mi ic : Nat) : mBs (DD em mi ic) 8 = 6 := rfl
theorem rt_8 (em mi ic : Nat) : mRet (DD em mi ic) 8 = some .int := rfl
theorem ml_8 (em mi ic : Nat) : mMaxL (DD em mi ic) 8 = 5 := rfl
theorem hn_8 (em mi ic : Nat) : mHan (DD em mi ic) 8 = [(2, 1), (0, 2)] := rfl
theorem sg9_0 (em mi ic : Nat) : mSeg (DD em mi ic) 9 0 = g9_0 := rfl
theorem lv9_0 (em mi ic : Nat) : mLive (DD em mi ic) 9 0 = [1, 1, 1, 0] := rfl
theorem sg9_1 (em mi ic : Nat) : mSeg (DD em mi ic) 9 1 = g9_1 := rfl
theorem lv9_1 (em mi ic : Nat) : mLive (DD em mi ic) 9 1 = [1, 1, 1, 0] := rfl
theorem sg9_2 (em mi ic : Nat) : mSeg (DD em mi ic) 9 2 = g9_2 := rfl
theorem lv9_2 (em mi ic : Nat) : mLive (DD em mi ic) 9 2 = [1, 1, 1, 0] := rfl
theorem bc_9 (em mi ic : Nat) : mBc (DD em mi ic) 9 = 0 := rfl
theorem bs_9 (em mi ic : Nat) : mBs (DD em mi ic) 9 = 0 := rfl
theorem rt_9 (em mi ic : Nat) : mRet (DD em mi ic) 9 = some .int := rfl
theorem ml_9 (em mi ic : Nat) : mMaxL (DD em mi ic) 9 = 4 := rfl
theorem sg10_0 (em mi ic : Nat) : mSeg (DD em mi ic) 10 0 = g10_0 := rfl
theorem lv10_0 (em mi ic : Nat) : mLive (DD em mi ic) 10 0 = [1, 1, 1, 1, 1, 0] := rfl
theorem sg10_1 (em mi ic : Nat) : mSeg (DD em mi ic) 10 1 = g10_1 := rfl
theorem lv10_1 (em mi ic : Nat) : mLive (DD em mi ic) 10 1 = [0, 0, 0, 0, 0, 0] := rfl
theorem sg10_2 (em mi ic : Nat) : mSeg (DD em mi ic) 10 2 = g10_2 := rfl
theorem lv10_2 (em mi ic : Nat) : mLive (DD em mi ic) 10 2 = [0, 0, 0, 0, 0, 0] := rfl
theorem sg10_3 (em mi ic : Nat) : mSeg (DD em mi ic) 10 3 = g10_3 := rfl
theorem lv10_3 (em mi ic : Nat) : mLive (DD em mi ic) 10 3 = [0, 0, 0, 0, 0, 0] := rfl
theorem sg10_4 (em mi ic : Nat) : mSeg (DD em mi ic) 10 4 = g10_4 := rfl
theorem lv10_4 (em mi ic : Nat) : mLive (DD em mi ic) 10 4 = [0, 0, 0, 0, 0, 0] := rfl
theorem bc_10 (em mi ic : Nat) : mBc (DD em mi ic) 10 = 3 := rfl
theorem bs_10 (em mi ic : Nat) : mBs (DD em mi ic) 10 = 26 := rfl
theorem rt_10 (em mi ic : Nat) : mRet (DD em mi ic) 10 = some .int := rfl
theorem ml_10 (em mi ic : Nat) : mMaxL (DD em mi ic) 10 = 6 := rfl
theorem hn_10 (em mi ic : Nat) : mHan (DD em mi ic) 10 = [(2, 1), (0, 2), (1, 3)] := rfl
theorem sg11_0 (em mi ic : Nat) : mSeg (DD em mi ic) 11 0 = g11_0 := rfl
theorem lv11_0 (em mi ic : Nat) : mLive (DD em mi ic) 11 0 = [1, 1, 1, 1, 0] := rfl
theorem sg11_1 (em mi ic : Nat) : mSeg (DD em mi ic) 11 1 = g11_1 := rfl
theorem lv11_1 (em mi ic : Nat) : mLive (DD em mi ic) 11 1 = [1, 1, 1, 1, 0] := rfl
theorem sg11_2 (em mi ic : Nat) : mSeg (DD em mi ic) 11 2 = g11_2 := rfl
theorem lv11_2 (em mi ic : Nat) : mLive (DD em mi ic) 11 2 = [1, 1, 1, 1, 0] := rfl
theorem sg11_3 (em mi ic : Nat) : mSeg (DD em mi ic) 11 3 = g11_3 := rfl
theorem lv11_3 (em mi ic : Nat) : mLive (DD em mi ic) 11 3 = [1, 1, 1, 1, 0] := rfl
theorem sg11_4 (em mi ic : Nat) : mSeg (DD em mi ic) 11 4 = g11_4 := rfl
theorem lv11_4 (em mi ic : Nat) : mLive (DD em mi ic) 11 4 = [1, 0, 0, 0, 1] := rfl
theorem sg11_5 (em mi ic : Nat) : mSeg (DD em mi ic) 11 5 = g11_5 := rfl
theorem lv11_5 (em mi ic : Nat) : mLive (DD em mi ic) 11 5 = [1, 0, 0, 0, 1] := rfl
theorem bc_11 (em mi ic : Nat) : mBc (DD em mi ic) 11 = 2 := rfl
theorem bs_11 (em mi ic : Nat) : mBs (DD em mi ic) 11 = 19 := rfl
theorem rt_11 (em mi ic : Nat) : mRet (DD em mi ic) 11 = some .int := rfl
theorem ml_11 (em mi ic : Nat) : mMaxL (DD em mi ic) 11 = 5 := rfl
theorem sg12_0 (em mi ic : Nat) : mSeg (DD em mi ic) 12 0 = g12_0 := rfl
theorem lv12_0 (em mi ic : Nat) : mLive (DD em mi ic) 12 0 = [1] := rfl
theorem bc_12 (em mi ic : Nat) : mBc (DD em mi ic) 12 = 0 := rfl
theorem bs_12 (em mi ic : Nat) : mBs (DD em mi ic) 12 = 0 := rfl
theorem rt_12 (em mi ic : Nat) : mRet (DD em mi ic) 12 = some .int := rfl
theorem ml_12 (em mi ic : Nat) : mMaxL (DD em mi ic) 12 = 1 := rfl
theorem sg13_0 (em mi ic : Nat) : mSeg (DD em mi ic) 13 0 = g13_0 := rfl
theorem lv13_0 (em mi ic : Nat) : mLive (DD em mi ic) 13 0 = [1, 1, 1, 1, 0] := rfl
theorem sg13_1 (em mi ic : Nat) : mSeg (DD em mi ic) 13 1 = g13_1 := rfl
theorem lv13_1 (em mi ic : Nat) : mLive (DD em mi ic) 13 1 = [0, 0, 0, 0, 0] := rfl
theorem sg13_2 (em mi ic : Nat) : mSeg (DD em mi ic) 13 2 = g13_2 := rfl
theorem lv13_2 (em mi ic : Nat) : mLive (DD em mi ic) 13 2 = [0, 0, 0, 0, 0] := rfl
theorem bc_13 (em mi ic : Nat) : mBc (DD em mi ic) 13 = 1 := rfl
theorem bs_13 (em mi ic : Nat) : mBs (DD em mi ic) 13 = 6 := rfl
theorem rt_13 (em mi ic : Nat) : mRet (DD em mi ic) 13 = some .int := rfl
theorem ml_13 (em mi ic : Nat) : mMaxL (DD em mi ic) 13 = 5 := rfl
theorem hn_13 (em mi ic : Nat) : mHan (DD em mi ic) 13 = [(0, 1)] := rfl
theorem sg14_0 (em mi ic : Nat) : mSeg (DD em mi ic) 14 0 = g14_0 := rfl
theorem lv14_0 (em mi ic : Nat) : mLive (DD em mi ic) 14 0 = [1, 1, 1, 0] := rfl
theorem sg14_1 (em mi ic : Nat) : mSeg (DD em mi ic) 14 1 = g14_1 := rfl
theorem lv14_1 (em mi ic : Nat) : mLive (DD em mi ic) 14 1 = [1, 0, 0, 0] := rfl
theorem sg14_2 (em mi ic : Nat) : mSeg (DD em mi ic) 14 2 = g14_2 := rfl
theorem lv14_2 (em mi ic : Nat) : mLive (DD em mi ic) 14 2 = [1, 1, 1, 0] := rfl
theorem bc_14 (em mi ic : Nat) : mBc (DD em mi ic) 14 = 0 := rfl
theorem bs_14 (em mi ic : Nat) : mBs (DD em mi ic) 14 = 0 := rfl
theorem rt_14 (em mi ic : Nat) : mRet (DD em mi ic) 14 = some .int := rfl
theorem ml_14 (em mi ic : Nat) : mMaxL (DD em mi ic) 14 = 4 := rfl
theorem sg15_0 (em mi ic : Nat) : mSeg (DD em mi ic) 15 0 = g15_0 := rfl
theorem lv15_0 (em mi ic : Nat) : mLive (DD em mi ic) 15 0 = [1, 1, 1, 0] := rfl
theorem sg15_1 (em mi ic : Nat) : mSeg (DD em mi ic) 15 1 = g15_1 := rfl
theorem lv15_1 (em mi ic : Nat) : mLive (DD em mi ic) 15 1 = [0, 0, 0, 0] := rfl
theorem sg15_2 (em mi ic : Nat) : mSeg (DD em mi ic) 15 2 = g15_2 := rfl
theorem lv15_2 (em mi ic : Nat) : mLive (DD em mi ic) 15 2 = [0, 0, 0, 0] := rfl
theorem bc_15 (em mi ic : Nat) : mBc (DD em mi ic) 15 = 1 := rfl
theorem bs_15 (em mi ic : Nat) : mBs (DD em mi ic) 15 = 6 := rfl
theorem rt_15 (em mi ic : Nat) : mRet (DD em mi ic) 15 = some .int := rfl
theorem ml_15 (em mi ic : Nat) : mMaxL (DD em mi ic) 15 = 4 := rfl
theorem hn_15 (em mi ic : Nat) : mHan (DD em mi ic) 15 = [(0, 1)] := rfl
theorem sg16_0 (em mi ic : Nat) : mSeg (DD em mi ic) 16 0 = g16_0 := rfl
theorem lv16_0 (em mi ic : Nat) : mLive (DD em mi ic) 16 0 = [1, 1, 0] := rfl
theorem sg16_1 (em mi ic : Nat) : mSeg (DD em mi ic) 16 1 = g16_1 := rfl
theorem lv16_1 (em mi ic : Nat) : mLive (DD em mi ic) 16 1 = [1, 1, 0] := rfl
theorem bc_16 (em mi ic : Nat) : mBc (DD em mi ic) 16 = 0 := rfl
theorem bs_16 (em mi ic : Nat) : mBs (DD em mi ic) 16 = 0 := rfl
theorem rt_16 (em mi ic : Nat) : mRet (DD em mi ic) 16 = some .int := rfl
theorem ml_16 (em mi ic : Nat) : mMaxL (DD em mi ic) 16 = 3 := rfl
theorem sg17_0 (em mi ic : Nat) : mSeg (DD em mi ic) 17 0 = g17_0 := rfl
theorem lv17_0 (em mi ic : Nat) : mLive (DD em mi ic) 17 0 = [1, 1, 1, 0] := rfl
theorem sg17_1 (em mi ic : Nat) : mSeg (DD em mi ic) 17 1 = g17_1 := rfl
theorem lv17_1 (em mi ic : Nat) : mLive (DD em mi ic) 17 1 = [0, 0, 0, 0] := rfl
theorem sg17_2 (em mi ic : Nat) : mSeg (DD em mi ic) 17 2 = g17_2 := rfl
theorem lv17_2 (em mi ic : Nat) : mLive (DD em mi ic) 17 2 = [0, 0, 0, 0] := rfl
theorem sg17_3 (em mi ic : Nat) : mSeg (DD em mi ic) 17 3 = g17_3 := rfl
theorem lv17_3 (em mi ic : Nat) : mLive (DD em mi ic) 17 3 = [0, 0, 0, 0] := rfl
theorem bc_17 (em mi ic : Nat) : mBc (DD em mi ic) 17 = 1 := rfl
theorem bs_17 (em mi ic : Nat) : mBs (DD em mi ic) 17 = 6 := rfl
theorem rt_17 (em mi ic : Nat) : mRet (DD em mi ic) 17 = some .int := rfl
theorem ml_17 (em mi ic : Nat) : mMaxL (DD em mi ic) 17 = 4 := rfl
theorem hn_17 (em mi ic : Nat) : mHan (DD em mi ic) 17 = [(2, 1), (1, 2)] := rfl
theorem sg18_0 (em mi ic : Nat) : mSeg (DD em mi ic) 18 0 = g18_0 := rfl
theorem lv18_0 (em mi ic : Nat) : mLive (DD em mi ic) 18 0 = [1, 1] := rfl
theorem sg18_1 (em mi ic : Nat) : mSeg (DD em mi ic) 18 1 = g18_1 := rfl
theorem lv18_1 (em mi ic : Nat) : mLive (DD em mi ic) 18 1 = [1, 1] := rfl
theorem sg18_2 (em mi ic : Nat) : mSeg (DD em mi ic) 18 2 = g18_2 := rfl
theorem lv18_2 (em mi ic : Nat) : mLive (DD em mi ic) 18 2 = [1, 0] := rfl
theorem sg18_3 (em mi ic : Nat) : mSeg (DD em mi ic) 18 3 = g18_3 := rfl
theorem lv18_3 (em mi ic : Nat) : mLive (DD em mi ic) 18 3 = [1, 1] := rfl
theorem bc_18 (em mi ic : Nat) : mBc (DD em mi ic) 18 = 0 := rfl
theorem bs_18 (em mi ic : Nat) : mBs (DD em mi ic) 18 = 0 := rfl
theorem rt_18 (em mi ic : Nat) : mRet (DD em mi ic) 18 = some .int := rfl
theorem ml_18 (em mi ic : Nat) : mMaxL (DD em mi ic) 18 = 2 := rfl
theorem sg19_0 (em mi ic : Nat) : mSeg (DD em mi ic) 19 0 = g19_0 := rfl
theorem lv19_0 (em mi ic : Nat) : mLive (DD em mi ic) 19 0 = [1, 1, 1, 0] := rfl
theorem sg19_1 (em mi ic : Nat) : mSeg (DD em mi ic) 19 1 = g19_1 := rfl
theorem lv19_1 (em mi ic : Nat) : mLive (DD em mi ic) 19 1 = [0, 0, 0, 0] := rfl
theorem sg19_2 (em mi ic : Nat) : mSeg (DD em mi ic) 19 2 = g19_2 := rfl
theorem lv19_2 (em mi ic : Nat) : mLive (DD em mi ic) 19 2 = [0, 0, 0, 0] := rfl
theorem sg19_3 (em mi ic : Nat) : mSeg (DD em mi ic) 19 3 = g19_3 := rfl
theorem lv19_3 (em mi ic : Nat) : mLive (DD em mi ic) 19 3 = [0, 0, 0, 0] := rfl
theorem bc_19 (em mi ic : Nat) : mBc (DD em mi ic) 19 = 1 := rfl
theorem bs_19 (em mi ic : Nat) : mBs (DD em mi ic) 19 = 6 := rfl
theorem rt_19 (em mi ic : Nat) : mRet (DD em mi ic) 19 = some .int := rfl
theorem ml_19 (em mi ic : Nat) : mMaxL (DD em mi ic) 19 = 4 := rfl
theorem hn_19 (em mi ic : Nat) : mHan (DD em mi ic) 19 = [(0, 1), (1, 2)] := rfl
theorem sg20_0 (em mi ic : Nat) : mSeg (DD em mi ic) 20 0 = g20_0 := rfl
theorem lv20_0 (em mi ic : Nat) : mLive (DD em mi ic) 20 0 = [1, 1, 0, 0] := rfl
theorem sg20_1 (em mi ic : Nat) : mSeg (DD em mi ic) 20 1 = g20_1 := rfl
theorem lv20_1 (em mi ic : Nat) : mLive (DD em mi ic) 20 1 = [1, 1, 0, 0] := rfl
theorem sg20_2 (em mi ic : Nat) : mSeg (DD em mi ic) 20 2 = g20_2 := rfl
theorem lv20_2 (em mi ic : Nat) : mLive (DD em mi ic) 20 2 = [1, 1, 0, 0] := rfl
theorem sg20_3 (em mi ic : Nat) : mSeg (DD em mi ic) 20 3 = g20_3 := rfl
theorem lv20_3 (em mi ic : Nat) : mLive (DD em mi ic) 20 3 = [1, 1, 1, 1] := rfl
theorem sg20_4 (em mi ic : Nat) : mSeg (DD em mi ic) 20 4 = g20_4 := rfl
theorem lv20_4 (em mi ic : Nat) : mLive (DD em mi ic) 20 4 = [0, 0, 1, 0] := rfl
theorem bc_20 (em mi ic : Nat) : mBc (DD em mi ic) 20 = 96 := rfl
theorem bs_20 (em mi ic : Nat) : mBs (DD em mi ic) 20 = 384 := rfl
theorem rt_20 (em mi ic : Nat) : mRet (DD em mi ic) 20 = some .int := rfl
theorem ml_20 (em mi ic : Nat) : mMaxL (DD em mi ic) 20 = 4 := rfl
theorem sg21_0 (em mi ic : Nat) : mSeg (DD em mi ic) 21 0 = g21_0 := rfl
theorem lv21_0 (em mi ic : Nat) : mLive (DD em mi ic) 21 0 = [1, 1, 1, 1, 0] := rfl
theorem sg21_1 (em mi ic : Nat) : mSeg (DD em mi ic) 21 1 = g21_1 := rfl
theorem lv21_1 (em mi ic : Nat) : mLive (DD em mi ic) 21 1 = [0, 0, 0, 0, 0] := rfl
theorem sg21_2 (em mi ic : Nat) : mSeg (DD em mi ic) 21 2 = g21_2 := rfl
theorem lv21_2 (em mi ic : Nat) : mLive (DD em mi ic) 21 2 = [0, 0, 0, 0, 0] := rfl
theorem sg21_3 (em mi ic : Nat) : mSeg (DD em mi ic) 21 3 = g21_3 := rfl
theorem lv21_3 (em mi ic : Nat) : mLive (DD em mi ic) 21 3 = [0, 0, 0, 0, 0] := rfl
theorem bc_21 (em mi ic : Nat) : mBc (DD em mi ic) 21 = 3 := rfl
theorem bs_21 (em mi ic : Nat) : mBs (DD em mi ic) 21 = 24 := rfl
theorem rt_21 (em mi ic : Nat) : mRet (DD em mi ic) 21 = some .int := rfl
theorem ml_21 (em mi ic : Nat) : mMaxL (DD em mi ic) 21 = 5 := rfl
theorem hn_21 (em mi ic : Nat) : mHan (DD em mi ic) 21 = [(0, 1), (1, 2)] := rfl
theorem sg22_0 (em mi ic : Nat) : mSeg (DD em mi ic) 22 0 = g22_0 := rfl
theorem lv22_0 (em mi ic : Nat) : mLive (DD em mi ic) 22 0 = [1, 1, 1] := rfl
theorem sg22_1 (em mi ic : Nat) : mSeg (DD em mi ic) 22 1 = g22_1 := rfl
theorem lv22_1 (em mi ic : Nat) : mLive (DD em mi ic) 22 1 = [1, 0, 0] := rfl
theorem sg22_2 (em mi ic : Nat) : mSeg (DD em mi ic) 22 2 = g22_2 := rfl
theorem lv22_2 (em mi ic : Nat) : mLive (DD em mi ic) 22 2 = [1, 1, 1] := rfl
theorem sg22_3 (em mi ic : Nat) : mSeg (DD em mi ic) 22 3 = g22_3 := rfl
theorem lv22_3 (em mi ic : Nat) : mLive (DD em mi ic) 22 3 = [1, 1, 1] := rfl
theorem bc_22 (em mi ic : Nat) : mBc (DD em mi ic) 22 = 2 := rfl
theorem bs_22 (em mi ic : Nat) : mBs (DD em mi ic) 22 = 17 := rfl
theorem rt_22 (em mi ic : Nat) : mRet (DD em mi ic) 22 = some .int := rfl
theorem ml_22 (em mi ic : Nat) : mMaxL (DD em mi ic) 22 = 3 := rfl
theorem sg23_0 (em mi ic : Nat) : mSeg (DD em mi ic) 23 0 = g23_0 := rfl
theorem lv23_0 (em mi ic : Nat) : mLive (DD em mi ic) 23 0 = [1, 1, 1, 0] := rfl
theorem sg23_1 (em mi ic : Nat) : mSeg (DD em mi ic) 23 1 = g23_1 := rfl
theorem lv23_1 (em mi ic : Nat) : mLive (DD em mi ic) 23 1 = [0, 0, 0, 0] := rfl
theorem sg23_2 (em mi ic : Nat) : mSeg (DD em mi ic) 23 2 = g23_2 := rfl
theorem lv23_2 (em mi ic : Nat) : mLive (DD em mi ic) 23 2 = [0, 0, 0, 0] := rfl
theorem bc_23 (em mi ic : Nat) : mBc (DD em mi ic) 23 = 1 := rfl
theorem bs_23 (em mi ic : Nat) : mBs (DD em mi ic) 23 = 6 := rfl
theorem rt_23 (em mi ic : Nat) : mRet (DD em mi ic) 23 = some .int := rfl
theorem ml_23 (em mi ic : Nat) : mMaxL (DD em mi ic) 23 = 4 := rfl
theorem hn_23 (em mi ic : Nat) : mHan (DD em mi ic) 23 = [(0, 1)] := rfl
theorem sg24_0 (em mi ic : Nat) : mSeg (DD em mi ic) 24 0 = g24_0 := rfl
theorem lv24_0 (em mi ic : Nat) : mLive (DD em mi ic) 24 0 = [1, 1, 0, 0, 0, 0, 0] := rfl
theorem sg24_1 (em mi ic : Nat) : mSeg (DD em mi ic) 24 1 = g24_1 := rfl
theorem lv24_1 (em mi ic : Nat) : mLive (DD em mi ic) 24 1 = [1, 1, 0, 0, 0, 0, 0] := rfl
theorem sg24_2 (em mi ic : Nat) : mSeg (DD em mi ic) 24 2 = g24_2 := rfl
theorem lv24_2 (em mi ic : Nat) : mLive (DD em mi ic) 24 2 = [1, 1, 1, 1, 0, 0, 0] := rfl
theorem sg24_3 (em mi ic : Nat) : mSeg (DD em mi ic) 24 3 = g24_3 := rfl
theorem lv24_3 (em mi ic : Nat) : mLive (DD em mi ic) 24 3 = [1, 1, 1, 1, 1, 0, 0] := rfl
theorem sg24_4 (em mi ic : Nat) : mSeg (DD em mi ic) 24 4 = g24_4 := rfl
theorem lv24_4 (em mi ic : Nat) : mLive (DD em mi ic) 24 4 = [1, 1, 1, 1, 1, 1, 0] := rfl
theorem sg24_5 (em mi ic : Nat) : mSeg (DD em mi ic) 24 5 = g24_5 := rfl
theorem lv24_5 (em mi ic : Nat) : mLive (DD em mi ic) 24 5 = [1, 1, 1, 1, 0, 0, 0] := rfl
theorem sg24_6 (em mi ic : Nat) : mSeg (DD em mi ic) 24 6 = g24_6 := rfl
theorem lv24_6 (em mi ic : Nat) : mLive (DD em mi ic) 24 6 = [1, 1, 1, 0, 0, 0, 0] := rfl
theorem bc_24 (em mi ic : Nat) : mBc (DD em mi ic) 24 = 100 := rfl
theorem bs_24 (em mi ic : Nat) : mBs (DD em mi ic) 24 = 400 := rfl
theorem rt_24 (em mi ic : Nat) : mRet (DD em mi ic) 24 = some .int := rfl
theorem ml_24 (em mi ic : Nat) : mMaxL (DD em mi ic) 24 = 7 := rfl
theorem sg25_0 (em mi ic : Nat) : mSeg (DD em mi ic) 25 0 = g25_0 := rfl
theorem lv25_0 (em mi ic : Nat) : mLive (DD em mi ic) 25 0 = [1, 1, 1, 0] := rfl
theorem sg25_1 (em mi ic : Nat) : mSeg (DD em mi ic) 25 1 = g25_1 := rfl
theorem lv25_1 (em mi ic : Nat) : mLive (DD em mi ic) 25 1 = [0, 0, 0, 0] := rfl
theorem sg25_2 (em mi ic : Nat) : mSeg (DD em mi ic) 25 2 = g25_2 := rfl
theorem lv25_2 (em mi ic : Nat) : mLive (DD em mi ic) 25 2 = [0, 0, 0, 0] := rfl
theorem sg25_3 (em mi ic : Nat) : mSeg (DD em mi ic) 25 3 = g25_3 := rfl
theorem lv25_3 (em mi ic : Nat) : mLive (DD em mi ic) 25 3 = [0, 0, 0, 0] := rfl
theorem bc_25 (em mi ic : Nat) : mBc (DD em mi ic) 25 = 3 := rfl
theorem bs_25 (em mi ic : Nat) : mBs (DD em mi ic) 25 = 24 := rfl
theorem rt_25 (em mi ic : Nat) : mRet (DD em mi ic) 25 = some .int := rfl
theorem ml_25 (em mi ic : Nat) : mMaxL (DD em mi ic) 25 = 4 := rfl
theorem hn_25 (em mi ic : Nat) : mHan (DD em mi ic) 25 = [(0, 1), (1, 2)] := rfl
theorem sg26_0 (em mi ic : Nat) : mSeg (DD em mi ic) 26 0 = g26_0 := rfl
theorem lv26_0 (em mi ic : Nat) : mLive (DD em mi ic) 26 0 = [1, 1] := rfl
theorem sg26_1 (em mi ic : Nat) : mSeg (DD em mi ic) 26 1 = g26_1 := rfl
theorem lv26_1 (em mi ic : Nat) : mLive (DD em mi ic) 26 1 = [1, 1] := rfl
theorem sg26_2 (em mi ic : Nat) : mSeg (DD em mi ic) 26 2 = g26_2 := rfl
theorem lv26_2 (em mi ic : Nat) : mLive (DD em mi ic) 26 2 = [1, 1] := rfl
theorem bc_26 (em mi ic : Nat) : mBc (DD em mi ic) 26 = 2 := rfl
theorem bs_26 (em mi ic : Nat) : mBs (DD em mi ic) 26 = 16 := rfl
theorem rt_26 (em mi ic : Nat) : mRet (DD em mi ic) 26 = some .int := rfl
theorem ml_26 (em mi ic : Nat) : mMaxL (DD em mi ic) 26 = 2 := rfl
theorem sg27_0 (em mi ic : Nat) : mSeg (DD em mi ic) 27 0 = g27_0 := rfl
theorem lv27_0 (em mi ic : Nat) : mLive (DD em mi ic) 27 0 = [1, 1, 1, 1, 0] := rfl
theorem sg27_1 (em mi ic : Nat) : mSeg (DD em mi ic) 27 1 = g27_1 := rfl
theorem lv27_1 (em mi ic : Nat) : mLive (DD em mi ic) 27 1 = [0, 0, 0, 0, 0] := rfl
theorem sg27_2 (em mi ic : Nat) : mSeg (DD em mi ic) 27 2 = g27_2 := rfl
theorem lv27_2 (em mi ic : Nat) : mLive (DD em mi ic) 27 2 = [0, 0, 0, 0, 0] := rfl
theorem bc_27 (em mi ic : Nat) : mBc (DD em mi ic) 27 = 1 := rfl
theorem bs_27 (em mi ic : Nat) : mBs (DD em mi ic) 27 = 6 := rfl
theorem rt_27 (em mi ic : Nat) : mRet (DD em mi ic) 27 = some .int := rfl
theorem ml_27 (em mi ic : Nat) : mMaxL (DD em mi ic) 27 = 5 := rfl
theorem hn_27 (em mi ic : Nat) : mHan (DD em mi ic) 27 = [(2, 1)] := rfl
theorem sg28_0 (em mi ic : Nat) : mSeg (DD em mi ic) 28 0 = g28_0 := rfl
theorem lv28_0 (em mi ic : Nat) : mLive (DD em mi ic) 28 0 = [1, 1, 1] := rfl
theorem sg28_1 (em mi ic : Nat) : mSeg (DD em mi ic) 28 1 = g28_1 := rfl
theorem lv28_1 (em mi ic : Nat) : mLive (DD em mi ic) 28 1 = [1, 1, 1] := rfl
theorem sg28_2 (em mi ic : Nat) : mSeg (DD em mi ic) 28 2 = g28_2 := rfl
theorem lv28_2 (em mi ic : Nat) : mLive (DD em mi ic) 28 2 = [1, 1, 0] := rfl
theorem sg28_3 (em mi ic : Nat) : mSeg (DD em mi ic) 28 3 = g28_3 := rfl
theorem lv28_3 (em mi ic : Nat) : mLive (DD em mi ic) 28 3 = [1, 0, 0] := rfl
theorem bc_28 (em mi ic : Nat) : mBc (DD em mi ic) 28 = 0 := rfl
theorem bs_28 (em mi ic : Nat) : mBs (DD em mi ic) 28 = 0 := rfl
theorem rt_28 (em mi ic : Nat) : mRet (DD em mi ic) 28 = some .int := rfl
theorem ml_28 (em mi ic : Nat) : mMaxL (DD em mi ic) 28 = 3 := rfl
theorem sg29_0 (em mi ic : Nat) : mSeg (DD em mi ic) 29 0 = g29_0 := rfl
theorem lv29_0 (em mi ic : Nat) : mLive (DD em mi ic) 29 0 = [1] := rfl
theorem bc_29 (em mi ic : Nat) : mBc (DD em mi ic) 29 = 0 := rfl
theorem bs_29 (em mi ic : Nat) : mBs (DD em mi ic) 29 = 0 := rfl
theorem rt_29 (em mi ic : Nat) : mRet (DD em mi ic) 29 = some .int := rfl
theorem ml_29 (em mi ic : Nat) : mMaxL (DD em mi ic) 29 = 1 := rfl
theorem sg30_0 (em mi ic : Nat) : mSeg (DD em mi ic) 30 0 = g30_0 := rfl
theorem lv30_0 (em mi ic : Nat) : mLive (DD em mi ic) 30 0 = [1] := rfl
theorem bc_30 (em mi ic : Nat) : mBc (DD em mi ic) 30 = 0 := rfl
theorem bs_30 (em mi ic : Nat) : mBs (DD em mi ic) 30 = 0 := rfl
theorem rt_30 (em mi ic : Nat) : mRet (DD em mi ic) 30 = some .int := rfl
theorem ml_30 (em mi ic : Nat) : mMaxL (DD em mi ic) 30 = 1 := rfl
theorem sg31_0 (em mi ic : Nat) : mSeg (DD em mi ic) 31 0 = g31_0 := rfl
theorem lv31_0 (em mi ic : Nat) : mLive (DD em mi ic) 31 0 = [1, 1, 1, 1, 0] := rfl
theorem sg31_1 (em mi ic : Nat) : mSeg (DD em mi ic) 31 1 = g31_1 := rfl
theorem lv31_1 (em mi ic : Nat) : mLive (DD em mi ic) 31 1 = [0, 0, 0, 0, 0] := rfl
theorem sg31_2 (em mi ic : Nat) : mSeg (DD em mi ic) 31 2 = g31_2 := rfl
theorem lv31_2 (em mi ic : Nat) : mLive (DD em mi ic) 31 2 = [0, 0, 0, 0, 0] := rfl
theorem sg31_3 (em mi ic : Nat) : mSeg (DD em mi ic) 31 3 = g31_3 := rfl
theorem lv31_3 (em mi ic : Nat) : mLive (DD em mi ic) 31 3 = [0, 0, 0, 0, 0] := rfl
theorem bc_31 (em mi ic : Nat) : mBc (DD em mi ic) 31 = 1 := rfl
theorem bs_31 (em mi ic : Nat) : mBs (DD em mi ic) 31 = 6 := rfl
theorem rt_31 (em mi ic : Nat) : mRet (DD em mi ic) 31 = some .int := rfl
theorem ml_31 (em mi ic : Nat) : mMaxL (DD em mi ic) 31 = 5 := rfl
theorem hn_31 (em mi ic : Nat) : mHan (DD em mi ic) 31 = [(2, 1), (0, 2)] := rfl
theorem sg32_0 (em mi ic : Nat) : mSeg (DD em mi ic) 32 0 = g32_0 := rfl
theorem lv32_0 (em mi ic : Nat) : mLive (DD em mi ic) 32 0 = [1, 1, 1] := rfl
theorem sg32_1 (em mi ic : Nat) : mSeg (DD em mi ic) 32 1 = g32_1 := rfl
theorem lv32_1 (em mi ic : Nat) : mLive (DD em mi ic) 32 1 = [1, 1, 1] := rfl
theorem sg32_2 (em mi ic : Nat) : mSeg (DD em mi ic) 32 2 = g32_2 := rfl
theorem lv32_2 (em mi ic : Nat) : mLive (DD em mi ic) 32 2 = [1, 0, 0] := rfl
theorem sg32_3 (em mi ic : Nat) : mSeg (DD em mi ic) 32 3 = g32_3 := rfl
theorem lv32_3 (em mi ic : Nat) : mLive (DD em mi ic) 32 3 = [0, 0, 0] := rfl
theorem bc_32 (em mi ic : Nat) : mBc (DD em mi ic) 32 = 1 := rfl
theorem bs_32 (em mi ic : Nat) : mBs (DD em mi ic) 32 = 4 := rfl
theorem rt_32 (em mi ic : Nat) : mRet (DD em mi ic) 32 = some .int := rfl
theorem ml_32 (em mi ic : Nat) : mMaxL (DD em mi ic) 32 = 3 := rfl
theorem sg33_0 (em mi ic : Nat) : mSeg (DD em mi ic) 33 0 = g33_0 := rfl
theorem lv33_0 (em mi ic : Nat) : mLive (DD em mi ic) 33 0 = [1, 1, 1, 1, 0] := rfl
theorem sg33_1 (em mi ic : Nat) : mSeg (DD em mi ic) 33 1 = g33_1 := rfl
theorem lv33_1 (em mi ic : Nat) : mLive (DD em mi ic) 33 1 = [0, 0, 0, 0, 0] := rfl
theorem sg33_2 (em mi ic : Nat) : mSeg (DD em mi ic) 33 2 = g33_2 := rfl
theorem lv33_2 (em mi ic : Nat) : mLive (DD em mi ic) 33 2 = [0, 0, 0, 0, 0] := rfl
theorem sg33_3 (em mi ic : Nat) : mSeg (DD em mi ic) 33 3 = g33_3 := rfl
theorem lv33_3 (em mi ic : Nat) : mLive (DD em mi ic) 33 3 = [0, 0, 0, 0, 0] := rfl
theorem bc_33 (em mi ic : Nat) : mBc (DD em mi ic) 33 = 1 := rfl
theorem bs_33 (em mi ic : Nat) : mBs (DD em mi ic) 33 = 6 := rfl
theorem rt_33 (em mi ic : Nat) : mRet (DD em mi ic) 33 = some .int := rfl
theorem ml_33 (em mi ic : Nat) : mMaxL (DD em mi ic) 33 = 5 := rfl
theorem hn_33 (em mi ic : Nat) : mHan (DD em mi ic) 33 = [(2, 1), (0, 2)] := rfl
theorem sg34_0 (em mi ic : Nat) : mSeg (DD em mi ic) 34 0 = g34_0 := rfl
theorem lv34_0 (em mi ic : Nat) : mLive (DD em mi ic) 34 0 = [1, 1, 1] := rfl
theorem sg34_1 (em mi ic : Nat) : mSeg (DD em mi ic) 34 1 = g34_1 := rfl
theorem lv34_1 (em mi ic : Nat) : mLive (DD em mi ic) 34 1 = [1, 1, 1] := rfl
theorem sg34_2 (em mi ic : Nat) : mSeg (DD em mi ic) 34 2 = g34_2 := rfl
theorem lv34_2 (em mi ic : Nat) : mLive (DD em mi ic) 34 2 = [1, 0, 0] := rfl
theorem sg34_3 (em mi ic : Nat) : mSeg (DD em mi ic) 34 3 = g34_3 := rfl
theorem lv34_3 (em mi ic : Nat) : mLive (DD em mi ic) 34 3 = [0, 0, 0] := rfl
theorem bc_34 (em mi ic : Nat) : mBc (DD em mi ic) 34 = 2 := rfl
theorem bs_34 (em mi ic : Nat) : mBs (DD em mi ic) 34 = 9 := rfl
theorem rt_34 (em mi ic : Nat) : mRet (DD em mi ic) 34 = some .int := rfl
theorem ml_34 (em mi ic : Nat) : mMaxL (DD em mi ic) 34 = 3 := rfl
theorem sg35_0 (em mi ic : Nat) : mSeg (DD em mi ic) 35 0 = g35_0 := rfl
theorem lv35_0 (em mi ic : Nat) : mLive (DD em mi ic) 35 0 = [1, 1, 1, 1, 0] := rfl
theorem sg35_1 (em mi ic : Nat) : mSeg (DD em mi ic) 35 1 = g35_1 := rfl
theorem lv35_1 (em mi ic : Nat) : mLive (DD em mi ic) 35 1 = [0, 0, 0, 0, 0] := rfl
theorem sg35_2 (em mi ic : Nat) : mSeg (DD em mi ic) 35 2 = g35_2 := rfl
theorem lv35_2 (em mi ic : Nat) : mLive (DD em mi ic) 35 2 = [0, 0, 0, 0, 0] := rfl
theorem sg35_3 (em mi ic : Nat) : mSeg (DD em mi ic) 35 3 = g35_3 := rfl
theorem lv35_3 (em mi ic : Nat) : mLive (DD em mi ic) 35 3 = [0, 0, 0, 0, 0] := rfl
theorem bc_35 (em mi ic : Nat) : mBc (DD em mi ic) 35 = 1 := rfl
theorem bs_35 (em mi ic : Nat) : mBs (DD em mi ic) 35 = 6 := rfl
theorem rt_35 (em mi ic : Nat) : mRet (DD em mi ic) 35 = some .int := rfl
theorem ml_35 (em mi ic : Nat) : mMaxL (DD em mi ic) 35 = 5 := rfl
theorem hn_35 (em mi ic : Nat) : mHan (DD em mi ic) 35 = [(2, 1), (0, 2)] := rfl
theorem sg36_0 (em mi ic : Nat) : mSeg (DD em mi ic) 36 0 = g36_0 := rfl
theorem lv36_0 (em mi ic : Nat) : mLive (DD em mi ic) 36 0 = [1, 1, 1] := rfl
theorem sg36_1 (em mi ic : Nat) : mSeg (DD em mi ic) 36 1 = g36_1 := rfl
theorem lv36_1 (em mi ic : Nat) : mLive (DD em mi ic) 36 1 = [1, 1, 1] := rfl
theorem sg36_2 (em mi ic : Nat) : mSeg (DD em mi ic) 36 2 = g36_2 := rfl
theorem lv36_2 (em mi ic : Nat) : mLive (DD em mi ic) 36 2 = [1, 0, 0] := rfl
theorem sg36_3 (em mi ic : Nat) : mSeg (DD em mi ic) 36 3 = g36_3 := rfl
theorem lv36_3 (em mi ic : Nat) : mLive (DD em mi ic) 36 3 = [0, 0, 0] := rfl
theorem bc_36 (em mi ic : Nat) : mBc (DD em mi ic) 36 = 2 := rfl
theorem bs_36 (em mi ic : Nat) : mBs (DD em mi ic) 36 = 9 := rfl
theorem rt_36 (em mi ic : Nat) : mRet (DD em mi ic) 36 = some .int := rfl
theorem ml_36 (em mi ic : Nat) : mMaxL (DD em mi ic) 36 = 3 := rfl
theorem sg37_0 (em mi ic : Nat) : mSeg (DD em mi ic) 37 0 = g37_0 := rfl
theorem lv37_0 (em mi ic : Nat) : mLive (DD em mi ic) 37 0 = [1, 1, 1, 1, 0] := rfl
theorem sg37_1 (em mi ic : Nat) : mSeg (DD em mi ic) 37 1 = g37_1 := rfl
theorem lv37_1 (em mi ic : Nat) : mLive (DD em mi ic) 37 1 = [0, 0, 0, 0, 0] := rfl
theorem sg37_2 (em mi ic : Nat) : mSeg (DD em mi ic) 37 2 = g37_2 := rfl
theorem lv37_2 (em mi ic : Nat) : mLive (DD em mi ic) 37 2 = [0, 0, 0, 0, 0] := rfl
theorem sg37_3 (em mi ic : Nat) : mSeg (DD em mi ic) 37 3 = g37_3 := rfl
theorem lv37_3 (em mi ic : Nat) : mLive (DD em mi ic) 37 3 = [0, 0, 0, 0, 0] := rfl
theorem bc_37 (em mi ic : Nat) : mBc (DD em mi ic) 37 = 1 := rfl
theorem bs_37 (em mi ic : Nat) : mBs (DD em mi ic) 37 = 6 := rfl
theorem rt_37 (em mi ic : Nat) : mRet (DD em mi ic) 37 = some .int := rfl
theorem ml_37 (em mi ic : Nat) : mMaxL (DD em mi ic) 37 = 5 := rfl
theorem hn_37 (em mi ic : Nat) : mHan (DD em mi ic) 37 = [(2, 1), (0, 2)] := rfl
theorem sg38_0 (em mi ic : Nat) : mSeg (DD em mi ic) 38 0 = g38_0 := rfl
theorem lv38_0 (em mi ic : Nat) : mLive (DD em mi ic) 38 0 = [1, 1, 1] := rfl
theorem sg38_1 (em mi ic : Nat) : mSeg (DD em mi ic) 38 1 = g38_1 := rfl
theorem lv38_1 (em mi ic : Nat) : mLive (DD em mi ic) 38 1 = [1, 1, 1] := rfl
theorem sg38_2 (em mi ic : Nat) : mSeg (DD em mi ic) 38 2 = g38_2 := rfl
theorem lv38_2 (em mi ic : Nat) : mLive (DD em mi ic) 38 2 = [1, 1, 1] := rfl
theorem sg38_3 (em mi ic : Nat) : mSeg (DD em mi ic) 38 3 = g38_3 := rfl
theorem lv38_3 (em mi ic : Nat) : mLive (DD em mi ic) 38 3 = [1, 0, 0] := rfl
theorem sg38_4 (em mi ic : Nat) : mSeg (DD em mi ic) 38 4 = g38_4 := rfl
theorem lv38_4 (em mi ic : Nat) : mLive (DD em mi ic) 38 4 = [0, 0, 0] := rfl
theorem bc_38 (em mi ic : Nat) : mBc (DD em mi ic) 38 = 0 := rfl
theorem bs_38 (em mi ic : Nat) : mBs (DD em mi ic) 38 = 0 := rfl
theorem rt_38 (em mi ic : Nat) : mRet (DD em mi ic) 38 = some .int := rfl
theorem ml_38 (em mi ic : Nat) : mMaxL (DD em mi ic) 38 = 3 := rfl
theorem sg39_0 (em mi ic : Nat) : mSeg (DD em mi ic) 39 0 = g39_0 := rfl
theorem lv39_0 (em mi ic : Nat) : mLive (DD em mi ic) 39 0 = [1, 1, 1, 0] := rfl
theorem sg39_1 (em mi ic : Nat) : mSeg (DD em mi ic) 39 1 = g39_1 := rfl
theorem lv39_1 (em mi ic : Nat) : mLive (DD em mi ic) 39 1 = [0, 0, 0, 0] := rfl
theorem sg39_2 (em mi ic : Nat) : mSeg (DD em mi ic) 39 2 = g39_2 := rfl
theorem lv39_2 (em mi ic : Nat) : mLive (DD em mi ic) 39 2 = [0, 0, 0, 0] := rfl
theorem bc_39 (em mi ic : Nat) : mBc (DD em mi ic) 39 = 50 := rfl
theorem bs_39 (em mi ic : Nat) : mBs (DD em mi ic) 39 = 400 := rfl
theorem rt_39 (em mi ic : Nat) : mRet (DD em mi ic) 39 = some .int := rfl
theorem ml_39 (em mi ic : Nat) : mMaxL (DD em mi ic) 39 = 4 := rfl
theorem hn_39 (em mi ic : Nat) : mHan (DD em mi ic) 39 = [(0, 1)] := rfl
theorem sg40_0 (em mi ic : Nat) : mSeg (DD em mi ic) 40 0 = g40_0 := rfl
theorem lv40_0 (em mi ic : Nat) : mLive (DD em mi ic) 40 0 = [1, 1] := rfl
theorem sg40_1 (em mi ic : Nat) : mSeg (DD em mi ic) 40 1 = g40_1 := rfl
theorem lv40_1 (em mi ic : Nat) : mLive (DD em mi ic) 40 1 = [1, 0] := rfl
theorem sg40_2 (em mi ic : Nat) : mSeg (DD em mi ic) 40 2 = g40_2 := rfl
theorem lv40_2 (em mi ic : Nat) : mLive (DD em mi ic) 40 2 = [0, 0] := rfl
theorem bc_40 (em mi ic : Nat) : mBc (DD em mi ic) 40 = 2 := rfl
theorem bs_40 (em mi ic : Nat) : mBs (DD em mi ic) 40 = 9 := rfl
theorem rt_40 (em mi ic : Nat) : mRet (DD em mi ic) 40 = some .int := rfl
theorem ml_40 (em mi ic : Nat) : mMaxL (DD em mi ic) 40 = 2 := rfl
theorem sg41_0 (em mi ic : Nat) : mSeg (DD em mi ic) 41 0 = g41_0 := rfl
theorem lv41_0 (em mi ic : Nat) : mLive (DD em mi ic) 41 0 = [1, 0, 0] := rfl
theorem sg41_1 (em mi ic : Nat) : mSeg (DD em mi ic) 41 1 = g41_1 := rfl
theorem lv41_1 (em mi ic : Nat) : mLive (DD em mi ic) 41 1 = [1, 1, 1] := rfl
theorem sg41_2 (em mi ic : Nat) : mSeg (DD em mi ic) 41 2 = g41_2 := rfl
theorem lv41_2 (em mi ic : Nat) : mLive (DD em mi ic) 41 2 = [0, 1, 0] := rfl
theorem bc_41 (em mi ic : Nat) : mBc (DD em mi ic) 41 = 4 := rfl
theorem bs_41 (em mi ic : Nat) : mBs (DD em mi ic) 41 = 40 := rfl
theorem rt_41 (em mi ic : Nat) : mRet (DD em mi ic) 41 = some (.object "java/lang/String") := rfl
theorem ml_41 (em mi ic : Nat) : mMaxL (DD em mi ic) 41 = 3 := rfl
theorem sg42_0 (em mi ic : Nat) : mSeg (DD em mi ic) 42 0 = g42_0 := rfl
theorem lv42_0 (em mi ic : Nat) : mLive (DD em mi ic) 42 0 = [1] := rfl
theorem bc_42 (em mi ic : Nat) : mBc (DD em mi ic) 42 = 6 := rfl
theorem bs_42 (em mi ic : Nat) : mBs (DD em mi ic) 42 = 49 := rfl
theorem rt_42 (em mi ic : Nat) : mRet (DD em mi ic) 42 = some (.object "java/lang/String") := rfl
theorem ml_42 (em mi ic : Nat) : mMaxL (DD em mi ic) 42 = 1 := rfl
theorem sg43_0 (em mi ic : Nat) : mSeg (DD em mi ic) 43 0 = g43_0 := rfl
theorem lv43_0 (em mi ic : Nat) : mLive (DD em mi ic) 43 0 = [1, 1, 1, 0] := rfl
theorem sg43_1 (em mi ic : Nat) : mSeg (DD em mi ic) 43 1 = g43_1 := rfl
theorem lv43_1 (em mi ic : Nat) : mLive (DD em mi ic) 43 1 = [0, 0, 0, 0] := rfl
theorem sg43_2 (em mi ic : Nat) : mSeg (DD em mi ic) 43 2 = g43_2 := rfl
theorem lv43_2 (em mi ic : Nat) : mLive (DD em mi ic) 43 2 = [0, 0, 0, 0] := rfl
theorem sg43_3 (em mi ic : Nat) : mSeg (DD em mi ic) 43 3 = g43_3 := rfl
theorem lv43_3 (em mi ic : Nat) : mLive (DD em mi ic) 43 3 = [0, 0, 0, 0] := rfl
theorem sg43_4 (em mi ic : Nat) : mSeg (DD em mi ic) 43 4 = g43_4 := rfl
theorem lv43_4 (em mi ic : Nat) : mLive (DD em mi ic) 43 4 = [0, 0, 0, 0] := rfl
theorem bc_43 (em mi ic : Nat) : mBc (DD em mi ic) 43 = 1 := rfl
theorem bs_43 (em mi ic : Nat) : mBs (DD em mi ic) 43 = 6 := rfl
theorem rt_43 (em mi ic : Nat) : mRet (DD em mi ic) 43 = some .int := rfl
theorem ml_43 (em mi ic : Nat) : mMaxL (DD em mi ic) 43 = 4 := rfl
theorem hn_43 (em mi ic : Nat) : mHan (DD em mi ic) 43 = [(0, 3)] := rfl
theorem sg44_0 (em mi ic : Nat) : mSeg (DD em mi ic) 44 0 = g44_0 := rfl
theorem lv44_0 (em mi ic : Nat) : mLive (DD em mi ic) 44 0 = [1, 1] := rfl
theorem sg44_1 (em mi ic : Nat) : mSeg (DD em mi ic) 44 1 = g44_1 := rfl
theorem lv44_1 (em mi ic : Nat) : mLive (DD em mi ic) 44 1 = [1, 1] := rfl
theorem sg44_2 (em mi ic : Nat) : mSeg (DD em mi ic) 44 2 = g44_2 := rfl
theorem lv44_2 (em mi ic : Nat) : mLive (DD em mi ic) 44 2 = [1, 1] := rfl
theorem sg44_3 (em mi ic : Nat) : mSeg (DD em mi ic) 44 3 = g44_3 := rfl
theorem lv44_3 (em mi ic : Nat) : mLive (DD em mi ic) 44 3 = [0, 0] := rfl
theorem sg44_4 (em mi ic : Nat) : mSeg (DD em mi ic) 44 4 = g44_4 := rfl
theorem lv44_4 (em mi ic : Nat) : mLive (DD em mi ic) 44 4 = [0, 0] := rfl
theorem bc_44 (em mi ic : Nat) : mBc (DD em mi ic) 44 = 0 := rfl
theorem bs_44 (em mi ic : Nat) : mBs (DD em mi ic) 44 = 0 := rfl
theorem rt_44 (em mi ic : Nat) : mRet (DD em mi ic) 44 = some .boolean := rfl
theorem ml_44 (em mi ic : Nat) : mMaxL (DD em mi ic) 44 = 2 := rfl
theorem sg45_0 (em mi ic : Nat) : mSeg (DD em mi ic) 45 0 = g45_0 := rfl
theorem lv45_0 (em mi ic : Nat) : mLive (DD em mi ic) 45 0 = [1] := rfl
theorem bc_45 (em mi ic : Nat) : mBc (DD em mi ic) 45 = 0 := rfl
theorem bs_45 (em mi ic : Nat) : mBs (DD em mi ic) 45 = 0 := rfl
theorem rt_45 (em mi ic : Nat) : mRet (DD em mi ic) 45 = some .int := rfl
theorem ml_45 (em mi ic : Nat) : mMaxL (DD em mi ic) 45 = 1 := rfl
theorem sg46_0 (em mi ic : Nat) : mSeg (DD em mi ic) 46 0 = g46_0 := rfl
theorem lv46_0 (em mi ic : Nat) : mLive (DD em mi ic) 46 0 = [1] := rfl
theorem bc_46 (em mi ic : Nat) : mBc (DD em mi ic) 46 = 0 := rfl
theorem bs_46 (em mi ic : Nat) : mBs (DD em mi ic) 46 = 0 := rfl
theorem rt_46 (em mi ic : Nat) : mRet (DD em mi ic) 46 = some .int := rfl
theorem ml_46 (em mi ic : Nat) : mMaxL (DD em mi ic) 46 = 1 := rfl
theorem sg47_0 (em mi ic : Nat) : mSeg (DD em mi ic) 47 0 = g47_0 := rfl
theorem lv47_0 (em mi ic : Nat) : mLive (DD em mi ic) 47 0 = [1, 1] := rfl
theorem sg47_1 (em mi ic : Nat) : mSeg (DD em mi ic) 47 1 = g47_1 := rfl
theorem lv47_1 (em mi ic : Nat) : mLive (DD em mi ic) 47 1 = [0, 0] := rfl
theorem sg47_2 (em mi ic : Nat) : mSeg (DD em mi ic) 47 2 = g47_2 := rfl
theorem lv47_2 (em mi ic : Nat) : mLive (DD em mi ic) 47 2 = [0, 0] := rfl
theorem bc_47 (em mi ic : Nat) : mBc (DD em mi ic) 47 = 0 := rfl
theorem bs_47 (em mi ic : Nat) : mBs (DD em mi ic) 47 = 0 := rfl
theorem rt_47 (em mi ic : Nat) : mRet (DD em mi ic) 47 = some .boolean := rfl
theorem ml_47 (em mi ic : Nat) : mMaxL (DD em mi ic) 47 = 2 := rfl
theorem sg48_0 (em mi ic : Nat) : mSeg (DD em mi ic) 48 0 = g48_0 := rfl
theorem lv48_0 (em mi ic : Nat) : mLive (DD em mi ic) 48 0 = [1, 1, 0, 0, 0] := rfl
theorem sg48_1 (em mi ic : Nat) : mSeg (DD em mi ic) 48 1 = g48_1 := rfl
theorem lv48_1 (em mi ic : Nat) : mLive (DD em mi ic) 48 1 = [1, 1, 1, 1, 1] := rfl
theorem sg48_2 (em mi ic : Nat) : mSeg (DD em mi ic) 48 2 = g48_2 := rfl
theorem lv48_2 (em mi ic : Nat) : mLive (DD em mi ic) 48 2 = [1, 1, 1, 1, 1] := rfl
theorem sg48_3 (em mi ic : Nat) : mSeg (DD em mi ic) 48 3 = g48_3 := rfl
theorem lv48_3 (em mi ic : Nat) : mLive (DD em mi ic) 48 3 = [1, 1, 1, 1, 1] := rfl
theorem sg48_4 (em mi ic : Nat) : mSeg (DD em mi ic) 48 4 = g48_4 := rfl
theorem lv48_4 (em mi ic : Nat) : mLive (DD em mi ic) 48 4 = [1, 1, 1, 1, 0] := rfl
theorem sg48_5 (em mi ic : Nat) : mSeg (DD em mi ic) 48 5 = g48_5 := rfl
theorem lv48_5 (em mi ic : Nat) : mLive (DD em mi ic) 48 5 = [0, 0, 0, 0, 0] := rfl
theorem sg48_6 (em mi ic : Nat) : mSeg (DD em mi ic) 48 6 = g48_6 := rfl
theorem lv48_6 (em mi ic : Nat) : mLive (DD em mi ic) 48 6 = [0, 0, 0, 0, 0] := rfl
theorem bc_48 (em mi ic : Nat) : mBc (DD em mi ic) 48 = 1 := rfl
theorem bs_48 (em mi ic : Nat) : mBs (DD em mi ic) 48 = 6 := rfl
theorem rt_48 (em mi ic : Nat) : mRet (DD em mi ic) 48 = some .boolean := rfl
theorem ml_48 (em mi ic : Nat) : mMaxL (DD em mi ic) 48 = 5 := rfl
theorem sg49_0 (em mi ic : Nat) : mSeg (DD em mi ic) 49 0 = g49_0 := rfl
theorem lv49_0 (em mi ic : Nat) : mLive (DD em mi ic) 49 0 = [1, 1, 1, 1, 0] := rfl
theorem sg49_1 (em mi ic : Nat) : mSeg (DD em mi ic) 49 1 = g49_1 := rfl
theorem lv49_1 (em mi ic : Nat) : mLive (DD em mi ic) 49 1 = [0, 0, 0, 0, 0] := rfl
theorem sg49_2 (em mi ic : Nat) : mSeg (DD em mi ic) 49 2 = g49_2 := rfl
theorem lv49_2 (em mi ic : Nat) : mLive (DD em mi ic) 49 2 = [0, 0, 0, 0, 0] := rfl
theorem bc_49 (em mi ic : Nat) : mBc (DD em mi ic) 49 = 1 := rfl
theorem bs_49 (em mi ic : Nat) : mBs (DD em mi ic) 49 = 6 := rfl
theorem rt_49 (em mi ic : Nat) : mRet (DD em mi ic) 49 = some .int := rfl
theorem ml_49 (em mi ic : Nat) : mMaxL (DD em mi ic) 49 = 5 := rfl
theorem hn_49 (em mi ic : Nat) : mHan (DD em mi ic) 49 = [(0, 1)] := rfl
theorem sg50_0 (em mi ic : Nat) : mSeg (DD em mi ic) 50 0 = g50_0 := rfl
theorem lv50_0 (em mi ic : Nat) : mLive (DD em mi ic) 50 0 = [1, 1, 1] := rfl
theorem sg50_1 (em mi ic : Nat) : mSeg (DD em mi ic) 50 1 = g50_1 := rfl
theorem lv50_1 (em mi ic : Nat) : mLive (DD em mi ic) 50 1 = [1, 0, 0] := rfl
theorem sg50_2 (em mi ic : Nat) : mSeg (DD em mi ic) 50 2 = g50_2 := rfl
theorem lv50_2 (em mi ic : Nat) : mLive (DD em mi ic) 50 2 = [0, 0, 0] := rfl
theorem bc_50 (em mi ic : Nat) : mBc (DD em mi ic) 50 = 1 := rfl
theorem bs_50 (em mi ic : Nat) : mBs (DD em mi ic) 50 = 4 := rfl
theorem rt_50 (em mi ic : Nat) : mRet (DD em mi ic) 50 = some .int := rfl
theorem ml_50 (em mi ic : Nat) : mMaxL (DD em mi ic) 50 = 3 := rfl
theorem sg51_0 (em mi ic : Nat) : mSeg (DD em mi ic) 51 0 = g51_0 := rfl
theorem lv51_0 (em mi ic : Nat) : mLive (DD em mi ic) 51 0 = [1, 1, 1, 1, 0] := rfl
theorem sg51_1 (em mi ic : Nat) : mSeg (DD em mi ic) 51 1 = g51_1 := rfl
theorem lv51_1 (em mi ic : Nat) : mLive (DD em mi ic) 51 1 = [0, 0, 0, 0, 0] := rfl
theorem sg51_2 (em mi ic : Nat) : mSeg (DD em mi ic) 51 2 = g51_2 := rfl
theorem lv51_2 (em mi ic : Nat) : mLive (DD em mi ic) 51 2 = [0, 0, 0, 0, 0] := rfl
theorem sg51_3 (em mi ic : Nat) : mSeg (DD em mi ic) 51 3 = g51_3 := rfl
theorem lv51_3 (em mi ic : Nat) : mLive (DD em mi ic) 51 3 = [0, 0, 0, 0, 0] := rfl
theorem sg51_4 (em mi ic : Nat) : mSeg (DD em mi ic) 51 4 = g51_4 := rfl
theorem lv51_4 (em mi ic : Nat) : mLive (DD em mi ic) 51 4 = [0, 0, 0, 0, 0] := rfl
theorem bc_51 (em mi ic : Nat) : mBc (DD em mi ic) 51 = 1 := rfl
theorem bs_51 (em mi ic : Nat) : mBs (DD em mi ic) 51 = 6 := rfl
theorem rt_51 (em mi ic : Nat) : mRet (DD em mi ic) 51 = some .int := rfl
theorem ml_51 (em mi ic : Nat) : mMaxL (DD em mi ic) 51 = 5 := rfl
theorem hn_51 (em mi ic : Nat) : mHan (DD em mi ic) 51 = [(0, 3)] := rfl
theorem sg52_0 (em mi ic : Nat) : mSeg (DD em mi ic) 52 0 = g52_0 := rfl
theorem lv52_0 (em mi ic : Nat) : mLive (DD em mi ic) 52 0 = [1, 1, 1] := rfl
theorem sg52_1 (em mi ic : Nat) : mSeg (DD em mi ic) 52 1 = g52_1 := rfl
theorem lv52_1 (em mi ic : Nat) : mLive (DD em mi ic) 52 1 = [1, 1, 1] := rfl
theorem sg52_2 (em mi ic : Nat) : mSeg (DD em mi ic) 52 2 = g52_2 := rfl
theorem lv52_2 (em mi ic : Nat) : mLive (DD em mi ic) 52 2 = [1, 1, 1] := rfl
theorem sg52_3 (em mi ic : Nat) : mSeg (DD em mi ic) 52 3 = g52_3 := rfl
theorem lv52_3 (em mi ic : Nat) : mLive (DD em mi ic) 52 3 = [0, 0, 0] := rfl
theorem sg52_4 (em mi ic : Nat) : mSeg (DD em mi ic) 52 4 = g52_4 := rfl
theorem lv52_4 (em mi ic : Nat) : mLive (DD em mi ic) 52 4 = [0, 0, 0] := rfl
theorem bc_52 (em mi ic : Nat) : mBc (DD em mi ic) 52 = 0 := rfl
theorem bs_52 (em mi ic : Nat) : mBs (DD em mi ic) 52 = 0 := rfl
theorem rt_52 (em mi ic : Nat) : mRet (DD em mi ic) 52 = some .boolean := rfl
theorem ml_52 (em mi ic : Nat) : mMaxL (DD em mi ic) 52 = 3 := rfl
theorem sg53_0 (em mi ic : Nat) : mSeg (DD em mi ic) 53 0 = g53_0 := rfl
theorem lv53_0 (em mi ic : Nat) : mLive (DD em mi ic) 53 0 = [1] := rfl
theorem sg53_1 (em mi ic : Nat) : mSeg (DD em mi ic) 53 1 = g53_1 := rfl
theorem lv53_1 (em mi ic : Nat) : mLive (DD em mi ic) 53 1 = [0] := rfl
theorem sg53_2 (em mi ic : Nat) : mSeg (DD em mi ic) 53 2 = g53_2 := rfl
theorem lv53_2 (em mi ic : Nat) : mLive (DD em mi ic) 53 2 = [1] := rfl
theorem sg53_3 (em mi ic : Nat) : mSeg (DD em mi ic) 53 3 = g53_3 := rfl
theorem lv53_3 (em mi ic : Nat) : mLive (DD em mi ic) 53 3 = [0] := rfl
theorem sg53_4 (em mi ic : Nat) : mSeg (DD em mi ic) 53 4 = g53_4 := rfl
theorem lv53_4 (em mi ic : Nat) : mLive (DD em mi ic) 53 4 = [0] := rfl
theorem bc_53 (em mi ic : Nat) : mBc (DD em mi ic) 53 = 0 := rfl
theorem bs_53 (em mi ic : Nat) : mBs (DD em mi ic) 53 = 0 := rfl
theorem rt_53 (em mi ic : Nat) : mRet (DD em mi ic) 53 = some .boolean := rfl
theorem ml_53 (em mi ic : Nat) : mMaxL (DD em mi ic) 53 = 1 := rfl
theorem sg54_0 (em mi ic : Nat) : mSeg (DD em mi ic) 54 0 = g54_0 := rfl
theorem lv54_0 (em mi ic : Nat) : mLive (DD em mi ic) 54 0 = [1] := rfl
theorem bc_54 (em mi ic : Nat) : mBc (DD em mi ic) 54 = 4 := rfl
theorem bs_54 (em mi ic : Nat) : mBs (DD em mi ic) 54 = 19 := rfl
theorem rt_54 (em mi ic : Nat) : mRet (DD em mi ic) 54 = some .boolean := rfl
theorem ml_54 (em mi ic : Nat) : mMaxL (DD em mi ic) 54 = 1 := rfl
theorem sg55_0 (em mi ic : Nat) : mSeg (DD em mi ic) 55 0 = g55_0 := rfl
theorem lv55_0 (em mi ic : Nat) : mLive (DD em mi ic) 55 0 = [1, 0, 0, 0, 0] := rfl
theorem sg55_1 (em mi ic : Nat) : mSeg (DD em mi ic) 55 1 = g55_1 := rfl
theorem lv55_1 (em mi ic : Nat) : mLive (DD em mi ic) 55 1 = [1, 1, 0, 1, 0] := rfl
theorem sg55_2 (em mi ic : Nat) : mSeg (DD em mi ic) 55 2 = g55_2 := rfl
theorem lv55_2 (em mi ic : Nat) : mLive (DD em mi ic) 55 2 = [1, 1, 0, 0, 0] := rfl
theorem sg55_3 (em mi ic : Nat) : mSeg (DD em mi ic) 55 3 = g55_3 := rfl
theorem lv55_3 (em mi ic : Nat) : mLive (DD em mi ic) 55 3 = [1, 1, 0, 1, 0] := rfl
theorem sg55_4 (em mi ic : Nat) : mSeg (DD em mi ic) 55 4 = g55_4 := rfl
theorem lv55_4 (em mi ic : Nat) : mLive (DD em mi ic) 55 4 = [1, 1, 0, 1, 1] := rfl
theorem sg55_5 (em mi ic : Nat) : mSeg (DD em mi ic) 55 5 = g55_5 := rfl
theorem lv55_5 (em mi ic : Nat) : mLive (DD em mi ic) 55 5 = [1, 1, 0, 1, 0] := rfl
theorem sg55_6 (em mi ic : Nat) : mSeg (DD em mi ic) 55 6 = g55_6 := rfl
theorem lv55_6 (em mi ic : Nat) : mLive (DD em mi ic) 55 6 = [1, 1, 0, 0, 0] := rfl
theorem sg55_7 (em mi ic : Nat) : mSeg (DD em mi ic) 55 7 = g55_7 := rfl
theorem lv55_7 (em mi ic : Nat) : mLive (DD em mi ic) 55 7 = [1, 1, 0, 1, 0] := rfl
theorem sg55_8 (em mi ic : Nat) : mSeg (DD em mi ic) 55 8 = g55_8 := rfl
theorem lv55_8 (em mi ic : Nat) : mLive (DD em mi ic) 55 8 = [1, 1, 0, 1, 1] := rfl
theorem sg55_9 (em mi ic : Nat) : mSeg (DD em mi ic) 55 9 = g55_9 := rfl
theorem lv55_9 (em mi ic : Nat) : mLive (DD em mi ic) 55 9 = [1, 1, 0, 1, 0] := rfl
theorem sg55_10 (em mi ic : Nat) : mSeg (DD em mi ic) 55 10 = g55_10 := rfl
theorem lv55_10 (em mi ic : Nat) : mLive (DD em mi ic) 55 10 = [1, 1, 0, 0, 0] := rfl
theorem sg55_11 (em mi ic : Nat) : mSeg (DD em mi ic) 55 11 = g55_11 := rfl
theorem lv55_11 (em mi ic : Nat) : mLive (DD em mi ic) 55 11 = [1, 1, 0, 1, 0] := rfl
theorem sg55_12 (em mi ic : Nat) : mSeg (DD em mi ic) 55 12 = g55_12 := rfl
theorem lv55_12 (em mi ic : Nat) : mLive (DD em mi ic) 55 12 = [1, 1, 0, 1, 1] := rfl
theorem sg55_13 (em mi ic : Nat) : mSeg (DD em mi ic) 55 13 = g55_13 := rfl
theorem lv55_13 (em mi ic : Nat) : mLive (DD em mi ic) 55 13 = [1, 1, 0, 1, 0] := rfl
theorem sg55_14 (em mi ic : Nat) : mSeg (DD em mi ic) 55 14 = g55_14 := rfl
theorem lv55_14 (em mi ic : Nat) : mLive (DD em mi ic) 55 14 = [1, 1, 0, 0, 0] := rfl
theorem sg55_15 (em mi ic : Nat) : mSeg (DD em mi ic) 55 15 = g55_15 := rfl
theorem lv55_15 (em mi ic : Nat) : mLive (DD em mi ic) 55 15 = [1, 1, 0, 1, 0] := rfl
theorem sg55_16 (em mi ic : Nat) : mSeg (DD em mi ic) 55 16 = g55_16 := rfl
theorem lv55_16 (em mi ic : Nat) : mLive (DD em mi ic) 55 16 = [1, 1, 0, 1, 1] := rfl
theorem sg55_17 (em mi ic : Nat) : mSeg (DD em mi ic) 55 17 = g55_17 := rfl
theorem lv55_17 (em mi ic : Nat) : mLive (DD em mi ic) 55 17 = [1, 1, 0, 1, 0] := rfl
theorem sg55_18 (em mi ic : Nat) : mSeg (DD em mi ic) 55 18 = g55_18 := rfl
theorem lv55_18 (em mi ic : Nat) : mLive (DD em mi ic) 55 18 = [1, 1, 0, 0, 0] := rfl
theorem bc_55 (em mi ic : Nat) : mBc (DD em mi ic) 55 = 4 := rfl
theorem bs_55 (em mi ic : Nat) : mBs (DD em mi ic) 55 = 40 := rfl
theorem rt_55 (em mi ic : Nat) : mRet (DD em mi ic) 55 = some .long := rfl
theorem ml_55 (em mi ic : Nat) : mMaxL (DD em mi ic) 55 = 5 := rfl
theorem sg56_0 (em mi ic : Nat) : mSeg (DD em mi ic) 56 0 = g56_0 := rfl
theorem lv56_0 (em mi ic : Nat) : mLive (DD em mi ic) 56 0 = [1, 0, 0] := rfl
theorem sg56_1 (em mi ic : Nat) : mSeg (DD em mi ic) 56 1 = g56_1 := rfl
theorem lv56_1 (em mi ic : Nat) : mLive (DD em mi ic) 56 1 = [1, 1, 0] := rfl
theorem sg56_2 (em mi ic : Nat) : mSeg (DD em mi ic) 56 2 = g56_2 := rfl
theorem lv56_2 (em mi ic : Nat) : mLive (DD em mi ic) 56 2 = [1, 0, 0] := rfl
theorem sg56_3 (em mi ic : Nat) : mSeg (DD em mi ic) 56 3 = g56_3 := rfl
theorem lv56_3 (em mi ic : Nat) : mLive (DD em mi ic) 56 3 = [1, 1, 0] := rfl
theorem sg56_4 (em mi ic : Nat) : mSeg (DD em mi ic) 56 4 = g56_4 := rfl
theorem lv56_4 (em mi ic : Nat) : mLive (DD em mi ic) 56 4 = [1, 1, 1] := rfl
theorem sg56_5 (em mi ic : Nat) : mSeg (DD em mi ic) 56 5 = g56_5 := rfl
theorem lv56_5 (em mi ic : Nat) : mLive (DD em mi ic) 56 5 = [1, 1, 0] := rfl
theorem sg56_6 (em mi ic : Nat) : mSeg (DD em mi ic) 56 6 = g56_6 := rfl
theorem lv56_6 (em mi ic : Nat) : mLive (DD em mi ic) 56 6 = [1, 0, 0] := rfl
theorem sg56_7 (em mi ic : Nat) : mSeg (DD em mi ic) 56 7 = g56_7 := rfl
theorem lv56_7 (em mi ic : Nat) : mLive (DD em mi ic) 56 7 = [1, 1, 0] := rfl
theorem sg56_8 (em mi ic : Nat) : mSeg (DD em mi ic) 56 8 = g56_8 := rfl
theorem lv56_8 (em mi ic : Nat) : mLive (DD em mi ic) 56 8 = [1, 1, 1] := rfl
theorem sg56_9 (em mi ic : Nat) : mSeg (DD em mi ic) 56 9 = g56_9 := rfl
theorem lv56_9 (em mi ic : Nat) : mLive (DD em mi ic) 56 9 = [1, 1, 0] := rfl
theorem sg56_10 (em mi ic : Nat) : mSeg (DD em mi ic) 56 10 = g56_10 := rfl
theorem lv56_10 (em mi ic : Nat) : mLive (DD em mi ic) 56 10 = [1, 0, 0] := rfl
theorem sg56_11 (em mi ic : Nat) : mSeg (DD em mi ic) 56 11 = g56_11 := rfl
theorem lv56_11 (em mi ic : Nat) : mLive (DD em mi ic) 56 11 = [1, 1, 0] := rfl
theorem sg56_12 (em mi ic : Nat) : mSeg (DD em mi ic) 56 12 = g56_12 := rfl
theorem lv56_12 (em mi ic : Nat) : mLive (DD em mi ic) 56 12 = [1, 1, 1] := rfl
theorem sg56_13 (em mi ic : Nat) : mSeg (DD em mi ic) 56 13 = g56_13 := rfl
theorem lv56_13 (em mi ic : Nat) : mLive (DD em mi ic) 56 13 = [1, 1, 0] := rfl
theorem sg56_14 (em mi ic : Nat) : mSeg (DD em mi ic) 56 14 = g56_14 := rfl
theorem lv56_14 (em mi ic : Nat) : mLive (DD em mi ic) 56 14 = [1, 0, 0] := rfl
theorem sg56_15 (em mi ic : Nat) : mSeg (DD em mi ic) 56 15 = g56_15 := rfl
theorem lv56_15 (em mi ic : Nat) : mLive (DD em mi ic) 56 15 = [1, 1, 0] := rfl
theorem sg56_16 (em mi ic : Nat) : mSeg (DD em mi ic) 56 16 = g56_16 := rfl
theorem lv56_16 (em mi ic : Nat) : mLive (DD em mi ic) 56 16 = [1, 0, 0] := rfl
theorem sg56_17 (em mi ic : Nat) : mSeg (DD em mi ic) 56 17 = g56_17 := rfl
theorem lv56_17 (em mi ic : Nat) : mLive (DD em mi ic) 56 17 = [1, 0, 0] := rfl
theorem sg56_18 (em mi ic : Nat) : mSeg (DD em mi ic) 56 18 = g56_18 := rfl
theorem lv56_18 (em mi ic : Nat) : mLive (DD em mi ic) 56 18 = [1, 0, 0] := rfl
theorem bc_56 (em mi ic : Nat) : mBc (DD em mi ic) 56 = 176 := rfl
theorem bs_56 (em mi ic : Nat) : mBs (DD em mi ic) 56 = 800 := rfl
theorem rt_56 (em mi ic : Nat) : mRet (DD em mi ic) 56 = some .long := rfl
theorem ml_56 (em mi ic : Nat) : mMaxL (DD em mi ic) 56 = 3 := rfl
theorem sg57_0 (em mi ic : Nat) : mSeg (DD em mi ic) 57 0 = g57_0 := rfl
theorem lv57_0 (em mi ic : Nat) : mLive (DD em mi ic) 57 0 = [1] := rfl
theorem bc_57 (em mi ic : Nat) : mBc (DD em mi ic) 57 = 0 := rfl
theorem bs_57 (em mi ic : Nat) : mBs (DD em mi ic) 57 = 0 := rfl
theorem rt_57 (em mi ic : Nat) : mRet (DD em mi ic) 57 = none := rfl
theorem ml_57 (em mi ic : Nat) : mMaxL (DD em mi ic) 57 = 1 := rfl
theorem sg58_0 (em mi ic : Nat) : mSeg (DD em mi ic) 58 0 = g58_0 := rfl
theorem lv58_0 (em mi ic : Nat) : mLive (DD em mi ic) 58 0 = [1] := rfl
theorem bc_58 (em mi ic : Nat) : mBc (DD em mi ic) 58 = 0 := rfl
theorem bs_58 (em mi ic : Nat) : mBs (DD em mi ic) 58 = 0 := rfl
theorem rt_58 (em mi ic : Nat) : mRet (DD em mi ic) 58 = none := rfl
theorem ml_58 (em mi ic : Nat) : mMaxL (DD em mi ic) 58 = 1 := rfl
theorem sg59_0 (em mi ic : Nat) : mSeg (DD em mi ic) 59 0 = g59_0 := rfl
theorem lv59_0 (em mi ic : Nat) : mLive (DD em mi ic) 59 0 = [1, 1, 1] := rfl
theorem bc_59 (em mi ic : Nat) : mBc (DD em mi ic) 59 = 1 := rfl
theorem bs_59 (em mi ic : Nat) : mBs (DD em mi ic) 59 = 6 := rfl
theorem rt_59 (em mi ic : Nat) : mRet (DD em mi ic) 59 = none := rfl
theorem ml_59 (em mi ic : Nat) : mMaxL (DD em mi ic) 59 = 3 := rfl
theorem sg60_0 (em mi ic : Nat) : mSeg (DD em mi ic) 60 0 = g60_0 := rfl
theorem lv60_0 (em mi ic : Nat) : mLive (DD em mi ic) 60 0 = [1, 1, 1] := rfl
theorem bc_60 (em mi ic : Nat) : mBc (DD em mi ic) 60 = 0 := rfl
theorem bs_60 (em mi ic : Nat) : mBs (DD em mi ic) 60 = 0 := rfl
theorem rt_60 (em mi ic : Nat) : mRet (DD em mi ic) 60 = none := rfl
theorem ml_60 (em mi ic : Nat) : mMaxL (DD em mi ic) 60 = 3 := rfl
theorem sg61_0 (em mi ic : Nat) : mSeg (DD em mi ic) 61 0 = g61_0 := rfl
theorem lv61_0 (em mi ic : Nat) : mLive (DD em mi ic) 61 0 = [1, 1, 1, 1] := rfl
theorem bc_61 (em mi ic : Nat) : mBc (DD em mi ic) 61 = 1 := rfl
theorem bs_61 (em mi ic : Nat) : mBs (DD em mi ic) 61 = 6 := rfl
theorem rt_61 (em mi ic : Nat) : mRet (DD em mi ic) 61 = none := rfl
theorem ml_61 (em mi ic : Nat) : mMaxL (DD em mi ic) 61 = 4 := rfl
theorem sg62_0 (em mi ic : Nat) : mSeg (DD em mi ic) 62 0 = g62_0 := rfl
theorem lv62_0 (em mi ic : Nat) : mLive (DD em mi ic) 62 0 = [1] := rfl
theorem bc_62 (em mi ic : Nat) : mBc (DD em mi ic) 62 = 1 := rfl
theorem bs_62 (em mi ic : Nat) : mBs (DD em mi ic) 62 = 3 := rfl
theorem rt_62 (em mi ic : Nat) : mRet (DD em mi ic) 62 = none := rfl
theorem ml_62 (em mi ic : Nat) : mMaxL (DD em mi ic) 62 = 1 := rfl
theorem sg63_0 (em mi ic : Nat) : mSeg (DD em mi ic) 63 0 = g63_0 := rfl
theorem lv63_0 (em mi ic : Nat) : mLive (DD em mi ic) 63 0 = [1] := rfl
theorem bc_63 (em mi ic : Nat) : mBc (DD em mi ic) 63 = 1 := rfl
theorem bs_63 (em mi ic : Nat) : mBs (DD em mi ic) 63 = 3 := rfl
theorem rt_63 (em mi ic : Nat) : mRet (DD em mi ic) 63 = none := rfl
theorem ml_63 (em mi ic : Nat) : mMaxL (DD em mi ic) 63 = 1 := rfl
theorem sg64_0 (em mi ic : Nat) : mSeg (DD em mi ic) 64 0 = g64_0 := rfl
theorem lv64_0 (em mi ic : Nat) : mLive (DD em mi ic) 64 0 = [1, 1, 1, 0] := rfl
theorem sg64_1 (em mi ic : Nat) : mSeg (DD em mi ic) 64 1 = g64_1 := rfl
theorem lv64_1 (em mi ic : Nat) : mLive (DD em mi ic) 64 1 = [0, 0, 0, 0] := rfl
theorem sg64_2 (em mi ic : Nat) : mSeg (DD em mi ic) 64 2 = g64_2 := rfl
theorem lv64_2 (em mi ic : Nat) : mLive (DD em mi ic) 64 2 = [1, 1, 1, 0] := rfl
theorem sg64_3 (em mi ic : Nat) : mSeg (DD em mi ic) 64 3 = g64_3 := rfl
theorem lv64_3 (em mi ic : Nat) : mLive (DD em mi ic) 64 3 = [1, 1, 1, 1] := rfl
theorem bc_64 (em mi ic : Nat) : mBc (DD em mi ic) 64 = 3 := rfl
theorem bs_64 (em mi ic : Nat) : mBs (DD em mi ic) 64 = 24 := rfl
theorem rt_64 (em mi ic : Nat) : mRet (DD em mi ic) 64 = some .int := rfl
theorem ml_64 (em mi ic : Nat) : mMaxL (DD em mi ic) 64 = 4 := rfl
theorem sg65_0 (em mi ic : Nat) : mSeg (DD em mi ic) 65 0 = g65_0 := rfl
theorem lv65_0 (em mi ic : Nat) : mLive (DD em mi ic) 65 0 = [1, 1, 1] := rfl
theorem sg65_1 (em mi ic : Nat) : mSeg (DD em mi ic) 65 1 = g65_1 := rfl
theorem lv65_1 (em mi ic : Nat) : mLive (DD em mi ic) 65 1 = [0, 0, 0] := rfl
theorem sg65_2 (em mi ic : Nat) : mSeg (DD em mi ic) 65 2 = g65_2 := rfl
theorem lv65_2 (em mi ic : Nat) : mLive (DD em mi ic) 65 2 = [0, 0, 0] := rfl
theorem bc_65 (em mi ic : Nat) : mBc (DD em mi ic) 65 = 0 := rfl
theorem bs_65 (em mi ic : Nat) : mBs (DD em mi ic) 65 = 0 := rfl
theorem rt_65 (em mi ic : Nat) : mRet (DD em mi ic) 65 = some .boolean := rfl
theorem ml_65 (em mi ic : Nat) : mMaxL (DD em mi ic) 65 = 3 := rfl
theorem sg66_0 (em mi ic : Nat) : mSeg (DD em mi ic) 66 0 = g66_0 := rfl
theorem lv66_0 (em mi ic : Nat) : mLive (DD em mi ic) 66 0 = [1, 1] := rfl
theorem bc_66 (em mi ic : Nat) : mBc (DD em mi ic) 66 = 0 := rfl
theorem bs_66 (em mi ic : Nat) : mBs (DD em mi ic) 66 = 0 := rfl
theorem rt_66 (em mi ic : Nat) : mRet (DD em mi ic) 66 = some .int := rfl
theorem ml_66 (em mi ic : Nat) : mMaxL (DD em mi ic) 66 = 2 := rfl
theorem sg67_0 (em mi ic : Nat) : mSeg (DD em mi ic) 67 0 = g67_0 := rfl
theorem lv67_0 (em mi ic : Nat) : mLive (DD em mi ic) 67 0 = [1] := rfl
theorem bc_67 (em mi ic : Nat) : mBc (DD em mi ic) 67 = 0 := rfl
theorem bs_67 (em mi ic : Nat) : mBs (DD em mi ic) 67 = 0 := rfl
theorem rt_67 (em mi ic : Nat) : mRet (DD em mi ic) 67 = some .int := rfl
theorem ml_67 (em mi ic : Nat) : mMaxL (DD em mi ic) 67 = 1 := rfl
theorem sg68_0 (em mi ic : Nat) : mSeg (DD em mi ic) 68 0 = g68_0 := rfl
theorem lv68_0 (em mi ic : Nat) : mLive (DD em mi ic) 68 0 = [1, 1] := rfl
theorem bc_68 (em mi ic : Nat) : mBc (DD em mi ic) 68 = 1 := rfl
theorem bs_68 (em mi ic : Nat) : mBs (DD em mi ic) 68 = 15 := rfl
theorem rt_68 (em mi ic : Nat) : mRet (DD em mi ic) 68 = some .boolean := rfl
theorem ml_68 (em mi ic : Nat) : mMaxL (DD em mi ic) 68 = 2 := rfl
theorem sg69_0 (em mi ic : Nat) : mSeg (DD em mi ic) 69 0 = g69_0 := rfl
theorem lv69_0 (em mi ic : Nat) : mLive (DD em mi ic) 69 0 = [1, 1, 1, 0] := rfl
theorem sg69_1 (em mi ic : Nat) : mSeg (DD em mi ic) 69 1 = g69_1 := rfl
theorem lv69_1 (em mi ic : Nat) : mLive (DD em mi ic) 69 1 = [0, 0, 0, 0] := rfl
theorem sg69_2 (em mi ic : Nat) : mSeg (DD em mi ic) 69 2 = g69_2 := rfl
theorem lv69_2 (em mi ic : Nat) : mLive (DD em mi ic) 69 2 = [1, 1, 1, 0] := rfl
theorem sg69_3 (em mi ic : Nat) : mSeg (DD em mi ic) 69 3 = g69_3 := rfl
theorem lv69_3 (em mi ic : Nat) : mLive (DD em mi ic) 69 3 = [1, 1, 1, 1] := rfl
theorem bc_69 (em mi ic : Nat) : mBc (DD em mi ic) 69 = 3 := rfl
theorem bs_69 (em mi ic : Nat) : mBs (DD em mi ic) 69 = 24 := rfl
theorem rt_69 (em mi ic : Nat) : mRet (DD em mi ic) 69 = some .int := rfl
theorem ml_69 (em mi ic : Nat) : mMaxL (DD em mi ic) 69 = 4 := rfl
theorem sg70_0 (em mi ic : Nat) : mSeg (DD em mi ic) 70 0 = g70_0 := rfl
theorem lv70_0 (em mi ic : Nat) : mLive (DD em mi ic) 70 0 = [1, 1, 1, 0, 0] := rfl
theorem sg70_1 (em mi ic : Nat) : mSeg (DD em mi ic) 70 1 = g70_1 := rfl
theorem lv70_1 (em mi ic : Nat) : mLive (DD em mi ic) 70 1 = [0, 0, 0, 0, 0] := rfl
theorem sg70_2 (em mi ic : Nat) : mSeg (DD em mi ic) 70 2 = g70_2 := rfl
theorem lv70_2 (em mi ic : Nat) : mLive (DD em mi ic) 70 2 = [1, 1, 1, 0, 0] := rfl
theorem sg70_3 (em mi ic : Nat) : mSeg (DD em mi ic) 70 3 = g70_3 := rfl
theorem lv70_3 (em mi ic : Nat) : mLive (DD em mi ic) 70 3 = [1, 1, 1, 0, 0] := rfl
theorem bc_70 (em mi ic : Nat) : mBc (DD em mi ic) 70 = 1 := rfl
theorem bs_70 (em mi ic : Nat) : mBs (DD em mi ic) 70 = 6 := rfl
theorem rt_70 (em mi ic : Nat) : mRet (DD em mi ic) 70 = some .int := rfl
theorem ml_70 (em mi ic : Nat) : mMaxL (DD em mi ic) 70 = 5 := rfl
theorem sg71_0 (em mi ic : Nat) : mSeg (DD em mi ic) 71 0 = g71_0 := rfl
theorem lv71_0 (em mi ic : Nat) : mLive (DD em mi ic) 71 0 = [1, 1] := rfl
theorem bc_71 (em mi ic : Nat) : mBc (DD em mi ic) 71 = 0 := rfl
theorem bs_71 (em mi ic : Nat) : mBs (DD em mi ic) 71 = 0 := rfl
theorem rt_71 (em mi ic : Nat) : mRet (DD em mi ic) 71 = some .boolean := rfl
theorem ml_71 (em mi ic : Nat) : mMaxL (DD em mi ic) 71 = 2 := rfl
theorem sg72_0 (em mi ic : Nat) : mSeg (DD em mi ic) 72 0 = g72_0 := rfl
theorem lv72_0 (em mi ic : Nat) : mLive (DD em mi ic) 72 0 = [1, 1] := rfl
theorem bc_72 (em mi ic : Nat) : mBc (DD em mi ic) 72 = 0 := rfl
theorem bs_72 (em mi ic : Nat) : mBs (DD em mi ic) 72 = 0 := rfl
theorem rt_72 (em mi ic : Nat) : mRet (DD em mi ic) 72 = some (.object "java/lang/Object") := rfl
theorem ml_72 (em mi ic : Nat) : mMaxL (DD em mi ic) 72 = 2 := rfl
theorem sg73_0 (em mi ic : Nat) : mSeg (DD em mi ic) 73 0 = g73_0 := rfl
theorem lv73_0 (em mi ic : Nat) : mLive (DD em mi ic) 73 0 = [1, 1, 1, 1, 0, 0] := rfl
theorem sg73_1 (em mi ic : Nat) : mSeg (DD em mi ic) 73 1 = g73_1 := rfl
theorem lv73_1 (em mi ic : Nat) : mLive (DD em mi ic) 73 1 = [0, 0, 0, 0, 0, 0] := rfl
theorem sg73_2 (em mi ic : Nat) : mSeg (DD em mi ic) 73 2 = g73_2 := rfl
theorem lv73_2 (em mi ic : Nat) : mLive (DD em mi ic) 73 2 = [1, 1, 1, 1, 0, 0] := rfl
theorem sg73_3 (em mi ic : Nat) : mSeg (DD em mi ic) 73 3 = g73_3 := rfl
theorem lv73_3 (em mi ic : Nat) : mLive (DD em mi ic) 73 3 = [1, 1, 1, 1, 0, 0] := rfl
theorem sg73_4 (em mi ic : Nat) : mSeg (DD em mi ic) 73 4 = g73_4 := rfl
theorem lv73_4 (em mi ic : Nat) : mLive (DD em mi ic) 73 4 = [1, 1, 1, 1, 1, 0] := rfl
theorem sg73_5 (em mi ic : Nat) : mSeg (DD em mi ic) 73 5 = g73_5 := rfl
theorem lv73_5 (em mi ic : Nat) : mLive (DD em mi ic) 73 5 = [1, 0, 0, 0, 1, 1] := rfl
theorem bc_73 (em mi ic : Nat) : mBc (DD em mi ic) 73 = 3 := rfl
theorem bs_73 (em mi ic : Nat) : mBs (DD em mi ic) 73 = 26 := rfl
theorem rt_73 (em mi ic : Nat) : mRet (DD em mi ic) 73 = some .int := rfl
theorem ml_73 (em mi ic : Nat) : mMaxL (DD em mi ic) 73 = 6 := rfl
theorem sg74_0 (em mi ic : Nat) : mSeg (DD em mi ic) 74 0 = g74_0 := rfl
theorem lv74_0 (em mi ic : Nat) : mLive (DD em mi ic) 74 0 = [1, 1] := rfl
theorem bc_74 (em mi ic : Nat) : mBc (DD em mi ic) 74 = 0 := rfl
theorem bs_74 (em mi ic : Nat) : mBs (DD em mi ic) 74 = 0 := rfl
theorem rt_74 (em mi ic : Nat) : mRet (DD em mi ic) 74 = some .boolean := rfl
theorem ml_74 (em mi ic : Nat) : mMaxL (DD em mi ic) 74 = 2 := rfl
theorem sg75_0 (em mi ic : Nat) : mSeg (DD em mi ic) 75 0 = g75_0 := rfl
theorem lv75_0 (em mi ic : Nat) : mLive (DD em mi ic) 75 0 = [1] := rfl
theorem bc_75 (em mi ic : Nat) : mBc (DD em mi ic) 75 = 0 := rfl
theorem bs_75 (em mi ic : Nat) : mBs (DD em mi ic) 75 = 0 := rfl
theorem rt_75 (em mi ic : Nat) : mRet (DD em mi ic) 75 = none := rfl
theorem ml_75 (em mi ic : Nat) : mMaxL (DD em mi ic) 75 = 1 := rfl
theorem sg76_0 (em mi ic : Nat) : mSeg (DD em mi ic) 76 0 = g76_0 := rfl
theorem lv76_0 (em mi ic : Nat) : mLive (DD em mi ic) 76 0 = [1, 1] := rfl
theorem sg76_1 (em mi ic : Nat) : mSeg (DD em mi ic) 76 1 = g76_1 := rfl
theorem lv76_1 (em mi ic : Nat) : mLive (DD em mi ic) 76 1 = [0, 0] := rfl
theorem sg76_2 (em mi ic : Nat) : mSeg (DD em mi ic) 76 2 = g76_2 := rfl
theorem lv76_2 (em mi ic : Nat) : mLive (DD em mi ic) 76 2 = [0, 0] := rfl
theorem bc_76 (em mi ic : Nat) : mBc (DD em mi ic) 76 = 0 := rfl
theorem bs_76 (em mi ic : Nat) : mBs (DD em mi ic) 76 = 0 := rfl
theorem rt_76 (em mi ic : Nat) : mRet (DD em mi ic) 76 = some .boolean := rfl
theorem ml_76 (em mi ic : Nat) : mMaxL (DD em mi ic) 76 = 2 := rfl
theorem sg77_0 (em mi ic : Nat) : mSeg (DD em mi ic) 77 0 = g77_0 := rfl
theorem lv77_0 (em mi ic : Nat) : mLive (DD em mi ic) 77 0 = [1, 1, 1, 0] := rfl
theorem sg77_1 (em mi ic : Nat) : mSeg (DD em mi ic) 77 1 = g77_1 := rfl
theorem lv77_1 (em mi ic : Nat) : mLive (DD em mi ic) 77 1 = [0, 0, 0, 0] := rfl
theorem sg77_2 (em mi ic : Nat) : mSeg (DD em mi ic) 77 2 = g77_2 := rfl
theorem lv77_2 (em mi ic : Nat) : mLive (DD em mi ic) 77 2 = [1, 1, 1, 0] := rfl
theorem bc_77 (em mi ic : Nat) : mBc (DD em mi ic) 77 = 1 := rfl
theorem bs_77 (em mi ic : Nat) : mBs (DD em mi ic) 77 = 6 := rfl
theorem rt_77 (em mi ic : Nat) : mRet (DD em mi ic) 77 = some .int := rfl
theorem ml_77 (em mi ic : Nat) : mMaxL (DD em mi ic) 77 = 4 := rfl
theorem sg78_0 (em mi ic : Nat) : mSeg (DD em mi ic) 78 0 = g78_0 := rfl
theorem lv78_0 (em mi ic : Nat) : mLive (DD em mi ic) 78 0 = [1, 1, 0] := rfl
theorem sg78_1 (em mi ic : Nat) : mSeg (DD em mi ic) 78 1 = g78_1 := rfl
theorem lv78_1 (em mi ic : Nat) : mLive (DD em mi ic) 78 1 = [1, 1, 0] := rfl
theorem bc_78 (em mi ic : Nat) : mBc (DD em mi ic) 78 = 1 := rfl
theorem bs_78 (em mi ic : Nat) : mBs (DD em mi ic) 78 = 6 := rfl
theorem rt_78 (em mi ic : Nat) : mRet (DD em mi ic) 78 = some .int := rfl
theorem ml_78 (em mi ic : Nat) : mMaxL (DD em mi ic) 78 = 3 := rfl
theorem sg79_0 (em mi ic : Nat) : mSeg (DD em mi ic) 79 0 = g79_0 := rfl
theorem lv79_0 (em mi ic : Nat) : mLive (DD em mi ic) 79 0 = [1, 1, 0] := rfl
theorem sg79_1 (em mi ic : Nat) : mSeg (DD em mi ic) 79 1 = g79_1 := rfl
theorem lv79_1 (em mi ic : Nat) : mLive (DD em mi ic) 79 1 = [0, 0, 0] := rfl
theorem sg79_2 (em mi ic : Nat) : mSeg (DD em mi ic) 79 2 = g79_2 := rfl
theorem lv79_2 (em mi ic : Nat) : mLive (DD em mi ic) 79 2 = [1, 1, 0] := rfl
theorem sg79_3 (em mi ic : Nat) : mSeg (DD em mi ic) 79 3 = g79_3 := rfl
theorem lv79_3 (em mi ic : Nat) : mLive (DD em mi ic) 79 3 = [0, 0, 0] := rfl
theorem sg79_4 (em mi ic : Nat) : mSeg (DD em mi ic) 79 4 = g79_4 := rfl
theorem lv79_4 (em mi ic : Nat) : mLive (DD em mi ic) 79 4 = [1, 0, 1] := rfl
theorem bc_79 (em mi ic : Nat) : mBc (DD em mi ic) 79 = 1 := rfl
theorem bs_79 (em mi ic : Nat) : mBs (DD em mi ic) 79 = 6 := rfl
theorem rt_79 (em mi ic : Nat) : mRet (DD em mi ic) 79 = some .int := rfl
theorem ml_79 (em mi ic : Nat) : mMaxL (DD em mi ic) 79 = 3 := rfl
theorem sg80_0 (em mi ic : Nat) : mSeg (DD em mi ic) 80 0 = g80_0 := rfl
theorem lv80_0 (em mi ic : Nat) : mLive (DD em mi ic) 80 0 = [1, 1] := rfl
theorem bc_80 (em mi ic : Nat) : mBc (DD em mi ic) 80 = 0 := rfl
theorem bs_80 (em mi ic : Nat) : mBs (DD em mi ic) 80 = 0 := rfl
theorem rt_80 (em mi ic : Nat) : mRet (DD em mi ic) 80 = some .boolean := rfl
theorem ml_80 (em mi ic : Nat) : mMaxL (DD em mi ic) 80 = 2 := rfl
theorem sg81_0 (em mi ic : Nat) : mSeg (DD em mi ic) 81 0 = g81_0 := rfl
theorem lv81_0 (em mi ic : Nat) : mLive (DD em mi ic) 81 0 = [1, 1, 0, 0] := rfl
theorem sg81_1 (em mi ic : Nat) : mSeg (DD em mi ic) 81 1 = g81_1 := rfl
theorem lv81_1 (em mi ic : Nat) : mLive (DD em mi ic) 81 1 = [1, 1, 0, 0] := rfl
theorem sg81_2 (em mi ic : Nat) : mSeg (DD em mi ic) 81 2 = g81_2 := rfl
theorem lv81_2 (em mi ic : Nat) : mLive (DD em mi ic) 81 2 = [1, 1, 0, 0] := rfl
theorem sg81_3 (em mi ic : Nat) : mSeg (DD em mi ic) 81 3 = g81_3 := rfl
theorem lv81_3 (em mi ic : Nat) : mLive (DD em mi ic) 81 3 = [1, 1, 1, 1] := rfl
theorem sg81_4 (em mi ic : Nat) : mSeg (DD em mi ic) 81 4 = g81_4 := rfl
theorem lv81_4 (em mi ic : Nat) : mLive (DD em mi ic) 81 4 = [0, 0, 1, 0] := rfl
theorem bc_81 (em mi ic : Nat) : mBc (DD em mi ic) 81 = 1 := rfl
theorem bs_81 (em mi ic : Nat) : mBs (DD em mi ic) 81 = 6 := rfl
theorem rt_81 (em mi ic : Nat) : mRet (DD em mi ic) 81 = some .int := rfl
theorem ml_81 (em mi ic : Nat) : mMaxL (DD em mi ic) 81 = 4 := rfl
theorem sg82_0 (em mi ic : Nat) : mSeg (DD em mi ic) 82 0 = g82_0 := rfl
theorem lv82_0 (em mi ic : Nat) : mLive (DD em mi ic) 82 0 = [1, 0, 0, 0] := rfl
theorem sg82_1 (em mi ic : Nat) : mSeg (DD em mi ic) 82 1 = g82_1 := rfl
theorem lv82_1 (em mi ic : Nat) : mLive (DD em mi ic) 82 1 = [1, 1, 1, 0] := rfl
theorem sg82_2 (em mi ic : Nat) : mSeg (DD em mi ic) 82 2 = g82_2 := rfl
theorem lv82_2 (em mi ic : Nat) : mLive (DD em mi ic) 82 2 = [1, 1, 1, 1] := rfl
theorem sg82_3 (em mi ic : Nat) : mSeg (DD em mi ic) 82 3 = g82_3 := rfl
theorem lv82_3 (em mi ic : Nat) : mLive (DD em mi ic) 82 3 = [1, 1, 0, 0] := rfl
theorem sg82_4 (em mi ic : Nat) : mSeg (DD em mi ic) 82 4 = g82_4 := rfl
theorem lv82_4 (em mi ic : Nat) : mLive (DD em mi ic) 82 4 = [1, 1, 1, 0] := rfl
theorem sg82_5 (em mi ic : Nat) : mSeg (DD em mi ic) 82 5 = g82_5 := rfl
theorem lv82_5 (em mi ic : Nat) : mLive (DD em mi ic) 82 5 = [1, 1, 1, 1] := rfl
theorem sg82_6 (em mi ic : Nat) : mSeg (DD em mi ic) 82 6 = g82_6 := rfl
theorem lv82_6 (em mi ic : Nat) : mLive (DD em mi ic) 82 6 = [0, 1, 0, 0] := rfl
theorem bc_82 (em mi ic : Nat) : mBc (DD em mi ic) 82 = 2 := rfl
theorem bs_82 (em mi ic : Nat) : mBs (DD em mi ic) 82 = 8 := rfl
theorem rt_82 (em mi ic : Nat) : mRet (DD em mi ic) 82 = some .int := rfl
theorem ml_82 (em mi ic : Nat) : mMaxL (DD em mi ic) 82 = 4 := rfl
theorem sg83_0 (em mi ic : Nat) : mSeg (DD em mi ic) 83 0 = g83_0 := rfl
theorem lv83_0 (em mi ic : Nat) : mLive (DD em mi ic) 83 0 = [1, 1, 1, 0] := rfl
theorem sg83_1 (em mi ic : Nat) : mSeg (DD em mi ic) 83 1 = g83_1 := rfl
theorem lv83_1 (em mi ic : Nat) : mLive (DD em mi ic) 83 1 = [0, 0, 0, 0] := rfl
theorem sg83_2 (em mi ic : Nat) : mSeg (DD em mi ic) 83 2 = g83_2 := rfl
theorem lv83_2 (em mi ic : Nat) : mLive (DD em mi ic) 83 2 = [1, 1, 1, 0] := rfl
theorem sg83_3 (em mi ic : Nat) : mSeg (DD em mi ic) 83 3 = g83_3 := rfl
theorem lv83_3 (em mi ic : Nat) : mLive (DD em mi ic) 83 3 = [1, 1, 1, 1] := rfl
theorem bc_83 (em mi ic : Nat) : mBc (DD em mi ic) 83 = 3 := rfl
theorem bs_83 (em mi ic : Nat) : mBs (DD em mi ic) 83 = 24 := rfl
theorem rt_83 (em mi ic : Nat) : mRet (DD em mi ic) 83 = some .int := rfl
theorem ml_83 (em mi ic : Nat) : mMaxL (DD em mi ic) 83 = 4 := rfl
theorem sg84_0 (em mi ic : Nat) : mSeg (DD em mi ic) 84 0 = g84_0 := rfl
theorem lv84_0 (em mi ic : Nat) : mLive (DD em mi ic) 84 0 = [1, 1] := rfl
theorem sg84_1 (em mi ic : Nat) : mSeg (DD em mi ic) 84 1 = g84_1 := rfl
theorem lv84_1 (em mi ic : Nat) : mLive (DD em mi ic) 84 1 = [1, 1] := rfl
theorem bc_84 (em mi ic : Nat) : mBc (DD em mi ic) 84 = 1 := rfl
theorem bs_84 (em mi ic : Nat) : mBs (DD em mi ic) 84 = 6 := rfl
theorem rt_84 (em mi ic : Nat) : mRet (DD em mi ic) 84 = some .int := rfl
theorem ml_84 (em mi ic : Nat) : mMaxL (DD em mi ic) 84 = 2 := rfl
theorem sg85_0 (em mi ic : Nat) : mSeg (DD em mi ic) 85 0 = g85_0 := rfl
theorem lv85_0 (em mi ic : Nat) : mLive (DD em mi ic) 85 0 = [1] := rfl
theorem bc_85 (em mi ic : Nat) : mBc (DD em mi ic) 85 = 1 := rfl
theorem bs_85 (em mi ic : Nat) : mBs (DD em mi ic) 85 = 4 := rfl
theorem rt_85 (em mi ic : Nat) : mRet (DD em mi ic) 85 = some (.object "java/util/Iterator") := rfl
theorem ml_85 (em mi ic : Nat) : mMaxL (DD em mi ic) 85 = 1 := rfl
theorem sg86_0 (em mi ic : Nat) : mSeg (DD em mi ic) 86 0 = g86_0 := rfl
theorem lv86_0 (em mi ic : Nat) : mLive (DD em mi ic) 86 0 = [1] := rfl
theorem sg86_1 (em mi ic : Nat) : mSeg (DD em mi ic) 86 1 = g86_1 := rfl
theorem lv86_1 (em mi ic : Nat) : mLive (DD em mi ic) 86 1 = [0] := rfl
theorem sg86_2 (em mi ic : Nat) : mSeg (DD em mi ic) 86 2 = g86_2 := rfl
theorem lv86_2 (em mi ic : Nat) : mLive (DD em mi ic) 86 2 = [0] := rfl
theorem bc_86 (em mi ic : Nat) : mBc (DD em mi ic) 86 = 0 := rfl
theorem bs_86 (em mi ic : Nat) : mBs (DD em mi ic) 86 = 0 := rfl
theorem rt_86 (em mi ic : Nat) : mRet (DD em mi ic) 86 = some .boolean := rfl
theorem ml_86 (em mi ic : Nat) : mMaxL (DD em mi ic) 86 = 1 := rfl
theorem sg87_0 (em mi ic : Nat) : mSeg (DD em mi ic) 87 0 = g87_0 := rfl
theorem lv87_0 (em mi ic : Nat) : mLive (DD em mi ic) 87 0 = [1, 0, 0] := rfl
theorem sg87_1 (em mi ic : Nat) : mSeg (DD em mi ic) 87 1 = g87_1 := rfl
theorem lv87_1 (em mi ic : Nat) : mLive (DD em mi ic) 87 1 = [1, 1, 0] := rfl
theorem sg87_2 (em mi ic : Nat) : mSeg (DD em mi ic) 87 2 = g87_2 := rfl
theorem lv87_2 (em mi ic : Nat) : mLive (DD em mi ic) 87 2 = [1, 1, 1] := rfl
theorem bc_87 (em mi ic : Nat) : mBc (DD em mi ic) 87 = 0 := rfl
theorem bs_87 (em mi ic : Nat) : mBs (DD em mi ic) 87 = 0 := rfl
theorem rt_87 (em mi ic : Nat) : mRet (DD em mi ic) 87 = some (.object "java/lang/Object") := rfl
theorem ml_87 (em mi ic : Nat) : mMaxL (DD em mi ic) 87 = 3 := rfl
theorem sg88_0 (em mi ic : Nat) : mSeg (DD em mi ic) 88 0 = g88_0 := rfl
theorem lv88_0 (em mi ic : Nat) : mLive (DD em mi ic) 88 0 = [1, 1] := rfl
theorem sg88_1 (em mi ic : Nat) : mSeg (DD em mi ic) 88 1 = g88_1 := rfl
theorem lv88_1 (em mi ic : Nat) : mLive (DD em mi ic) 88 1 = [0, 1] := rfl
theorem sg88_2 (em mi ic : Nat) : mSeg (DD em mi ic) 88 2 = g88_2 := rfl
theorem lv88_2 (em mi ic : Nat) : mLive (DD em mi ic) 88 2 = [0, 0] := rfl
theorem bc_88 (em mi ic : Nat) : mBc (DD em mi ic) 88 = 0 := rfl
theorem bs_88 (em mi ic : Nat) : mBs (DD em mi ic) 88 = 0 := rfl
theorem rt_88 (em mi ic : Nat) : mRet (DD em mi ic) 88 = some .int := rfl
theorem ml_88 (em mi ic : Nat) : mMaxL (DD em mi ic) 88 = 2 := rfl
theorem sg89_0 (em mi ic : Nat) : mSeg (DD em mi ic) 89 0 = g89_0 := rfl
theorem lv89_0 (em mi ic : Nat) : mLive (DD em mi ic) 89 0 = [1, 1, 0] := rfl
theorem sg89_1 (em mi ic : Nat) : mSeg (DD em mi ic) 89 1 = g89_1 := rfl
theorem lv89_1 (em mi ic : Nat) : mLive (DD em mi ic) 89 1 = [1, 1, 0] := rfl
theorem sg89_2 (em mi ic : Nat) : mSeg (DD em mi ic) 89 2 = g89_2 := rfl
theorem lv89_2 (em mi ic : Nat) : mLive (DD em mi ic) 89 2 = [1, 1, 1] := rfl
theorem bc_89 (em mi ic : Nat) : mBc (DD em mi ic) 89 = 3 := rfl
theorem bs_89 (em mi ic : Nat) : mBs (DD em mi ic) 89 = 24 := rfl
theorem rt_89 (em mi ic : Nat) : mRet (DD em mi ic) 89 = some .int := rfl
theorem ml_89 (em mi ic : Nat) : mMaxL (DD em mi ic) 89 = 3 := rfl
theorem sg90_0 (em mi ic : Nat) : mSeg (DD em mi ic) 90 0 = g90_0 := rfl
theorem lv90_0 (em mi ic : Nat) : mLive (DD em mi ic) 90 0 = [1, 0] := rfl
theorem sg90_1 (em mi ic : Nat) : mSeg (DD em mi ic) 90 1 = g90_1 := rfl
theorem lv90_1 (em mi ic : Nat) : mLive (DD em mi ic) 90 1 = [1, 0] := rfl
theorem sg90_2 (em mi ic : Nat) : mSeg (DD em mi ic) 90 2 = g90_2 := rfl
theorem lv90_2 (em mi ic : Nat) : mLive (DD em mi ic) 90 2 = [0, 1] := rfl
theorem sg90_3 (em mi ic : Nat) : mSeg (DD em mi ic) 90 3 = g90_3 := rfl
theorem lv90_3 (em mi ic : Nat) : mLive (DD em mi ic) 90 3 = [0, 1] := rfl
theorem sg90_4 (em mi ic : Nat) : mSeg (DD em mi ic) 90 4 = g90_4 := rfl
theorem lv90_4 (em mi ic : Nat) : mLive (DD em mi ic) 90 4 = [0, 0] := rfl
theorem bc_90 (em mi ic : Nat) : mBc (DD em mi ic) 90 = 0 := rfl
theorem bs_90 (em mi ic : Nat) : mBs (DD em mi ic) 90 = 0 := rfl
theorem rt_90 (em mi ic : Nat) : mRet (DD em mi ic) 90 = some .boolean := rfl
theorem ml_90 (em mi ic : Nat) : mMaxL (DD em mi ic) 90 = 2 := rfl
theorem sg91_0 (em mi ic : Nat) : mSeg (DD em mi ic) 91 0 = g91_0 := rfl
theorem lv91_0 (em mi ic : Nat) : mLive (DD em mi ic) 91 0 = [1] := rfl
theorem sg91_1 (em mi ic : Nat) : mSeg (DD em mi ic) 91 1 = g91_1 := rfl
theorem lv91_1 (em mi ic : Nat) : mLive (DD em mi ic) 91 1 = [1] := rfl
theorem bc_91 (em mi ic : Nat) : mBc (DD em mi ic) 91 = 1 := rfl
theorem bs_91 (em mi ic : Nat) : mBs (DD em mi ic) 91 = 1 := rfl
theorem rt_91 (em mi ic : Nat) : mRet (DD em mi ic) 91 = some (.object "java/lang/Integer") := rfl
theorem ml_91 (em mi ic : Nat) : mMaxL (DD em mi ic) 91 = 1 := rfl
theorem sg92_0 (em mi ic : Nat) : mSeg (DD em mi ic) 92 0 = g92_0 := rfl
theorem lv92_0 (em mi ic : Nat) : mLive (DD em mi ic) 92 0 = [1, 1, 1] := rfl
theorem sg92_1 (em mi ic : Nat) : mSeg (DD em mi ic) 92 1 = g92_1 := rfl
theorem lv92_1 (em mi ic : Nat) : mLive (DD em mi ic) 92 1 = [0, 0, 0] := rfl
theorem sg92_2 (em mi ic : Nat) : mSeg (DD em mi ic) 92 2 = g92_2 := rfl
theorem lv92_2 (em mi ic : Nat) : mLive (DD em mi ic) 92 2 = [1, 1, 1] := rfl
theorem bc_92 (em mi ic : Nat) : mBc (DD em mi ic) 92 = 1 := rfl
theorem bs_92 (em mi ic : Nat) : mBs (DD em mi ic) 92 = 6 := rfl
theorem rt_92 (em mi ic : Nat) : mRet (DD em mi ic) 92 = some .int := rfl
theorem ml_92 (em mi ic : Nat) : mMaxL (DD em mi ic) 92 = 3 := rfl
theorem sg93_0 (em mi ic : Nat) : mSeg (DD em mi ic) 93 0 = g93_0 := rfl
theorem lv93_0 (em mi ic : Nat) : mLive (DD em mi ic) 93 0 = [1, 0, 0, 0, 0, 0, 0] := rfl
theorem sg93_1 (em mi ic : Nat) : mSeg (DD em mi ic) 93 1 = g93_1 := rfl
theorem lv93_1 (em mi ic : Nat) : mLive (DD em mi ic) 93 1 = [1, 1, 1, 0, 0, 0, 0] := rfl
theorem sg93_2 (em mi ic : Nat) : mSeg (DD em mi ic) 93 2 = g93_2 := rfl
theorem lv93_2 (em mi ic : Nat) : mLive (DD em mi ic) 93 2 = [1, 1, 1, 1, 1, 0, 0] := rfl
theorem sg93_3 (em mi ic : Nat) : mSeg (DD em mi ic) 93 3 = g93_3 := rfl
theorem lv93_3 (em mi ic : Nat) : mLive (DD em mi ic) 93 3 = [1, 1, 1, 1, 1, 1, 0] := rfl
theorem sg93_4 (em mi ic : Nat) : mSeg (DD em mi ic) 93 4 = g93_4 := rfl
theorem lv93_4 (em mi ic : Nat) : mLive (DD em mi ic) 93 4 = [1, 1, 1, 1, 1, 1, 1] := rfl
theorem sg93_5 (em mi ic : Nat) : mSeg (DD em mi ic) 93 5 = g93_5 := rfl
theorem lv93_5 (em mi ic : Nat) : mLive (DD em mi ic) 93 5 = [1, 1, 1, 1, 1, 1, 1] := rfl
theorem sg93_6 (em mi ic : Nat) : mSeg (DD em mi ic) 93 6 = g93_6 := rfl
theorem lv93_6 (em mi ic : Nat) : mLive (DD em mi ic) 93 6 = [1, 1, 1, 1, 1, 1, 0] := rfl
theorem sg93_7 (em mi ic : Nat) : mSeg (DD em mi ic) 93 7 = g93_7 := rfl
theorem lv93_7 (em mi ic : Nat) : mLive (DD em mi ic) 93 7 = [1, 1, 1, 1, 1, 0, 0] := rfl
theorem sg93_8 (em mi ic : Nat) : mSeg (DD em mi ic) 93 8 = g93_8 := rfl
theorem lv93_8 (em mi ic : Nat) : mLive (DD em mi ic) 93 8 = [1, 1, 1, 1, 0, 0, 0] := rfl
theorem sg93_9 (em mi ic : Nat) : mSeg (DD em mi ic) 93 9 = g93_9 := rfl
theorem lv93_9 (em mi ic : Nat) : mLive (DD em mi ic) 93 9 = [0, 1, 0, 0, 0, 0, 0] := rfl
theorem bc_93 (em mi ic : Nat) : mBc (DD em mi ic) 93 = 0 := rfl
theorem bs_93 (em mi ic : Nat) : mBs (DD em mi ic) 93 = 0 := rfl
theorem rt_93 (em mi ic : Nat) : mRet (DD em mi ic) 93 = some .int := rfl
theorem ml_93 (em mi ic : Nat) : mMaxL (DD em mi ic) 93 = 7 := rfl
theorem sg94_0 (em mi ic : Nat) : mSeg (DD em mi ic) 94 0 = g94_0 := rfl
theorem lv94_0 (em mi ic : Nat) : mLive (DD em mi ic) 94 0 = [1, 1, 1, 0] := rfl
theorem sg94_1 (em mi ic : Nat) : mSeg (DD em mi ic) 94 1 = g94_1 := rfl
theorem lv94_1 (em mi ic : Nat) : mLive (DD em mi ic) 94 1 = [0, 0, 0, 0] := rfl
theorem sg94_2 (em mi ic : Nat) : mSeg (DD em mi ic) 94 2 = g94_2 := rfl
theorem lv94_2 (em mi ic : Nat) : mLive (DD em mi ic) 94 2 = [1, 1, 1, 0] := rfl
theorem sg94_3 (em mi ic : Nat) : mSeg (DD em mi ic) 94 3 = g94_3 := rfl
theorem lv94_3 (em mi ic : Nat) : mLive (DD em mi ic) 94 3 = [0, 0, 0, 1] := rfl
theorem sg94_4 (em mi ic : Nat) : mSeg (DD em mi ic) 94 4 = g94_4 := rfl
theorem lv94_4 (em mi ic : Nat) : mLive (DD em mi ic) 94 4 = [0, 0, 0, 1] := rfl
theorem sg94_5 (em mi ic : Nat) : mSeg (DD em mi ic) 94 5 = g94_5 := rfl
theorem lv94_5 (em mi ic : Nat) : mLive (DD em mi ic) 94 5 = [1, 0, 0, 1] := rfl
theorem sg94_6 (em mi ic : Nat) : mSeg (DD em mi ic) 94 6 = g94_6 := rfl
theorem lv94_6 (em mi ic : Nat) : mLive (DD em mi ic) 94 6 = [1, 0, 0, 1] := rfl
theorem sg94_7 (em mi ic : Nat) : mSeg (DD em mi ic) 94 7 = g94_7 := rfl
theorem lv94_7 (em mi ic : Nat) : mLive (DD em mi ic) 94 7 = [1, 0, 0, 1] := rfl
theorem sg94_8 (em mi ic : Nat) : mSeg (DD em mi ic) 94 8 = g94_8 := rfl
theorem lv94_8 (em mi ic : Nat) : mLive (DD em mi ic) 94 8 = [0, 0, 0, 0] := rfl
theorem bc_94 (em mi ic : Nat) : mBc (DD em mi ic) 94 = 1 := rfl
theorem bs_94 (em mi ic : Nat) : mBs (DD em mi ic) 94 = 6 := rfl
theorem rt_94 (em mi ic : Nat) : mRet (DD em mi ic) 94 = some .int := rfl
theorem ml_94 (em mi ic : Nat) : mMaxL (DD em mi ic) 94 = 4 := rfl
theorem sg95_0 (em mi ic : Nat) : mSeg (DD em mi ic) 95 0 = g95_0 := rfl
theorem lv95_0 (em mi ic : Nat) : mLive (DD em mi ic) 95 0 = [1, 1, 1] := rfl
theorem sg95_1 (em mi ic : Nat) : mSeg (DD em mi ic) 95 1 = g95_1 := rfl
theorem lv95_1 (em mi ic : Nat) : mLive (DD em mi ic) 95 1 = [1, 1, 0] := rfl
theorem sg95_2 (em mi ic : Nat) : mSeg (DD em mi ic) 95 2 = g95_2 := rfl
theorem lv95_2 (em mi ic : Nat) : mLive (DD em mi ic) 95 2 = [1, 1, 0] := rfl
theorem sg95_3 (em mi ic : Nat) : mSeg (DD em mi ic) 95 3 = g95_3 := rfl
theorem lv95_3 (em mi ic : Nat) : mLive (DD em mi ic) 95 3 = [1, 1, 0] := rfl
theorem sg95_4 (em mi ic : Nat) : mSeg (DD em mi ic) 95 4 = g95_4 := rfl
theorem lv95_4 (em mi ic : Nat) : mLive (DD em mi ic) 95 4 = [0, 0, 0] := rfl
theorem sg95_5 (em mi ic : Nat) : mSeg (DD em mi ic) 95 5 = g95_5 := rfl
theorem lv95_5 (em mi ic : Nat) : mLive (DD em mi ic) 95 5 = [0, 0, 0] := rfl
theorem sg95_6 (em mi ic : Nat) : mSeg (DD em mi ic) 95 6 = g95_6 := rfl
theorem lv95_6 (em mi ic : Nat) : mLive (DD em mi ic) 95 6 = [1, 1, 0] := rfl
theorem sg95_7 (em mi ic : Nat) : mSeg (DD em mi ic) 95 7 = g95_7 := rfl
theorem lv95_7 (em mi ic : Nat) : mLive (DD em mi ic) 95 7 = [1, 1, 0] := rfl
theorem bc_95 (em mi ic : Nat) : mBc (DD em mi ic) 95 = 1 := rfl
theorem bs_95 (em mi ic : Nat) : mBs (DD em mi ic) 95 = 4 := rfl
theorem rt_95 (em mi ic : Nat) : mRet (DD em mi ic) 95 = some .int := rfl
theorem ml_95 (em mi ic : Nat) : mMaxL (DD em mi ic) 95 = 3 := rfl
theorem sg96_0 (em mi ic : Nat) : mSeg (DD em mi ic) 96 0 = g96_0 := rfl
theorem lv96_0 (em mi ic : Nat) : mLive (DD em mi ic) 96 0 = [1, 1, 1, 0, 0] := rfl
theorem sg96_1 (em mi ic : Nat) : mSeg (DD em mi ic) 96 1 = g96_1 := rfl
theorem lv96_1 (em mi ic : Nat) : mLive (DD em mi ic) 96 1 = [0, 0, 0, 0, 0] := rfl
theorem sg96_2 (em mi ic : Nat) : mSeg (DD em mi ic) 96 2 = g96_2 := rfl
theorem lv96_2 (em mi ic : Nat) : mLive (DD em mi ic) 96 2 = [1, 1, 1, 0, 0] := rfl
theorem sg96_3 (em mi ic : Nat) : mSeg (DD em mi ic) 96 3 = g96_3 := rfl
theorem lv96_3 (em mi ic : Nat) : mLive (DD em mi ic) 96 3 = [0, 0, 0, 1, 0] := rfl
theorem sg96_4 (em mi ic : Nat) : mSeg (DD em mi ic) 96 4 = g96_4 := rfl
theorem lv96_4 (em mi ic : Nat) : mLive (DD em mi ic) 96 4 = [0, 0, 0, 1, 0] := rfl
theorem sg96_5 (em mi ic : Nat) : mSeg (DD em mi ic) 96 5 = g96_5 := rfl
theorem lv96_5 (em mi ic : Nat) : mLive (DD em mi ic) 96 5 = [0, 0, 0, 1, 0] := rfl
theorem sg96_6 (em mi ic : Nat) : mSeg (DD em mi ic) 96 6 = g96_6 := rfl
theorem lv96_6 (em mi ic : Nat) : mLive (DD em mi ic) 96 6 = [0, 0, 0, 1, 0] := rfl
theorem sg96_7 (em mi ic : Nat) : mSeg (DD em mi ic) 96 7 = g96_7 := rfl
theorem lv96_7 (em mi ic : Nat) : mLive (DD em mi ic) 96 7 = [1, 0, 0, 1, 0] := rfl
theorem sg96_8 (em mi ic : Nat) : mSeg (DD em mi ic) 96 8 = g96_8 := rfl
theorem lv96_8 (em mi ic : Nat) : mLive (DD em mi ic) 96 8 = [0, 0, 0, 0, 1] := rfl
theorem sg96_9 (em mi ic : Nat) : mSeg (DD em mi ic) 96 9 = g96_9 := rfl
theorem lv96_9 (em mi ic : Nat) : mLive (DD em mi ic) 96 9 = [0, 0, 0, 0, 0] := rfl
theorem sg96_10 (em mi ic : Nat) : mSeg (DD em mi ic) 96 10 = g96_10 := rfl
theorem lv96_10 (em mi ic : Nat) : mLive (DD em mi ic) 96 10 = [1, 1, 0, 0, 0] := rfl
theorem sg96_11 (em mi ic : Nat) : mSeg (DD em mi ic) 96 11 = g96_11 := rfl
theorem lv96_11 (em mi ic : Nat) : mLive (DD em mi ic) 96 11 = [0, 0, 0, 0, 0] := rfl
theorem bc_96 (em mi ic : Nat) : mBc (DD em mi ic) 96 = 1 := rfl
theorem bs_96 (em mi ic : Nat) : mBs (DD em mi ic) 96 = 6 := rfl
theorem rt_96 (em mi ic : Nat) : mRet (DD em mi ic) 96 = some .int := rfl
theorem ml_96 (em mi ic : Nat) : mMaxL (DD em mi ic) 96 = 5 := rfl
theorem sg97_0 (em mi ic : Nat) : mSeg (DD em mi ic) 97 0 = g97_0 := rfl
theorem lv97_0 (em mi ic : Nat) : mLive (DD em mi ic) 97 0 = [1, 1, 1, 0] := rfl
theorem sg97_1 (em mi ic : Nat) : mSeg (DD em mi ic) 97 1 = g97_1 := rfl
theorem lv97_1 (em mi ic : Nat) : mLive (DD em mi ic) 97 1 = [0, 0, 0, 1] := rfl
theorem sg97_2 (em mi ic : Nat) : mSeg (DD em mi ic) 97 2 = g97_2 := rfl
theorem lv97_2 (em mi ic : Nat) : mLive (DD em mi ic) 97 2 = [0, 0, 0, 1] := rfl
theorem sg97_3 (em mi ic : Nat) : mSeg (DD em mi ic) 97 3 = g97_3 := rfl
theorem lv97_3 (em mi ic : Nat) : mLive (DD em mi ic) 97 3 = [0, 0, 0, 1] := rfl
theorem sg97_4 (em mi ic : Nat) : mSeg (DD em mi ic) 97 4 = g97_4 := rfl
theorem lv97_4 (em mi ic : Nat) : mLive (DD em mi ic) 97 4 = [0, 0, 0, 0] := rfl
theorem sg97_5 (em mi ic : Nat) : mSeg (DD em mi ic) 97 5 = g97_5 := rfl
theorem lv97_5 (em mi ic : Nat) : mLive (DD em mi ic) 97 5 = [0, 0, 0, 0] := rfl
theorem sg97_6 (em mi ic : Nat) : mSeg (DD em mi ic) 97 6 = g97_6 := rfl
theorem lv97_6 (em mi ic : Nat) : mLive (DD em mi ic) 97 6 = [0, 0, 0, 1] := rfl
theorem sg97_7 (em mi ic : Nat) : mSeg (DD em mi ic) 97 7 = g97_7 := rfl
theorem lv97_7 (em mi ic : Nat) : mLive (DD em mi ic) 97 7 = [1, 1, 0, 0] := rfl
theorem sg97_8 (em mi ic : Nat) : mSeg (DD em mi ic) 97 8 = g97_8 := rfl
theorem lv97_8 (em mi ic : Nat) : mLive (DD em mi ic) 97 8 = [1, 1, 0, 0] := rfl
theorem sg97_9 (em mi ic : Nat) : mSeg (DD em mi ic) 97 9 = g97_9 := rfl
theorem lv97_9 (em mi ic : Nat) : mLive (DD em mi ic) 97 9 = [0, 0, 0, 0] := rfl
theorem sg97_10 (em mi ic : Nat) : mSeg (DD em mi ic) 97 10 = g97_10 := rfl
theorem lv97_10 (em mi ic : Nat) : mLive (DD em mi ic) 97 10 = [0, 0, 0, 0] := rfl
theorem bc_97 (em mi ic : Nat) : mBc (DD em mi ic) 97 = 2 := rfl
theorem bs_97 (em mi ic : Nat) : mBs (DD em mi ic) 97 = 9 := rfl
theorem rt_97 (em mi ic : Nat) : mRet (DD em mi ic) 97 = some .int := rfl
theorem ml_97 (em mi ic : Nat) : mMaxL (DD em mi ic) 97 = 4 := rfl
theorem sg98_0 (em mi ic : Nat) : mSeg (DD em mi ic) 98 0 = g98_0 := rfl
theorem lv98_0 (em mi ic : Nat) : mLive (DD em mi ic) 98 0 = [1, 1, 1, 0] := rfl
theorem sg98_1 (em mi ic : Nat) : mSeg (DD em mi ic) 98 1 = g98_1 := rfl
theorem lv98_1 (em mi ic : Nat) : mLive (DD em mi ic) 98 1 = [0, 0, 0, 0] := rfl
theorem sg98_2 (em mi ic : Nat) : mSeg (DD em mi ic) 98 2 = g98_2 := rfl
theorem lv98_2 (em mi ic : Nat) : mLive (DD em mi ic) 98 2 = [1, 1, 1, 0] := rfl
theorem sg98_3 (em mi ic : Nat) : mSeg (DD em mi ic) 98 3 = g98_3 := rfl
theorem lv98_3 (em mi ic : Nat) : mLive (DD em mi ic) 98 3 = [0, 0, 0, 1] := rfl
theorem sg98_4 (em mi ic : Nat) : mSeg (DD em mi ic) 98 4 = g98_4 := rfl
theorem lv98_4 (em mi ic : Nat) : mLive (DD em mi ic) 98 4 = [0, 0, 0, 1] := rfl
theorem sg98_5 (em mi ic : Nat) : mSeg (DD em mi ic) 98 5 = g98_5 := rfl
theorem lv98_5 (em mi ic : Nat) : mLive (DD em mi ic) 98 5 = [1, 0, 0, 1] := rfl
theorem sg98_6 (em mi ic : Nat) : mSeg (DD em mi ic) 98 6 = g98_6 := rfl
theorem lv98_6 (em mi ic : Nat) : mLive (DD em mi ic) 98 6 = [1, 0, 0, 1] := rfl
theorem sg98_7 (em mi ic : Nat) : mSeg (DD em mi ic) 98 7 = g98_7 := rfl
theorem lv98_7 (em mi ic : Nat) : mLive (DD em mi ic) 98 7 = [0, 0, 0, 0] := rfl
theorem bc_98 (em mi ic : Nat) : mBc (DD em mi ic) 98 = 1 := rfl
theorem bs_98 (em mi ic : Nat) : mBs (DD em mi ic) 98 = 6 := rfl
theorem rt_98 (em mi ic : Nat) : mRet (DD em mi ic) 98 = some .int := rfl
theorem ml_98 (em mi ic : Nat) : mMaxL (DD em mi ic) 98 = 4 := rfl
theorem sg99_0 (em mi ic : Nat) : mSeg (DD em mi ic) 99 0 = g99_0 := rfl
theorem lv99_0 (em mi ic : Nat) : mLive (DD em mi ic) 99 0 = [1, 1, 1] := rfl
theorem sg99_1 (em mi ic : Nat) : mSeg (DD em mi ic) 99 1 = g99_1 := rfl
theorem lv99_1 (em mi ic : Nat) : mLive (DD em mi ic) 99 1 = [1, 1, 0] := rfl
theorem sg99_2 (em mi ic : Nat) : mSeg (DD em mi ic) 99 2 = g99_2 := rfl
theorem lv99_2 (em mi ic : Nat) : mLive (DD em mi ic) 99 2 = [1, 1, 0] := rfl
theorem sg99_3 (em mi ic : Nat) : mSeg (DD em mi ic) 99 3 = g99_3 := rfl
theorem lv99_3 (em mi ic : Nat) : mLive (DD em mi ic) 99 3 = [1, 1, 0] := rfl
theorem sg99_4 (em mi ic : Nat) : mSeg (DD em mi ic) 99 4 = g99_4 := rfl
theorem lv99_4 (em mi ic : Nat) : mLive (DD em mi ic) 99 4 = [1, 1, 0] := rfl
theorem bc_99 (em mi ic : Nat) : mBc (DD em mi ic) 99 = 2 := rfl
theorem bs_99 (em mi ic : Nat) : mBs (DD em mi ic) 99 = 9 := rfl
theorem rt_99 (em mi ic : Nat) : mRet (DD em mi ic) 99 = some .int := rfl
theorem ml_99 (em mi ic : Nat) : mMaxL (DD em mi ic) 99 = 3 := rfl
theorem sg100_0 (em mi ic : Nat) : mSeg (DD em mi ic) 100 0 = g100_0 := rfl
theorem lv100_0 (em mi ic : Nat) : mLive (DD em mi ic) 100 0 = [1, 1, 1, 0] := rfl
theorem sg100_1 (em mi ic : Nat) : mSeg (DD em mi ic) 100 1 = g100_1 := rfl
theorem lv100_1 (em mi ic : Nat) : mLive (DD em mi ic) 100 1 = [0, 0, 0, 0] := rfl
theorem sg100_2 (em mi ic : Nat) : mSeg (DD em mi ic) 100 2 = g100_2 := rfl
theorem lv100_2 (em mi ic : Nat) : mLive (DD em mi ic) 100 2 = [1, 1, 1, 0] := rfl
theorem sg100_3 (em mi ic : Nat) : mSeg (DD em mi ic) 100 3 = g100_3 := rfl
theorem lv100_3 (em mi ic : Nat) : mLive (DD em mi ic) 100 3 = [0, 0, 0, 1] := rfl
theorem sg100_4 (em mi ic : Nat) : mSeg (DD em mi ic) 100 4 = g100_4 := rfl
theorem lv100_4 (em mi ic : Nat) : mLive (DD em mi ic) 100 4 = [0, 0, 0, 1] := rfl
theorem sg100_5 (em mi ic : Nat) : mSeg (DD em mi ic) 100 5 = g100_5 := rfl
theorem lv100_5 (em mi ic : Nat) : mLive (DD em mi ic) 100 5 = [0, 0, 0, 0] := rfl
theorem bc_100 (em mi ic : Nat) : mBc (DD em mi ic) 100 = 1 := rfl
theorem bs_100 (em mi ic : Nat) : mBs (DD em mi ic) 100 = 6 := rfl
theorem rt_100 (em mi ic : Nat) : mRet (DD em mi ic) 100 = some .int := rfl
theorem ml_100 (em mi ic : Nat) : mMaxL (DD em mi ic) 100 = 4 := rfl
theorem sg101_0 (em mi ic : Nat) : mSeg (DD em mi ic) 101 0 = g101_0 := rfl
theorem lv101_0 (em mi ic : Nat) : mLive (DD em mi ic) 101 0 = [1, 1] := rfl
theorem sg101_1 (em mi ic : Nat) : mSeg (DD em mi ic) 101 1 = g101_1 := rfl
theorem lv101_1 (em mi ic : Nat) : mLive (DD em mi ic) 101 1 = [1, 0] := rfl
theorem sg101_2 (em mi ic : Nat) : mSeg (DD em mi ic) 101 2 = g101_2 := rfl
theorem lv101_2 (em mi ic : Nat) : mLive (DD em mi ic) 101 2 = [1, 0] := rfl
theorem sg101_3 (em mi ic : Nat) : mSeg (DD em mi ic) 101 3 = g101_3 := rfl
theorem lv101_3 (em mi ic : Nat) : mLive (DD em mi ic) 101 3 = [1, 0] := rfl
theorem sg101_4 (em mi ic : Nat) : mSeg (DD em mi ic) 101 4 = g101_4 := rfl
theorem lv101_4 (em mi ic : Nat) : mLive (DD em mi ic) 101 4 = [1, 0] := rfl
theorem sg101_5 (em mi ic : Nat) : mSeg (DD em mi ic) 101 5 = g101_5 := rfl
theorem lv101_5 (em mi ic : Nat) : mLive (DD em mi ic) 101 5 = [1, 0] := rfl
theorem sg101_6 (em mi ic : Nat) : mSeg (DD em mi ic) 101 6 = g101_6 := rfl
theorem lv101_6 (em mi ic : Nat) : mLive (DD em mi ic) 101 6 = [1, 0] := rfl
theorem sg101_7 (em mi ic : Nat) : mSeg (DD em mi ic) 101 7 = g101_7 := rfl
theorem lv101_7 (em mi ic : Nat) : mLive (DD em mi ic) 101 7 = [1, 0] := rfl
theorem sg101_8 (em mi ic : Nat) : mSeg (DD em mi ic) 101 8 = g101_8 := rfl
theorem lv101_8 (em mi ic : Nat) : mLive (DD em mi ic) 101 8 = [1, 0] := rfl
theorem sg101_9 (em mi ic : Nat) : mSeg (DD em mi ic) 101 9 = g101_9 := rfl
theorem lv101_9 (em mi ic : Nat) : mLive (DD em mi ic) 101 9 = [1, 0] := rfl
theorem sg101_10 (em mi ic : Nat) : mSeg (DD em mi ic) 101 10 = g101_10 := rfl
theorem lv101_10 (em mi ic : Nat) : mLive (DD em mi ic) 101 10 = [1, 0] := rfl
theorem sg101_11 (em mi ic : Nat) : mSeg (DD em mi ic) 101 11 = g101_11 := rfl
theorem lv101_11 (em mi ic : Nat) : mLive (DD em mi ic) 101 11 = [1, 0] := rfl
theorem sg101_12 (em mi ic : Nat) : mSeg (DD em mi ic) 101 12 = g101_12 := rfl
theorem lv101_12 (em mi ic : Nat) : mLive (DD em mi ic) 101 12 = [1, 0] := rfl
theorem sg101_13 (em mi ic : Nat) : mSeg (DD em mi ic) 101 13 = g101_13 := rfl
theorem lv101_13 (em mi ic : Nat) : mLive (DD em mi ic) 101 13 = [1, 0] := rfl
theorem sg101_14 (em mi ic : Nat) : mSeg (DD em mi ic) 101 14 = g101_14 := rfl
theorem lv101_14 (em mi ic : Nat) : mLive (DD em mi ic) 101 14 = [1, 0] := rfl
theorem sg101_15 (em mi ic : Nat) : mSeg (DD em mi ic) 101 15 = g101_15 := rfl
theorem lv101_15 (em mi ic : Nat) : mLive (DD em mi ic) 101 15 = [1, 0] := rfl
theorem sg101_16 (em mi ic : Nat) : mSeg (DD em mi ic) 101 16 = g101_16 := rfl
theorem lv101_16 (em mi ic : Nat) : mLive (DD em mi ic) 101 16 = [1, 0] := rfl
theorem sg101_17 (em mi ic : Nat) : mSeg (DD em mi ic) 101 17 = g101_17 := rfl
theorem lv101_17 (em mi ic : Nat) : mLive (DD em mi ic) 101 17 = [1, 0] := rfl
theorem sg101_18 (em mi ic : Nat) : mSeg (DD em mi ic) 101 18 = g101_18 := rfl
theorem lv101_18 (em mi ic : Nat) : mLive (DD em mi ic) 101 18 = [1, 0] := rfl
theorem sg101_19 (em mi ic : Nat) : mSeg (DD em mi ic) 101 19 = g101_19 := rfl
theorem lv101_19 (em mi ic : Nat) : mLive (DD em mi ic) 101 19 = [1, 0] := rfl
theorem sg101_20 (em mi ic : Nat) : mSeg (DD em mi ic) 101 20 = g101_20 := rfl
theorem lv101_20 (em mi ic : Nat) : mLive (DD em mi ic) 101 20 = [0, 0] := rfl
theorem bc_101 (em mi ic : Nat) : mBc (DD em mi ic) 101 = 1 := rfl
theorem bs_101 (em mi ic : Nat) : mBs (DD em mi ic) 101 = 6 := rfl
theorem rt_101 (em mi ic : Nat) : mRet (DD em mi ic) 101 = some .int := rfl
theorem ml_101 (em mi ic : Nat) : mMaxL (DD em mi ic) 101 = 2 := rfl
theorem sg102_0 (em mi ic : Nat) : mSeg (DD em mi ic) 102 0 = g102_0 := rfl
theorem lv102_0 (em mi ic : Nat) : mLive (DD em mi ic) 102 0 = [1, 1] := rfl
theorem sg102_1 (em mi ic : Nat) : mSeg (DD em mi ic) 102 1 = g102_1 := rfl
theorem lv102_1 (em mi ic : Nat) : mLive (DD em mi ic) 102 1 = [1, 0] := rfl
theorem sg102_2 (em mi ic : Nat) : mSeg (DD em mi ic) 102 2 = g102_2 := rfl
theorem lv102_2 (em mi ic : Nat) : mLive (DD em mi ic) 102 2 = [1, 0] := rfl
theorem sg102_3 (em mi ic : Nat) : mSeg (DD em mi ic) 102 3 = g102_3 := rfl
theorem lv102_3 (em mi ic : Nat) : mLive (DD em mi ic) 102 3 = [1, 0] := rfl
theorem sg102_4 (em mi ic : Nat) : mSeg (DD em mi ic) 102 4 = g102_4 := rfl
theorem lv102_4 (em mi ic : Nat) : mLive (DD em mi ic) 102 4 = [1, 1] := rfl
theorem sg102_5 (em mi ic : Nat) : mSeg (DD em mi ic) 102 5 = g102_5 := rfl
theorem lv102_5 (em mi ic : Nat) : mLive (DD em mi ic) 102 5 = [1, 0] := rfl
theorem sg102_6 (em mi ic : Nat) : mSeg (DD em mi ic) 102 6 = g102_6 := rfl
theorem lv102_6 (em mi ic : Nat) : mLive (DD em mi ic) 102 6 = [1, 0] := rfl
theorem sg102_7 (em mi ic : Nat) : mSeg (DD em mi ic) 102 7 = g102_7 := rfl
theorem lv102_7 (em mi ic : Nat) : mLive (DD em mi ic) 102 7 = [1, 0] := rfl
theorem sg102_8 (em mi ic : Nat) : mSeg (DD em mi ic) 102 8 = g102_8 := rfl
theorem lv102_8 (em mi ic : Nat) : mLive (DD em mi ic) 102 8 = [1, 0] := rfl
theorem sg102_9 (em mi ic : Nat) : mSeg (DD em mi ic) 102 9 = g102_9 := rfl
theorem lv102_9 (em mi ic : Nat) : mLive (DD em mi ic) 102 9 = [1, 0] := rfl
theorem sg102_10 (em mi ic : Nat) : mSeg (DD em mi ic) 102 10 = g102_10 := rfl
theorem lv102_10 (em mi ic : Nat) : mLive (DD em mi ic) 102 10 = [1, 0] := rfl
theorem sg102_11 (em mi ic : Nat) : mSeg (DD em mi ic) 102 11 = g102_11 := rfl
theorem lv102_11 (em mi ic : Nat) : mLive (DD em mi ic) 102 11 = [1, 0] := rfl
theorem sg102_12 (em mi ic : Nat) : mSeg (DD em mi ic) 102 12 = g102_12 := rfl
theorem lv102_12 (em mi ic : Nat) : mLive (DD em mi ic) 102 12 = [1, 0] := rfl
theorem sg102_13 (em mi ic : Nat) : mSeg (DD em mi ic) 102 13 = g102_13 := rfl
theorem lv102_13 (em mi ic : Nat) : mLive (DD em mi ic) 102 13 = [1, 0] := rfl
theorem sg102_14 (em mi ic : Nat) : mSeg (DD em mi ic) 102 14 = g102_14 := rfl
theorem lv102_14 (em mi ic : Nat) : mLive (DD em mi ic) 102 14 = [1, 0] := rfl
theorem sg102_15 (em mi ic : Nat) : mSeg (DD em mi ic) 102 15 = g102_15 := rfl
theorem lv102_15 (em mi ic : Nat) : mLive (DD em mi ic) 102 15 = [1, 0] := rfl
theorem sg102_16 (em mi ic : Nat) : mSeg (DD em mi ic) 102 16 = g102_16 := rfl
theorem lv102_16 (em mi ic : Nat) : mLive (DD em mi ic) 102 16 = [1, 0] := rfl
theorem sg102_17 (em mi ic : Nat) : mSeg (DD em mi ic) 102 17 = g102_17 := rfl
theorem lv102_17 (em mi ic : Nat) : mLive (DD em mi ic) 102 17 = [1, 0] := rfl
theorem bc_102 (em mi ic : Nat) : mBc (DD em mi ic) 102 = 2 := rfl
theorem bs_102 (em mi ic : Nat) : mBs (DD em mi ic) 102 = 9 := rfl
theorem rt_102 (em mi ic : Nat) : mRet (DD em mi ic) 102 = some .int := rfl
theorem ml_102 (em mi ic : Nat) : mMaxL (DD em mi ic) 102 = 2 := rfl
theorem sg103_0 (em mi ic : Nat) : mSeg (DD em mi ic) 103 0 = g103_0 := rfl
theorem lv103_0 (em mi ic : Nat) : mLive (DD em mi ic) 103 0 = [1] := rfl
theorem bc_103 (em mi ic : Nat) : mBc (DD em mi ic) 103 = 1 := rfl
theorem bs_103 (em mi ic : Nat) : mBs (DD em mi ic) 103 = 16 := rfl
theorem rt_103 (em mi ic : Nat) : mRet (DD em mi ic) 103 = none := rfl
theorem ml_103 (em mi ic : Nat) : mMaxL (DD em mi ic) 103 = 1 := rfl
theorem sg104_0 (em mi ic : Nat) : mSeg (DD em mi ic) 104 0 = g104_0 := rfl
theorem lv104_0 (em mi ic : Nat) : mLive (DD em mi ic) 104 0 = [1, 1, 0] := rfl
theorem sg104_1 (em mi ic : Nat) : mSeg (DD em mi ic) 104 1 = g104_1 := rfl
theorem lv104_1 (em mi ic : Nat) : mLive (DD em mi ic) 104 1 = [1, 1, 0] := rfl
theorem sg104_2 (em mi ic : Nat) : mSeg (DD em mi ic) 104 2 = g104_2 := rfl
theorem lv104_2 (em mi ic : Nat) : mLive (DD em mi ic) 104 2 = [1, 1, 0] := rfl
theorem sg104_3 (em mi ic : Nat) : mSeg (DD em mi ic) 104 3 = g104_3 := rfl
theorem lv104_3 (em mi ic : Nat) : mLive (DD em mi ic) 104 3 = [0, 0, 1] := rfl
theorem sg104_4 (em mi ic : Nat) : mSeg (DD em mi ic) 104 4 = g104_4 := rfl
theorem lv104_4 (em mi ic : Nat) : mLive (DD em mi ic) 104 4 = [0, 0, 0] := rfl
theorem bc_104 (em mi ic : Nat) : mBc (DD em mi ic) 104 = 0 := rfl
theorem bs_104 (em mi ic : Nat) : mBs (DD em mi ic) 104 = 0 := rfl
theorem rt_104 (em mi ic : Nat) : mRet (DD em mi ic) 104 = some .char := rfl
theorem ml_104 (em mi ic : Nat) : mMaxL (DD em mi ic) 104 = 3 := rfl
theorem sg105_0 (em mi ic : Nat) : mSeg (DD em mi ic) 105 0 = g105_0 := rfl
theorem lv105_0 (em mi ic : Nat) : mLive (DD em mi ic) 105 0 = [1, 1] := rfl
theorem bc_105 (em mi ic : Nat) : mBc (DD em mi ic) 105 = 0 := rfl
theorem bs_105 (em mi ic : Nat) : mBs (DD em mi ic) 105 = 0 := rfl
theorem rt_105 (em mi ic : Nat) : mRet (DD em mi ic) 105 = some (.object "java/lang/StringBuilder") := rfl
theorem ml_105 (em mi ic : Nat) : mMaxL (DD em mi ic) 105 = 2 := rfl
theorem sg106_0 (em mi ic : Nat) : mSeg (DD em mi ic) 106 0 = g106_0 := rfl
theorem lv106_0 (em mi ic : Nat) : mLive (DD em mi ic) 106 0 = [1] := rfl
theorem bc_106 (em mi ic : Nat) : mBc (DD em mi ic) 106 = 2 := rfl
theorem bs_106 (em mi ic : Nat) : mBs (DD em mi ic) 106 = 20 := rfl
theorem rt_106 (em mi ic : Nat) : mRet (DD em mi ic) 106 = some (.object "java/lang/String") := rfl
theorem ml_106 (em mi ic : Nat) : mMaxL (DD em mi ic) 106 = 1 := rfl
theorem sg107_0 (em mi ic : Nat) : mSeg (DD em mi ic) 107 0 = g107_0 := rfl
theorem lv107_0 (em mi ic : Nat) : mLive (DD em mi ic) 107 0 = [1, 0, 0, 0, 0] := rfl
theorem sg107_1 (em mi ic : Nat) : mSeg (DD em mi ic) 107 1 = g107_1 := rfl
theorem lv107_1 (em mi ic : Nat) : mLive (DD em mi ic) 107 1 = [1, 1, 1, 1, 0] := rfl
theorem sg107_2 (em mi ic : Nat) : mSeg (DD em mi ic) 107 2 = g107_2 := rfl
theorem lv107_2 (em mi ic : Nat) : mLive (DD em mi ic) 107 2 = [1, 1, 1, 1, 1] := rfl
theorem sg107_3 (em mi ic : Nat) : mSeg (DD em mi ic) 107 3 = g107_3 := rfl
theorem lv107_3 (em mi ic : Nat) : mLive (DD em mi ic) 107 3 = [1, 1, 1, 1, 0] := rfl
theorem sg107_4 (em mi ic : Nat) : mSeg (DD em mi ic) 107 4 = g107_4 := rfl
theorem lv107_4 (em mi ic : Nat) : mLive (DD em mi ic) 107 4 = [1, 1, 1, 1, 0] := rfl
theorem sg107_5 (em mi ic : Nat) : mSeg (DD em mi ic) 107 5 = g107_5 := rfl
theorem lv107_5 (em mi ic : Nat) : mLive (DD em mi ic) 107 5 = [1, 1, 1, 1, 0] := rfl
theorem sg107_6 (em mi ic : Nat) : mSeg (DD em mi ic) 107 6 = g107_6 := rfl
theorem lv107_6 (em mi ic : Nat) : mLive (DD em mi ic) 107 6 = [0, 1, 0, 0, 0] := rfl
theorem bc_107 (em mi ic : Nat) : mBc (DD em mi ic) 107 = 6 := rfl
theorem bs_107 (em mi ic : Nat) : mBs (DD em mi ic) 107 = 49 := rfl
theorem rt_107 (em mi ic : Nat) : mRet (DD em mi ic) 107 = some (.object "java/lang/String") := rfl
theorem ml_107 (em mi ic : Nat) : mMaxL (DD em mi ic) 107 = 5 := rfl
theorem sg108_0 (em mi ic : Nat) : mSeg (DD em mi ic) 108 0 = g108_0 := rfl
theorem lv108_0 (em mi ic : Nat) : mLive (DD em mi ic) 108 0 = [1, 1] := rfl
theorem sg108_1 (em mi ic : Nat) : mSeg (DD em mi ic) 108 1 = g108_1 := rfl
theorem lv108_1 (em mi ic : Nat) : mLive (DD em mi ic) 108 1 = [0, 0] := rfl
theorem sg108_2 (em mi ic : Nat) : mSeg (DD em mi ic) 108 2 = g108_2 := rfl
theorem lv108_2 (em mi ic : Nat) : mLive (DD em mi ic) 108 2 = [1, 1] := rfl
theorem bc_108 (em mi ic : Nat) : mBc (DD em mi ic) 108 = 1 := rfl
theorem bs_108 (em mi ic : Nat) : mBs (DD em mi ic) 108 = 6 := rfl
theorem rt_108 (em mi ic : Nat) : mRet (DD em mi ic) 108 = some .boolean := rfl
theorem ml_108 (em mi ic : Nat) : mMaxL (DD em mi ic) 108 = 2 := rfl
theorem sg109_0 (em mi ic : Nat) : mSeg (DD em mi ic) 109 0 = g109_0 := rfl
theorem lv109_0 (em mi ic : Nat) : mLive (DD em mi ic) 109 0 = [1, 1, 0, 0, 0, 0] := rfl
theorem sg109_1 (em mi ic : Nat) : mSeg (DD em mi ic) 109 1 = g109_1 := rfl
theorem lv109_1 (em mi ic : Nat) : mLive (DD em mi ic) 109 1 = [1, 1, 1, 0, 0, 0] := rfl
theorem sg109_2 (em mi ic : Nat) : mSeg (DD em mi ic) 109 2 = g109_2 := rfl
theorem lv109_2 (em mi ic : Nat) : mLive (DD em mi ic) 109 2 = [1, 1, 1, 0, 0, 0] := rfl
theorem sg109_3 (em mi ic : Nat) : mSeg (DD em mi ic) 109 3 = g109_3 := rfl
theorem lv109_3 (em mi ic : Nat) : mLive (DD em mi ic) 109 3 = [0, 0, 0, 0, 0, 0] := rfl
theorem sg109_4 (em mi ic : Nat) : mSeg (DD em mi ic) 109 4 = g109_4 := rfl
theorem lv109_4 (em mi ic : Nat) : mLive (DD em mi ic) 109 4 = [1, 1, 1, 1, 0, 0] := rfl
theorem sg109_5 (em mi ic : Nat) : mSeg (DD em mi ic) 109 5 = g109_5 := rfl
theorem lv109_5 (em mi ic : Nat) : mLive (DD em mi ic) 109 5 = [1, 1, 1, 1, 1, 1] := rfl
theorem sg109_6 (em mi ic : Nat) : mSeg (DD em mi ic) 109 6 = g109_6 := rfl
theorem lv109_6 (em mi ic : Nat) : mLive (DD em mi ic) 109 6 = [1, 1, 1, 1, 0, 1] := rfl
theorem sg109_7 (em mi ic : Nat) : mSeg (DD em mi ic) 109 7 = g109_7 := rfl
theorem lv109_7 (em mi ic : Nat) : mLive (DD em mi ic) 109 7 = [1, 1, 1, 1, 0, 1] := rfl
theorem sg109_8 (em mi ic : Nat) : mSeg (DD em mi ic) 109 8 = g109_8 := rfl
theorem lv109_8 (em mi ic : Nat) : mLive (DD em mi ic) 109 8 = [1, 1, 1, 1, 1, 0] := rfl
theorem sg109_9 (em mi ic : Nat) : mSeg (DD em mi ic) 109 9 = g109_9 := rfl
theorem lv109_9 (em mi ic : Nat) : mLive (DD em mi ic) 109 9 = [1, 1, 1, 0, 0, 0] := rfl
theorem sg109_10 (em mi ic : Nat) : mSeg (DD em mi ic) 109 10 = g109_10 := rfl
theorem lv109_10 (em mi ic : Nat) : mLive (DD em mi ic) 109 10 = [0, 0, 0, 0, 0, 0] := rfl
theorem bc_109 (em mi ic : Nat) : mBc (DD em mi ic) 109 = 0 := rfl
theorem bs_109 (em mi ic : Nat) : mBs (DD em mi ic) 109 = 0 := rfl
theorem rt_109 (em mi ic : Nat) : mRet (DD em mi ic) 109 = some .boolean := rfl
theorem ml_109 (em mi ic : Nat) : mMaxL (DD em mi ic) 109 = 6 := rfl
theorem sg110_0 (em mi ic : Nat) : mSeg (DD em mi ic) 110 0 = g110_0 := rfl
theorem lv110_0 (em mi ic : Nat) : mLive (DD em mi ic) 110 0 = [1, 0, 0, 0, 0] := rfl
theorem sg110_1 (em mi ic : Nat) : mSeg (DD em mi ic) 110 1 = g110_1 := rfl
theorem lv110_1 (em mi ic : Nat) : mLive (DD em mi ic) 110 1 = [1, 1, 1, 0, 0] := rfl
theorem sg110_2 (em mi ic : Nat) : mSeg (DD em mi ic) 110 2 = g110_2 := rfl
theorem lv110_2 (em mi ic : Nat) : mLive (DD em mi ic) 110 2 = [1, 1, 1, 1, 0] := rfl
theorem sg110_3 (em mi ic : Nat) : mSeg (DD em mi ic) 110 3 = g110_3 := rfl
theorem lv110_3 (em mi ic : Nat) : mLive (DD em mi ic) 110 3 = [1, 1, 1, 1, 0] := rfl
theorem sg110_4 (em mi ic : Nat) : mSeg (DD em mi ic) 110 4 = g110_4 := rfl
theorem lv110_4 (em mi ic : Nat) : mLive (DD em mi ic) 110 4 = [1, 1, 1, 0, 0] := rfl
theorem sg110_5 (em mi ic : Nat) : mSeg (DD em mi ic) 110 5 = g110_5 := rfl
theorem lv110_5 (em mi ic : Nat) : mLive (DD em mi ic) 110 5 = [0, 1, 0, 0, 0] := rfl
theorem bc_110 (em mi ic : Nat) : mBc (DD em mi ic) 110 = 0 := rfl
theorem bs_110 (em mi ic : Nat) : mBs (DD em mi ic) 110 = 0 := rfl
theorem rt_110 (em mi ic : Nat) : mRet (DD em mi ic) 110 = some .int := rfl
theorem ml_110 (em mi ic : Nat) : mMaxL (DD em mi ic) 110 = 5 := rfl
theorem sg111_0 (em mi ic : Nat) : mSeg (DD em mi ic) 111 0 = g111_0 := rfl
theorem lv111_0 (em mi ic : Nat) : mLive (DD em mi ic) 111 0 = [1, 1, 0, 0] := rfl
theorem sg111_1 (em mi ic : Nat) : mSeg (DD em mi ic) 111 1 = g111_1 := rfl
theorem lv111_1 (em mi ic : Nat) : mLive (DD em mi ic) 111 1 = [1, 1, 1, 1] := rfl
theorem sg111_2 (em mi ic : Nat) : mSeg (DD em mi ic) 111 2 = g111_2 := rfl
theorem lv111_2 (em mi ic : Nat) : mLive (DD em mi ic) 111 2 = [1, 1, 1, 1] := rfl
theorem sg111_3 (em mi ic : Nat) : mSeg (DD em mi ic) 111 3 = g111_3 := rfl
theorem lv111_3 (em mi ic : Nat) : mLive (DD em mi ic) 111 3 = [0, 0, 1, 0] := rfl
theorem bc_111 (em mi ic : Nat) : mBc (DD em mi ic) 111 = 0 := rfl
theorem bs_111 (em mi ic : Nat) : mBs (DD em mi ic) 111 = 0 := rfl
theorem rt_111 (em mi ic : Nat) : mRet (DD em mi ic) 111 = some .int := rfl
theorem ml_111 (em mi ic : Nat) : mMaxL (DD em mi ic) 111 = 4 := rfl
theorem sg112_0 (em mi ic : Nat) : mSeg (DD em mi ic) 112 0 = g112_0 := rfl
theorem lv112_0 (em mi ic : Nat) : mLive (DD em mi ic) 112 0 = [1, 0, 0, 0] := rfl
theorem sg112_1 (em mi ic : Nat) : mSeg (DD em mi ic) 112 1 = g112_1 := rfl
theorem lv112_1 (em mi ic : Nat) : mLive (DD em mi ic) 112 1 = [1, 1, 1, 0] := rfl
theorem sg112_2 (em mi ic : Nat) : mSeg (DD em mi ic) 112 2 = g112_2 := rfl
theorem lv112_2 (em mi ic : Nat) : mLive (DD em mi ic) 112 2 = [1, 1, 1, 1] := rfl
theorem sg112_3 (em mi ic : Nat) : mSeg (DD em mi ic) 112 3 = g112_3 := rfl
theorem lv112_3 (em mi ic : Nat) : mLive (DD em mi ic) 112 3 = [1, 1, 1, 1] := rfl
theorem sg112_4 (em mi ic : Nat) : mSeg (DD em mi ic) 112 4 = g112_4 := rfl
theorem lv112_4 (em mi ic : Nat) : mLive (DD em mi ic) 112 4 = [1, 1, 1, 0] := rfl
theorem sg112_5 (em mi ic : Nat) : mSeg (DD em mi ic) 112 5 = g112_5 := rfl
theorem lv112_5 (em mi ic : Nat) : mLive (DD em mi ic) 112 5 = [0, 1, 0, 0] := rfl
theorem bc_112 (em mi ic : Nat) : mBc (DD em mi ic) 112 = 0 := rfl
theorem bs_112 (em mi ic : Nat) : mBs (DD em mi ic) 112 = 0 := rfl
theorem rt_112 (em mi ic : Nat) : mRet (DD em mi ic) 112 = some .int := rfl
theorem ml_112 (em mi ic : Nat) : mMaxL (DD em mi ic) 112 = 4 := rfl
theorem sg113_0 (em mi ic : Nat) : mSeg (DD em mi ic) 113 0 = g113_0 := rfl
theorem lv113_0 (em mi ic : Nat) : mLive (DD em mi ic) 113 0 = [1, 1, 0, 0] := rfl
theorem sg113_1 (em mi ic : Nat) : mSeg (DD em mi ic) 113 1 = g113_1 := rfl
theorem lv113_1 (em mi ic : Nat) : mLive (DD em mi ic) 113 1 = [1, 1, 1, 1] := rfl
theorem sg113_2 (em mi ic : Nat) : mSeg (DD em mi ic) 113 2 = g113_2 := rfl
theorem lv113_2 (em mi ic : Nat) : mLive (DD em mi ic) 113 2 = [1, 1, 0, 1] := rfl
theorem sg113_3 (em mi ic : Nat) : mSeg (DD em mi ic) 113 3 = g113_3 := rfl
theorem lv113_3 (em mi ic : Nat) : mLive (DD em mi ic) 113 3 = [1, 1, 0, 1] := rfl
theorem sg113_4 (em mi ic : Nat) : mSeg (DD em mi ic) 113 4 = g113_4 := rfl
theorem lv113_4 (em mi ic : Nat) : mLive (DD em mi ic) 113 4 = [0, 0, 1, 0] := rfl
theorem bc_113 (em mi ic : Nat) : mBc (DD em mi ic) 113 = 0 := rfl
theorem bs_113 (em mi ic : Nat) : mBs (DD em mi ic) 113 = 0 := rfl
theorem rt_113 (em mi ic : Nat) : mRet (DD em mi ic) 113 = some .int := rfl
theorem ml_113 (em mi ic : Nat) : mMaxL (DD em mi ic) 113 = 4 := rfl
theorem sg114_0 (em mi ic : Nat) : mSeg (DD em mi ic) 114 0 = g114_0 := rfl
theorem lv114_0 (em mi ic : Nat) : mLive (DD em mi ic) 114 0 = [1, 1, 0, 0, 0, 0] := rfl
theorem sg114_1 (em mi ic : Nat) : mSeg (DD em mi ic) 114 1 = g114_1 := rfl
theorem lv114_1 (em mi ic : Nat) : mLive (DD em mi ic) 114 1 = [1, 0, 1, 1, 0, 0] := rfl
theorem sg114_2 (em mi ic : Nat) : mSeg (DD em mi ic) 114 2 = g114_2 := rfl
theorem lv114_2 (em mi ic : Nat) : mLive (DD em mi ic) 114 2 = [0, 0, 0, 0, 0, 0] := rfl
theorem sg114_3 (em mi ic : Nat) : mSeg (DD em mi ic) 114 3 = g114_3 := rfl
theorem lv114_3 (em mi ic : Nat) : mLive (DD em mi ic) 114 3 = [1, 0, 1, 1, 1, 1] := rfl
theorem sg114_4 (em mi ic : Nat) : mSeg (DD em mi ic) 114 4 = g114_4 := rfl
theorem lv114_4 (em mi ic : Nat) : mLive (DD em mi ic) 114 4 = [1, 0, 1, 1, 0, 1] := rfl
theorem sg114_5 (em mi ic : Nat) : mSeg (DD em mi ic) 114 5 = g114_5 := rfl
theorem lv114_5 (em mi ic : Nat) : mLive (DD em mi ic) 114 5 = [1, 0, 1, 1, 0, 0] := rfl
theorem sg114_6 (em mi ic : Nat) : mSeg (DD em mi ic) 114 6 = g114_6 := rfl
theorem lv114_6 (em mi ic : Nat) : mLive (DD em mi ic) 114 6 = [1, 0, 1, 1, 0, 0] := rfl
theorem sg114_7 (em mi ic : Nat) : mSeg (DD em mi ic) 114 7 = g114_7 := rfl
theorem lv114_7 (em mi ic : Nat) : mLive (DD em mi ic) 114 7 = [0, 0, 1, 0, 0, 0] := rfl
theorem sg114_8 (em mi ic : Nat) : mSeg (DD em mi ic) 114 8 = g114_8 := rfl
theorem lv114_8 (em mi ic : Nat) : mLive (DD em mi ic) 114 8 = [0, 0, 0, 0, 0, 0] := rfl
theorem sg114_9 (em mi ic : Nat) : mSeg (DD em mi ic) 114 9 = g114_9 := rfl
theorem lv114_9 (em mi ic : Nat) : mLive (DD em mi ic) 114 9 = [0, 0, 0, 0, 0, 0] := rfl
theorem bc_114 (em mi ic : Nat) : mBc (DD em mi ic) 114 = 0 := rfl
theorem bs_114 (em mi ic : Nat) : mBs (DD em mi ic) 114 = 0 := rfl
theorem rt_114 (em mi ic : Nat) : mRet (DD em mi ic) 114 = some .boolean := rfl
theorem ml_114 (em mi ic : Nat) : mMaxL (DD em mi ic) 114 = 6 := rfl
theorem sg115_0 (em mi ic : Nat) : mSeg (DD em mi ic) 115 0 = g115_0 := rfl
theorem lv115_0 (em mi ic : Nat) : mLive (DD em mi ic) 115 0 = [1, 0, 0] := rfl
theorem sg115_1 (em mi ic : Nat) : mSeg (DD em mi ic) 115 1 = g115_1 := rfl
theorem lv115_1 (em mi ic : Nat) : mLive (DD em mi ic) 115 1 = [1, 1, 0] := rfl
theorem sg115_2 (em mi ic : Nat) : mSeg (DD em mi ic) 115 2 = g115_2 := rfl
theorem lv115_2 (em mi ic : Nat) : mLive (DD em mi ic) 115 2 = [1, 1, 0] := rfl
theorem sg115_3 (em mi ic : Nat) : mSeg (DD em mi ic) 115 3 = g115_3 := rfl
theorem lv115_3 (em mi ic : Nat) : mLive (DD em mi ic) 115 3 = [0, 0, 0] := rfl
theorem bc_115 (em mi ic : Nat) : mBc (DD em mi ic) 115 = 0 := rfl
theorem bs_115 (em mi ic : Nat) : mBs (DD em mi ic) 115 = 0 := rfl
theorem rt_115 (em mi ic : Nat) : mRet (DD em mi ic) 115 = some .boolean := rfl
theorem ml_115 (em mi ic : Nat) : mMaxL (DD em mi ic) 115 = 3 := rfl
theorem sg116_0 (em mi ic : Nat) : mSeg (DD em mi ic) 116 0 = g116_0 := rfl
theorem lv116_0 (em mi ic : Nat) : mLive (DD em mi ic) 116 0 = [1, 0] := rfl
theorem sg116_1 (em mi ic : Nat) : mSeg (DD em mi ic) 116 1 = g116_1 := rfl
theorem lv116_1 (em mi ic : Nat) : mLive (DD em mi ic) 116 1 = [1, 1] := rfl
theorem sg116_2 (em mi ic : Nat) : mSeg (DD em mi ic) 116 2 = g116_2 := rfl
theorem lv116_2 (em mi ic : Nat) : mLive (DD em mi ic) 116 2 = [0, 0] := rfl
theorem sg116_3 (em mi ic : Nat) : mSeg (DD em mi ic) 116 3 = g116_3 := rfl
theorem lv116_3 (em mi ic : Nat) : mLive (DD em mi ic) 116 3 = [1, 1] := rfl
theorem sg116_4 (em mi ic : Nat) : mSeg (DD em mi ic) 116 4 = g116_4 := rfl
theorem lv116_4 (em mi ic : Nat) : mLive (DD em mi ic) 116 4 = [0, 0] := rfl
theorem bc_116 (em mi ic : Nat) : mBc (DD em mi ic) 116 = 0 := rfl
theorem bs_116 (em mi ic : Nat) : mBs (DD em mi ic) 116 = 0 := rfl
theorem rt_116 (em mi ic : Nat) : mRet (DD em mi ic) 116 = some .boolean := rfl
theorem ml_116 (em mi ic : Nat) : mMaxL (DD em mi ic) 116 = 2 := rfl
theorem sg117_0 (em mi ic : Nat) : mSeg (DD em mi ic) 117 0 = g117_0 := rfl
theorem lv117_0 (em mi ic : Nat) : mLive (DD em mi ic) 117 0 = [1, 0, 0] := rfl
theorem sg117_1 (em mi ic : Nat) : mSeg (DD em mi ic) 117 1 = g117_1 := rfl
theorem lv117_1 (em mi ic : Nat) : mLive (DD em mi ic) 117 1 = [1, 1, 1] := rfl
theorem sg117_2 (em mi ic : Nat) : mSeg (DD em mi ic) 117 2 = g117_2 := rfl
theorem lv117_2 (em mi ic : Nat) : mLive (DD em mi ic) 117 2 = [1, 0, 1] := rfl
theorem sg117_3 (em mi ic : Nat) : mSeg (DD em mi ic) 117 3 = g117_3 := rfl
theorem lv117_3 (em mi ic : Nat) : mLive (DD em mi ic) 117 3 = [1, 0, 1] := rfl
theorem sg117_4 (em mi ic : Nat) : mSeg (DD em mi ic) 117 4 = g117_4 := rfl
theorem lv117_4 (em mi ic : Nat) : mLive (DD em mi ic) 117 4 = [0, 1, 0] := rfl
theorem bc_117 (em mi ic : Nat) : mBc (DD em mi ic) 117 = 0 := rfl
theorem bs_117 (em mi ic : Nat) : mBs (DD em mi ic) 117 = 0 := rfl
theorem rt_117 (em mi ic : Nat) : mRet (DD em mi ic) 117 = some .int := rfl
theorem ml_117 (em mi ic : Nat) : mMaxL (DD em mi ic) 117 = 3 := rfl
theorem sg118_0 (em mi ic : Nat) : mSeg (DD em mi ic) 118 0 = g118_0 := rfl
theorem lv118_0 (em mi ic : Nat) : mLive (DD em mi ic) 118 0 = [1, 1] := rfl
theorem sg118_1 (em mi ic : Nat) : mSeg (DD em mi ic) 118 1 = g118_1 := rfl
theorem lv118_1 (em mi ic : Nat) : mLive (DD em mi ic) 118 1 = [0, 0] := rfl
theorem sg118_2 (em mi ic : Nat) : mSeg (DD em mi ic) 118 2 = g118_2 := rfl
theorem lv118_2 (em mi ic : Nat) : mLive (DD em mi ic) 118 2 = [0, 0] := rfl
theorem bc_118 (em mi ic : Nat) : mBc (DD em mi ic) 118 = 0 := rfl
theorem bs_118 (em mi ic : Nat) : mBs (DD em mi ic) 118 = 0 := rfl
theorem rt_118 (em mi ic : Nat) : mRet (DD em mi ic) 118 = some .boolean := rfl
theorem ml_118 (em mi ic : Nat) : mMaxL (DD em mi ic) 118 = 2 := rfl
theorem sg119_0 (em mi ic : Nat) : mSeg (DD em mi ic) 119 0 = g119_0 := rfl
theorem lv119_0 (em mi ic : Nat) : mLive (DD em mi ic) 119 0 = [1, 1, 0, 0, 0, 0, 0, 0, 0] := rfl
theorem sg119_1 (em mi ic : Nat) : mSeg (DD em mi ic) 119 1 = g119_1 := rfl
theorem lv119_1 (em mi ic : Nat) : mLive (DD em mi ic) 119 1 = [1, 1, 1, 1, 0, 0, 0, 0, 0] := rfl
theorem sg119_2 (em mi ic : Nat) : mSeg (DD em mi ic) 119 2 = g119_2 := rfl
theorem lv119_2 (em mi ic : Nat) : mLive (DD em mi ic) 119 2 = [1, 1, 1, 1, 1, 1, 0, 0, 0] := rfl
theorem sg119_3 (em mi ic : Nat) : mSeg (DD em mi ic) 119 3 = g119_3 := rfl
theorem lv119_3 (em mi ic : Nat) : mLive (DD em mi ic) 119 3 = [1, 1, 1, 1, 1, 1, 1, 0, 0] := rfl
theorem sg119_4 (em mi ic : Nat) : mSeg (DD em mi ic) 119 4 = g119_4 := rfl
theorem lv119_4 (em mi ic : Nat) : mLive (DD em mi ic) 119 4 = [1, 1, 1, 1, 1, 1, 1, 0, 0] := rfl
theorem sg119_5 (em mi ic : Nat) : mSeg (DD em mi ic) 119 5 = g119_5 := rfl
theorem lv119_5 (em mi ic : Nat) : mLive (DD em mi ic) 119 5 = [1, 1, 1, 1, 1, 1, 1, 0, 0] := rfl
theorem sg119_6 (em mi ic : Nat) : mSeg (DD em mi ic) 119 6 = g119_6 := rfl
theorem lv119_6 (em mi ic : Nat) : mLive (DD em mi ic) 119 6 = [1, 1, 1, 1, 1, 1, 1, 0, 0] := rfl
theorem sg119_7 (em mi ic : Nat) : mSeg (DD em mi ic) 119 7 = g119_7 := rfl
theorem lv119_7 (em mi ic : Nat) : mLive (DD em mi ic) 119 7 = [1, 1, 1, 1, 1, 1, 1, 1, 1] := rfl
theorem sg119_8 (em mi ic : Nat) : mSeg (DD em mi ic) 119 8 = g119_8 := rfl
theorem lv119_8 (em mi ic : Nat) : mLive (DD em mi ic) 119 8 = [1, 1, 1, 1, 1, 1, 1, 0, 1] := rfl
theorem sg119_9 (em mi ic : Nat) : mSeg (DD em mi ic) 119 9 = g119_9 := rfl
theorem lv119_9 (em mi ic : Nat) : mLive (DD em mi ic) 119 9 = [1, 1, 1, 1, 1, 1, 1, 0, 1] := rfl
theorem sg119_10 (em mi ic : Nat) : mSeg (DD em mi ic) 119 10 = g119_10 := rfl
theorem lv119_10 (em mi ic : Nat) : mLive (DD em mi ic) 119 10 = [1, 1, 1, 1, 1, 1, 1, 1, 0] := rfl
theorem sg119_11 (em mi ic : Nat) : mSeg (DD em mi ic) 119 11 = g119_11 := rfl
theorem lv119_11 (em mi ic : Nat) : mLive (DD em mi ic) 119 11 = [1, 1, 1, 1, 1, 1, 1, 0, 0] := rfl
theorem sg119_12 (em mi ic : Nat) : mSeg (DD em mi ic) 119 12 = g119_12 := rfl
theorem lv119_12 (em mi ic : Nat) : mLive (DD em mi ic) 119 12 = [1, 1, 1, 1, 0, 0, 0, 0, 0] := rfl
theorem sg119_13 (em mi ic : Nat) : mSeg (DD em mi ic) 119 13 = g119_13 := rfl
theorem lv119_13 (em mi ic : Nat) : mLive (DD em mi ic) 119 13 = [0, 0, 0, 0, 0, 0, 0, 0, 0] := rfl
theorem bc_119 (em mi ic : Nat) : mBc (DD em mi ic) 119 = 0 := rfl
theorem bs_119 (em mi ic : Nat) : mBs (DD em mi ic) 119 = 0 := rfl
theorem rt_119 (em mi ic : Nat) : mRet (DD em mi ic) 119 = some .boolean := rfl
theorem ml_119 (em mi ic : Nat) : mMaxL (DD em mi ic) 119 = 9 := rfl
theorem sg120_0 (em mi ic : Nat) : mSeg (DD em mi ic) 120 0 = g120_0 := rfl
theorem lv120_0 (em mi ic : Nat) : mLive (DD em mi ic) 120 0 = [1, 1, 1] := rfl
theorem sg120_1 (em mi ic : Nat) : mSeg (DD em mi ic) 120 1 = g120_1 := rfl
theorem lv120_1 (em mi ic : Nat) : mLive (DD em mi ic) 120 1 = [0, 0, 0] := rfl
theorem sg120_2 (em mi ic : Nat) : mSeg (DD em mi ic) 120 2 = g120_2 := rfl
theorem lv120_2 (em mi ic : Nat) : mLive (DD em mi ic) 120 2 = [1, 1, 1] := rfl
theorem bc_120 (em mi ic : Nat) : mBc (DD em mi ic) 120 = 1 := rfl
theorem bs_120 (em mi ic : Nat) : mBs (DD em mi ic) 120 = 6 := rfl
theorem rt_120 (em mi ic : Nat) : mRet (DD em mi ic) 120 = some .int := rfl
theorem ml_120 (em mi ic : Nat) : mMaxL (DD em mi ic) 120 = 3 := rfl
theorem sg121_0 (em mi ic : Nat) : mSeg (DD em mi ic) 121 0 = g121_0 := rfl
theorem lv121_0 (em mi ic : Nat) : mLive (DD em mi ic) 121 0 = [1, 1, 1, 0, 0, 0] := rfl
theorem sg121_1 (em mi ic : Nat) : mSeg (DD em mi ic) 121 1 = g121_1 := rfl
theorem lv121_1 (em mi ic : Nat) : mLive (DD em mi ic) 121 1 = [1, 1, 1, 1, 1, 0] := rfl
theorem sg121_2 (em mi ic : Nat) : mSeg (DD em mi ic) 121 2 = g121_2 := rfl
theorem lv121_2 (em mi ic : Nat) : mLive (DD em mi ic) 121 2 = [1, 1, 1, 0, 1, 0] := rfl
theorem sg121_3 (em mi ic : Nat) : mSeg (DD em mi ic) 121 3 = g121_3 := rfl
theorem lv121_3 (em mi ic : Nat) : mLive (DD em mi ic) 121 3 = [1, 1, 1, 0, 1, 0] := rfl
theorem sg121_4 (em mi ic : Nat) : mSeg (DD em mi ic) 121 4 = g121_4 := rfl
theorem lv121_4 (em mi ic : Nat) : mLive (DD em mi ic) 121 4 = [0, 1, 0, 1, 0, 0] := rfl
theorem bc_121 (em mi ic : Nat) : mBc (DD em mi ic) 121 = 1 := rfl
theorem bs_121 (em mi ic : Nat) : mBs (DD em mi ic) 121 = 4 := rfl
theorem rt_121 (em mi ic : Nat) : mRet (DD em mi ic) 121 = some .int := rfl
theorem ml_121 (em mi ic : Nat) : mMaxL (DD em mi ic) 121 = 6 := rfl
theorem sg122_0 (em mi ic : Nat) : mSeg (DD em mi ic) 122 0 = g122_0 := rfl
theorem lv122_0 (em mi ic : Nat) : mLive (DD em mi ic) 122 0 = [0, 1, 1] := rfl
theorem sg122_1 (em mi ic : Nat) : mSeg (DD em mi ic) 122 1 = g122_1 := rfl
theorem lv122_1 (em mi ic : Nat) : mLive (DD em mi ic) 122 1 = [0, 0, 0] := rfl
theorem sg122_2 (em mi ic : Nat) : mSeg (DD em mi ic) 122 2 = g122_2 := rfl
theorem lv122_2 (em mi ic : Nat) : mLive (DD em mi ic) 122 2 = [0, 1, 1] := rfl
theorem bc_122 (em mi ic : Nat) : mBc (DD em mi ic) 122 = 1 := rfl
theorem bs_122 (em mi ic : Nat) : mBs (DD em mi ic) 122 = 6 := rfl
theorem rt_122 (em mi ic : Nat) : mRet (DD em mi ic) 122 = some .boolean := rfl
theorem ml_122 (em mi ic : Nat) : mMaxL (DD em mi ic) 122 = 3 := rfl
theorem sg123_0 (em mi ic : Nat) : mSeg (DD em mi ic) 123 0 = g123_0 := rfl
theorem lv123_0 (em mi ic : Nat) : mLive (DD em mi ic) 123 0 = [1, 1, 0, 0, 0] := rfl
theorem sg123_1 (em mi ic : Nat) : mSeg (DD em mi ic) 123 1 = g123_1 := rfl
theorem lv123_1 (em mi ic : Nat) : mLive (DD em mi ic) 123 1 = [0, 0, 0, 0, 0] := rfl
theorem sg123_2 (em mi ic : Nat) : mSeg (DD em mi ic) 123 2 = g123_2 := rfl
theorem lv123_2 (em mi ic : Nat) : mLive (DD em mi ic) 123 2 = [0, 0, 0, 0, 0] := rfl
theorem sg123_3 (em mi ic : Nat) : mSeg (DD em mi ic) 123 3 = g123_3 := rfl
theorem lv123_3 (em mi ic : Nat) : mLive (DD em mi ic) 123 3 = [1, 1, 0, 0, 0] := rfl
theorem sg123_4 (em mi ic : Nat) : mSeg (DD em mi ic) 123 4 = g123_4 := rfl
theorem lv123_4 (em mi ic : Nat) : mLive (DD em mi ic) 123 4 = [0, 0, 1, 1, 1] := rfl
theorem sg123_5 (em mi ic : Nat) : mSeg (DD em mi ic) 123 5 = g123_5 := rfl
theorem lv123_5 (em mi ic : Nat) : mLive (DD em mi ic) 123 5 = [0, 0, 0, 1, 1] := rfl
theorem sg123_6 (em mi ic : Nat) : mSeg (DD em mi ic) 123 6 = g123_6 := rfl
theorem lv123_6 (em mi ic : Nat) : mLive (DD em mi ic) 123 6 = [0, 0, 0, 1, 1] := rfl
theorem sg123_7 (em mi ic : Nat) : mSeg (DD em mi ic) 123 7 = g123_7 := rfl
theorem lv123_7 (em mi ic : Nat) : mLive (DD em mi ic) 123 7 = [0, 0, 1, 0, 0] := rfl
theorem sg123_8 (em mi ic : Nat) : mSeg (DD em mi ic) 123 8 = g123_8 := rfl
theorem lv123_8 (em mi ic : Nat) : mLive (DD em mi ic) 123 8 = [0, 0, 0, 0, 0] := rfl
theorem sg123_9 (em mi ic : Nat) : mSeg (DD em mi ic) 123 9 = g123_9 := rfl
theorem lv123_9 (em mi ic : Nat) : mLive (DD em mi ic) 123 9 = [0, 0, 0, 0, 0] := rfl
theorem bc_123 (em mi ic : Nat) : mBc (DD em mi ic) 123 = 0 := rfl
theorem bs_123 (em mi ic : Nat) : mBs (DD em mi ic) 123 = 0 := rfl
theorem rt_123 (em mi ic : Nat) : mRet (DD em mi ic) 123 = some .boolean := rfl
theorem ml_123 (em mi ic : Nat) : mMaxL (DD em mi ic) 123 = 5 := rfl
theorem sg124_0 (em mi ic : Nat) : mSeg (DD em mi ic) 124 0 = g124_0 := rfl
theorem lv124_0 (em mi ic : Nat) : mLive (DD em mi ic) 124 0 = [1, 0] := rfl
theorem sg124_1 (em mi ic : Nat) : mSeg (DD em mi ic) 124 1 = g124_1 := rfl
theorem lv124_1 (em mi ic : Nat) : mLive (DD em mi ic) 124 1 = [1, 1] := rfl
theorem sg124_2 (em mi ic : Nat) : mSeg (DD em mi ic) 124 2 = g124_2 := rfl
theorem lv124_2 (em mi ic : Nat) : mLive (DD em mi ic) 124 2 = [0, 0] := rfl
theorem bc_124 (em mi ic : Nat) : mBc (DD em mi ic) 124 = 0 := rfl
theorem bs_124 (em mi ic : Nat) : mBs (DD em mi ic) 124 = 0 := rfl
theorem rt_124 (em mi ic : Nat) : mRet (DD em mi ic) 124 = none := rfl
theorem ml_124 (em mi ic : Nat) : mMaxL (DD em mi ic) 124 = 2 := rfl
theorem sg125_0 (em mi ic : Nat) : mSeg (DD em mi ic) 125 0 = g125_0 := rfl
theorem lv125_0 (em mi ic : Nat) : mLive (DD em mi ic) 125 0 = [1, 1, 1, 0, 0, 0] := rfl
theorem sg125_1 (em mi ic : Nat) : mSeg (DD em mi ic) 125 1 = g125_1 := rfl
theorem lv125_1 (em mi ic : Nat) : mLive (DD em mi ic) 125 1 = [1, 1, 0, 0, 0, 0] := rfl
theorem sg125_2 (em mi ic : Nat) : mSeg (DD em mi ic) 125 2 = g125_2 := rfl
theorem lv125_2 (em mi ic : Nat) : mLive (DD em mi ic) 125 2 = [0, 0, 0, 0, 0, 0] := rfl
theorem sg125_3 (em mi ic : Nat) : mSeg (DD em mi ic) 125 3 = g125_3 := rfl
theorem lv125_3 (em mi ic : Nat) : mLive (DD em mi ic) 125 3 = [0, 0, 0, 0, 0, 0] := rfl
theorem sg125_4 (em mi ic : Nat) : mSeg (DD em mi ic) 125 4 = g125_4 := rfl
theorem lv125_4 (em mi ic : Nat) : mLive (DD em mi ic) 125 4 = [1, 1, 1, 0, 0, 0] := rfl
theorem sg125_5 (em mi ic : Nat) : mSeg (DD em mi ic) 125 5 = g125_5 := rfl
theorem lv125_5 (em mi ic : Nat) : mLive (DD em mi ic) 125 5 = [1, 1, 1, 1, 0, 0] := rfl
theorem sg125_6 (em mi ic : Nat) : mSeg (DD em mi ic) 125 6 = g125_6 := rfl
theorem lv125_6 (em mi ic : Nat) : mLive (DD em mi ic) 125 6 = [1, 1, 1, 1, 1, 0] := rfl
theorem sg125_7 (em mi ic : Nat) : mSeg (DD em mi ic) 125 7 = g125_7 := rfl
theorem lv125_7 (em mi ic : Nat) : mLive (DD em mi ic) 125 7 = [1, 1, 1, 1, 1, 0] := rfl
theorem sg125_8 (em mi ic : Nat) : mSeg (DD em mi ic) 125 8 = g125_8 := rfl
theorem lv125_8 (em mi ic : Nat) : mLive (DD em mi ic) 125 8 = [1, 1, 1, 1, 1, 0] := rfl
theorem sg125_9 (em mi ic : Nat) : mSeg (DD em mi ic) 125 9 = g125_9 := rfl
theorem lv125_9 (em mi ic : Nat) : mLive (DD em mi ic) 125 9 = [1, 1, 1, 1, 1, 1] := rfl
theorem sg125_10 (em mi ic : Nat) : mSeg (DD em mi ic) 125 10 = g125_10 := rfl
theorem lv125_10 (em mi ic : Nat) : mLive (DD em mi ic) 125 10 = [1, 1, 1, 1, 1, 0] := rfl
theorem sg125_11 (em mi ic : Nat) : mSeg (DD em mi ic) 125 11 = g125_11 := rfl
theorem lv125_11 (em mi ic : Nat) : mLive (DD em mi ic) 125 11 = [1, 1, 1, 1, 1, 0] := rfl
theorem sg125_12 (em mi ic : Nat) : mSeg (DD em mi ic) 125 12 = g125_12 := rfl
theorem lv125_12 (em mi ic : Nat) : mLive (DD em mi ic) 125 12 = [0, 0, 0, 0, 0, 0] := rfl
theorem bc_125 (em mi ic : Nat) : mBc (DD em mi ic) 125 = 0 := rfl
theorem bs_125 (em mi ic : Nat) : mBs (DD em mi ic) 125 = 0 := rfl
theorem rt_125 (em mi ic : Nat) : mRet (DD em mi ic) 125 = some .boolean := rfl
theorem ml_125 (em mi ic : Nat) : mMaxL (DD em mi ic) 125 = 6 := rfl
theorem sg126_0 (em mi ic : Nat) : mSeg (DD em mi ic) 126 0 = g126_0 := rfl
theorem lv126_0 (em mi ic : Nat) : mLive (DD em mi ic) 126 0 = [1, 1, 0] := rfl
theorem sg126_1 (em mi ic : Nat) : mSeg (DD em mi ic) 126 1 = g126_1 := rfl
theorem lv126_1 (em mi ic : Nat) : mLive (DD em mi ic) 126 1 = [1, 1, 1] := rfl
theorem sg126_2 (em mi ic : Nat) : mSeg (DD em mi ic) 126 2 = g126_2 := rfl
theorem lv126_2 (em mi ic : Nat) : mLive (DD em mi ic) 126 2 = [1, 1, 1] := rfl
theorem sg126_3 (em mi ic : Nat) : mSeg (DD em mi ic) 126 3 = g126_3 := rfl
theorem lv126_3 (em mi ic : Nat) : mLive (DD em mi ic) 126 3 = [0, 0, 0] := rfl
theorem bc_126 (em mi ic : Nat) : mBc (DD em mi ic) 126 = 0 := rfl
theorem bs_126 (em mi ic : Nat) : mBs (DD em mi ic) 126 = 0 := rfl
theorem rt_126 (em mi ic : Nat) : mRet (DD em mi ic) 126 = some .boolean := rfl
theorem ml_126 (em mi ic : Nat) : mMaxL (DD em mi ic) 126 = 3 := rfl
theorem sg127_0 (em mi ic : Nat) : mSeg (DD em mi ic) 127 0 = g127_0 := rfl
theorem lv127_0 (em mi ic : Nat) : mLive (DD em mi ic) 127 0 = [1, 0, 0, 0] := rfl
theorem sg127_1 (em mi ic : Nat) : mSeg (DD em mi ic) 127 1 = g127_1 := rfl
theorem lv127_1 (em mi ic : Nat) : mLive (DD em mi ic) 127 1 = [1, 1, 1, 1] := rfl
theorem sg127_2 (em mi ic : Nat) : mSeg (DD em mi ic) 127 2 = g127_2 := rfl
theorem lv127_2 (em mi ic : Nat) : mLive (DD em mi ic) 127 2 = [1, 1, 1, 0] := rfl
theorem sg127_3 (em mi ic : Nat) : mSeg (DD em mi ic) 127 3 = g127_3 := rfl
theorem lv127_3 (em mi ic : Nat) : mLive (DD em mi ic) 127 3 = [0, 0, 0, 0] := rfl
theorem sg127_4 (em mi ic : Nat) : mSeg (DD em mi ic) 127 4 = g127_4 := rfl
theorem lv127_4 (em mi ic : Nat) : mLive (DD em mi ic) 127 4 = [0, 0, 0, 0] := rfl
theorem bc_127 (em mi ic : Nat) : mBc (DD em mi ic) 127 = 0 := rfl
theorem bs_127 (em mi ic : Nat) : mBs (DD em mi ic) 127 = 0 := rfl
theorem rt_127 (em mi ic : Nat) : mRet (DD em mi ic) 127 = some .boolean := rfl
theorem ml_127 (em mi ic : Nat) : mMaxL (DD em mi ic) 127 = 4 := rfl
theorem sg128_0 (em mi ic : Nat) : mSeg (DD em mi ic) 128 0 = g128_0 := rfl
theorem lv128_0 (em mi ic : Nat) : mLive (DD em mi ic) 128 0 = [1, 0, 0, 0, 0, 0] := rfl
theorem sg128_1 (em mi ic : Nat) : mSeg (DD em mi ic) 128 1 = g128_1 := rfl
theorem lv128_1 (em mi ic : Nat) : mLive (DD em mi ic) 128 1 = [1, 1, 1, 0, 0, 0] := rfl
theorem sg128_2 (em mi ic : Nat) : mSeg (DD em mi ic) 128 2 = g128_2 := rfl
theorem lv128_2 (em mi ic : Nat) : mLive (DD em mi ic) 128 2 = [1, 0, 1, 0, 0, 0] := rfl
theorem sg128_3 (em mi ic : Nat) : mSeg (DD em mi ic) 128 3 = g128_3 := rfl
theorem lv128_3 (em mi ic : Nat) : mLive (DD em mi ic) 128 3 = [1, 0, 1, 0, 0, 0] := rfl
theorem sg128_4 (em mi ic : Nat) : mSeg (DD em mi ic) 128 4 = g128_4 := rfl
theorem lv128_4 (em mi ic : Nat) : mLive (DD em mi ic) 128 4 = [1, 1, 0, 0, 0, 0] := rfl
theorem sg128_5 (em mi ic : Nat) : mSeg (DD em mi ic) 128 5 = g128_5 := rfl
theorem lv128_5 (em mi ic : Nat) : mLive (DD em mi ic) 128 5 = [1, 1, 1, 0, 0, 0] := rfl
theorem sg128_6 (em mi ic : Nat) : mSeg (DD em mi ic) 128 6 = g128_6 := rfl
theorem lv128_6 (em mi ic : Nat) : mLive (DD em mi ic) 128 6 = [1, 1, 1, 1, 0, 0] := rfl
theorem sg128_7 (em mi ic : Nat) : mSeg (DD em mi ic) 128 7 = g128_7 := rfl
theorem lv128_7 (em mi ic : Nat) : mLive (DD em mi ic) 128 7 = [1, 1, 1, 1, 0, 0] := rfl
theorem sg128_8 (em mi ic : Nat) : mSeg (DD em mi ic) 128 8 = g128_8 := rfl
theorem lv128_8 (em mi ic : Nat) : mLive (DD em mi ic) 128 8 = [1, 1, 1, 0, 0, 0] := rfl
theorem sg128_9 (em mi ic : Nat) : mSeg (DD em mi ic) 128 9 = g128_9 := rfl
theorem lv128_9 (em mi ic : Nat) : mLive (DD em mi ic) 128 9 = [0, 1, 0, 0, 0, 0] := rfl
theorem bc_128 (em mi ic : Nat) : mBc (DD em mi ic) 128 = 0 := rfl
theorem bs_128 (em mi ic : Nat) : mBs (DD em mi ic) 128 = 0 := rfl
theorem rt_128 (em mi ic : Nat) : mRet (DD em mi ic) 128 = some .int := rfl
theorem ml_128 (em mi ic : Nat) : mMaxL (DD em mi ic) 128 = 6 := rfl
theorem sg129_0 (em mi ic : Nat) : mSeg (DD em mi ic) 129 0 = g129_0 := rfl
theorem lv129_0 (em mi ic : Nat) : mLive (DD em mi ic) 129 0 = [1, 0, 0, 0] := rfl
theorem sg129_1 (em mi ic : Nat) : mSeg (DD em mi ic) 129 1 = g129_1 := rfl
theorem lv129_1 (em mi ic : Nat) : mLive (DD em mi ic) 129 1 = [0, 0, 0, 0] := rfl
theorem sg129_2 (em mi ic : Nat) : mSeg (DD em mi ic) 129 2 = g129_2 := rfl
theorem lv129_2 (em mi ic : Nat) : mLive (DD em mi ic) 129 2 = [1, 0, 0, 0] := rfl
theorem sg129_3 (em mi ic : Nat) : mSeg (DD em mi ic) 129 3 = g129_3 := rfl
theorem lv129_3 (em mi ic : Nat) : mLive (DD em mi ic) 129 3 = [1, 0, 1, 1] := rfl
theorem sg129_4 (em mi ic : Nat) : mSeg (DD em mi ic) 129 4 = g129_4 := rfl
theorem lv129_4 (em mi ic : Nat) : mLive (DD em mi ic) 129 4 = [1, 0, 1, 1] := rfl
theorem sg129_5 (em mi ic : Nat) : mSeg (DD em mi ic) 129 5 = g129_5 := rfl
theorem lv129_5 (em mi ic : Nat) : mLive (DD em mi ic) 129 5 = [1, 0, 0, 0] := rfl
theorem sg129_6 (em mi ic : Nat) : mSeg (DD em mi ic) 129 6 = g129_6 := rfl
theorem lv129_6 (em mi ic : Nat) : mLive (DD em mi ic) 129 6 = [0, 0, 0, 0] := rfl
theorem sg129_7 (em mi ic : Nat) : mSeg (DD em mi ic) 129 7 = g129_7 := rfl
theorem lv129_7 (em mi ic : Nat) : mLive (DD em mi ic) 129 7 = [0, 0, 0, 0] := rfl
theorem bc_129 (em mi ic : Nat) : mBc (DD em mi ic) 129 = 4 := rfl
theorem bs_129 (em mi ic : Nat) : mBs (DD em mi ic) 129 = 19 := rfl
theorem rt_129 (em mi ic : Nat) : mRet (DD em mi ic) 129 = some .boolean := rfl
theorem ml_129 (em mi ic : Nat) : mMaxL (DD em mi ic) 129 = 4 := rfl
theorem sg130_0 (em mi ic : Nat) : mSeg (DD em mi ic) 130 0 = g130_0 := rfl
theorem lv130_0 (em mi ic : Nat) : mLive (DD em mi ic) 130 0 = [1, 1] := rfl
theorem sg130_1 (em mi ic : Nat) : mSeg (DD em mi ic) 130 1 = g130_1 := rfl
theorem lv130_1 (em mi ic : Nat) : mLive (DD em mi ic) 130 1 = [1, 0] := rfl
theorem sg130_2 (em mi ic : Nat) : mSeg (DD em mi ic) 130 2 = g130_2 := rfl
theorem lv130_2 (em mi ic : Nat) : mLive (DD em mi ic) 130 2 = [1, 0] := rfl
theorem sg130_3 (em mi ic : Nat) : mSeg (DD em mi ic) 130 3 = g130_3 := rfl
theorem lv130_3 (em mi ic : Nat) : mLive (DD em mi ic) 130 3 = [1, 0] := rfl
theorem sg130_4 (em mi ic : Nat) : mSeg (DD em mi ic) 130 4 = g130_4 := rfl
theorem lv130_4 (em mi ic : Nat) : mLive (DD em mi ic) 130 4 = [1, 0] := rfl
theorem sg130_5 (em mi ic : Nat) : mSeg (DD em mi ic) 130 5 = g130_5 := rfl
theorem lv130_5 (em mi ic : Nat) : mLive (DD em mi ic) 130 5 = [1, 0] := rfl
theorem sg130_6 (em mi ic : Nat) : mSeg (DD em mi ic) 130 6 = g130_6 := rfl
theorem lv130_6 (em mi ic : Nat) : mLive (DD em mi ic) 130 6 = [1, 0] := rfl
theorem sg130_7 (em mi ic : Nat) : mSeg (DD em mi ic) 130 7 = g130_7 := rfl
theorem lv130_7 (em mi ic : Nat) : mLive (DD em mi ic) 130 7 = [1, 0] := rfl
theorem sg130_8 (em mi ic : Nat) : mSeg (DD em mi ic) 130 8 = g130_8 := rfl
theorem lv130_8 (em mi ic : Nat) : mLive (DD em mi ic) 130 8 = [1, 0] := rfl
theorem sg130_9 (em mi ic : Nat) : mSeg (DD em mi ic) 130 9 = g130_9 := rfl
theorem lv130_9 (em mi ic : Nat) : mLive (DD em mi ic) 130 9 = [1, 0] := rfl
theorem sg130_10 (em mi ic : Nat) : mSeg (DD em mi ic) 130 10 = g130_10 := rfl
theorem lv130_10 (em mi ic : Nat) : mLive (DD em mi ic) 130 10 = [1, 0] := rfl
theorem sg130_11 (em mi ic : Nat) : mSeg (DD em mi ic) 130 11 = g130_11 := rfl
theorem lv130_11 (em mi ic : Nat) : mLive (DD em mi ic) 130 11 = [1, 0] := rfl
theorem sg130_12 (em mi ic : Nat) : mSeg (DD em mi ic) 130 12 = g130_12 := rfl
theorem lv130_12 (em mi ic : Nat) : mLive (DD em mi ic) 130 12 = [1, 0] := rfl
theorem sg130_13 (em mi ic : Nat) : mSeg (DD em mi ic) 130 13 = g130_13 := rfl
theorem lv130_13 (em mi ic : Nat) : mLive (DD em mi ic) 130 13 = [1, 0] := rfl
theorem sg130_14 (em mi ic : Nat) : mSeg (DD em mi ic) 130 14 = g130_14 := rfl
theorem lv130_14 (em mi ic : Nat) : mLive (DD em mi ic) 130 14 = [1, 0] := rfl
theorem sg130_15 (em mi ic : Nat) : mSeg (DD em mi ic) 130 15 = g130_15 := rfl
theorem lv130_15 (em mi ic : Nat) : mLive (DD em mi ic) 130 15 = [1, 0] := rfl
theorem sg130_16 (em mi ic : Nat) : mSeg (DD em mi ic) 130 16 = g130_16 := rfl
theorem lv130_16 (em mi ic : Nat) : mLive (DD em mi ic) 130 16 = [1, 0] := rfl
theorem sg130_17 (em mi ic : Nat) : mSeg (DD em mi ic) 130 17 = g130_17 := rfl
theorem lv130_17 (em mi ic : Nat) : mLive (DD em mi ic) 130 17 = [1, 0] := rfl
theorem sg130_18 (em mi ic : Nat) : mSeg (DD em mi ic) 130 18 = g130_18 := rfl
theorem lv130_18 (em mi ic : Nat) : mLive (DD em mi ic) 130 18 = [1, 0] := rfl
theorem sg130_19 (em mi ic : Nat) : mSeg (DD em mi ic) 130 19 = g130_19 := rfl
theorem lv130_19 (em mi ic : Nat) : mLive (DD em mi ic) 130 19 = [1, 0] := rfl
theorem sg130_20 (em mi ic : Nat) : mSeg (DD em mi ic) 130 20 = g130_20 := rfl
theorem lv130_20 (em mi ic : Nat) : mLive (DD em mi ic) 130 20 = [0, 0] := rfl
theorem bc_130 (em mi ic : Nat) : mBc (DD em mi ic) 130 = 0 := rfl
theorem bs_130 (em mi ic : Nat) : mBs (DD em mi ic) 130 = 0 := rfl
theorem rt_130 (em mi ic : Nat) : mRet (DD em mi ic) 130 = some .int := rfl
theorem ml_130 (em mi ic : Nat) : mMaxL (DD em mi ic) 130 = 2 := rfl
theorem sg131_0 (em mi ic : Nat) : mSeg (DD em mi ic) 131 0 = g131_0 := rfl
theorem lv131_0 (em mi ic : Nat) : mLive (DD em mi ic) 131 0 = [1, 1, 1, 0] := rfl
theorem sg131_1 (em mi ic : Nat) : mSeg (DD em mi ic) 131 1 = g131_1 := rfl
theorem lv131_1 (em mi ic : Nat) : mLive (DD em mi ic) 131 1 = [0, 0, 0, 0] := rfl
theorem sg131_2 (em mi ic : Nat) : mSeg (DD em mi ic) 131 2 = g131_2 := rfl
theorem lv131_2 (em mi ic : Nat) : mLive (DD em mi ic) 131 2 = [1, 1, 1, 0] := rfl
theorem sg131_3 (em mi ic : Nat) : mSeg (DD em mi ic) 131 3 = g131_3 := rfl
theorem lv131_3 (em mi ic : Nat) : mLive (DD em mi ic) 131 3 = [0, 0, 0, 1] := rfl
theorem sg131_4 (em mi ic : Nat) : mSeg (DD em mi ic) 131 4 = g131_4 := rfl
theorem lv131_4 (em mi ic : Nat) : mLive (DD em mi ic) 131 4 = [0, 0, 0, 1] := rfl
theorem sg131_5 (em mi ic : Nat) : mSeg (DD em mi ic) 131 5 = g131_5 := rfl
theorem lv131_5 (em mi ic : Nat) : mLive (DD em mi ic) 131 5 = [1, 0, 0, 1] := rfl
theorem sg131_6 (em mi ic : Nat) : mSeg (DD em mi ic) 131 6 = g131_6 := rfl
theorem lv131_6 (em mi ic : Nat) : mLive (DD em mi ic) 131 6 = [1, 0, 0, 1] := rfl
theorem sg131_7 (em mi ic : Nat) : mSeg (DD em mi ic) 131 7 = g131_7 := rfl
theorem lv131_7 (em mi ic : Nat) : mLive (DD em mi ic) 131 7 = [1, 0, 0, 1] := rfl
theorem sg131_8 (em mi ic : Nat) : mSeg (DD em mi ic) 131 8 = g131_8 := rfl
theorem lv131_8 (em mi ic : Nat) : mLive (DD em mi ic) 131 8 = [0, 0, 0, 0] := rfl
theorem bc_131 (em mi ic : Nat) : mBc (DD em mi ic) 131 = 0 := rfl
theorem bs_131 (em mi ic : Nat) : mBs (DD em mi ic) 131 = 0 := rfl
theorem rt_131 (em mi ic : Nat) : mRet (DD em mi ic) 131 = some .int := rfl
theorem ml_131 (em mi ic : Nat) : mMaxL (DD em mi ic) 131 = 4 := rfl
theorem sg132_0 (em mi ic : Nat) : mSeg (DD em mi ic) 132 0 = g132_0 := rfl
theorem lv132_0 (em mi ic : Nat) : mLive (DD em mi ic) 132 0 = [1, 1, 1, 0, 0] := rfl
theorem sg132_1 (em mi ic : Nat) : mSeg (DD em mi ic) 132 1 = g132_1 := rfl
theorem lv132_1 (em mi ic : Nat) : mLive (DD em mi ic) 132 1 = [0, 0, 0, 0, 0] := rfl
theorem sg132_2 (em mi ic : Nat) : mSeg (DD em mi ic) 132 2 = g132_2 := rfl
theorem lv132_2 (em mi ic : Nat) : mLive (DD em mi ic) 132 2 = [1, 1, 1, 0, 0] := rfl
theorem sg132_3 (em mi ic : Nat) : mSeg (DD em mi ic) 132 3 = g132_3 := rfl
theorem lv132_3 (em mi ic : Nat) : mLive (DD em mi ic) 132 3 = [0, 0, 0, 1, 0] := rfl
theorem sg132_4 (em mi ic : Nat) : mSeg (DD em mi ic) 132 4 = g132_4 := rfl
theorem lv132_4 (em mi ic : Nat) : mLive (DD em mi ic) 132 4 = [0, 0, 0, 1, 0] := rfl
theorem sg132_5 (em mi ic : Nat) : mSeg (DD em mi ic) 132 5 = g132_5 := rfl
theorem lv132_5 (em mi ic : Nat) : mLive (DD em mi ic) 132 5 = [0, 0, 0, 1, 0] := rfl
theorem sg132_6 (em mi ic : Nat) : mSeg (DD em mi ic) 132 6 = g132_6 := rfl
theorem lv132_6 (em mi ic : Nat) : mLive (DD em mi ic) 132 6 = [0, 0, 0, 1, 0] := rfl
theorem sg132_7 (em mi ic : Nat) : mSeg (DD em mi ic) 132 7 = g132_7 := rfl
theorem lv132_7 (em mi ic : Nat) : mLive (DD em mi ic) 132 7 = [1, 0, 0, 1, 0] := rfl
theorem sg132_8 (em mi ic : Nat) : mSeg (DD em mi ic) 132 8 = g132_8 := rfl
theorem lv132_8 (em mi ic : Nat) : mLive (DD em mi ic) 132 8 = [0, 0, 0, 0, 1] := rfl
theorem sg132_9 (em mi ic : Nat) : mSeg (DD em mi ic) 132 9 = g132_9 := rfl
theorem lv132_9 (em mi ic : Nat) : mLive (DD em mi ic) 132 9 = [0, 0, 0, 0, 0] := rfl
theorem sg132_10 (em mi ic : Nat) : mSeg (DD em mi ic) 132 10 = g132_10 := rfl
theorem lv132_10 (em mi ic : Nat) : mLive (DD em mi ic) 132 10 = [1, 1, 0, 0, 0] := rfl
theorem sg132_11 (em mi ic : Nat) : mSeg (DD em mi ic) 132 11 = g132_11 := rfl
theorem lv132_11 (em mi ic : Nat) : mLive (DD em mi ic) 132 11 = [0, 0, 0, 0, 0] := rfl
theorem bc_132 (em mi ic : Nat) : mBc (DD em mi ic) 132 = 0 := rfl
theorem bs_132 (em mi ic : Nat) : mBs (DD em mi ic) 132 = 0 := rfl
theorem rt_132 (em mi ic : Nat) : mRet (DD em mi ic) 132 = some .int := rfl
theorem ml_132 (em mi ic : Nat) : mMaxL (DD em mi ic) 132 = 5 := rfl
theorem sg133_0 (em mi ic : Nat) : mSeg (DD em mi ic) 133 0 = g133_0 := rfl
theorem lv133_0 (em mi ic : Nat) : mLive (DD em mi ic) 133 0 = [1, 1, 1, 0] := rfl
theorem sg133_1 (em mi ic : Nat) : mSeg (DD em mi ic) 133 1 = g133_1 := rfl
theorem lv133_1 (em mi ic : Nat) : mLive (DD em mi ic) 133 1 = [0, 0, 0, 0] := rfl
theorem sg133_2 (em mi ic : Nat) : mSeg (DD em mi ic) 133 2 = g133_2 := rfl
theorem lv133_2 (em mi ic : Nat) : mLive (DD em mi ic) 133 2 = [1, 1, 1, 0] := rfl
theorem sg133_3 (em mi ic : Nat) : mSeg (DD em mi ic) 133 3 = g133_3 := rfl
theorem lv133_3 (em mi ic : Nat) : mLive (DD em mi ic) 133 3 = [0, 0, 0, 1] := rfl
theorem sg133_4 (em mi ic : Nat) : mSeg (DD em mi ic) 133 4 = g133_4 := rfl
theorem lv133_4 (em mi ic : Nat) : mLive (DD em mi ic) 133 4 = [0, 0, 0, 1] := rfl
theorem sg133_5 (em mi ic : Nat) : mSeg (DD em mi ic) 133 5 = g133_5 := rfl
theorem lv133_5 (em mi ic : Nat) : mLive (DD em mi ic) 133 5 = [1, 0, 0, 1] := rfl
theorem sg133_6 (em mi ic : Nat) : mSeg (DD em mi ic) 133 6 = g133_6 := rfl
theorem lv133_6 (em mi ic : Nat) : mLive (DD em mi ic) 133 6 = [1, 0, 0, 1] := rfl
theorem sg133_7 (em mi ic : Nat) : mSeg (DD em mi ic) 133 7 = g133_7 := rfl
theorem lv133_7 (em mi ic : Nat) : mLive (DD em mi ic) 133 7 = [0, 0, 0, 0] := rfl
theorem bc_133 (em mi ic : Nat) : mBc (DD em mi ic) 133 = 0 := rfl
theorem bs_133 (em mi ic : Nat) : mBs (DD em mi ic) 133 = 0 := rfl
theorem rt_133 (em mi ic : Nat) : mRet (DD em mi ic) 133 = some .int := rfl
theorem ml_133 (em mi ic : Nat) : mMaxL (DD em mi ic) 133 = 4 := rfl
theorem sg134_0 (em mi ic : Nat) : mSeg (DD em mi ic) 134 0 = g134_0 := rfl
theorem lv134_0 (em mi ic : Nat) : mLive (DD em mi ic) 134 0 = [1, 1, 1, 0] := rfl
theorem sg134_1 (em mi ic : Nat) : mSeg (DD em mi ic) 134 1 = g134_1 := rfl
theorem lv134_1 (em mi ic : Nat) : mLive (DD em mi ic) 134 1 = [0, 0, 0, 0] := rfl
theorem sg134_2 (em mi ic : Nat) : mSeg (DD em mi ic) 134 2 = g134_2 := rfl
theorem lv134_2 (em mi ic : Nat) : mLive (DD em mi ic) 134 2 = [1, 1, 1, 0] := rfl
theorem sg134_3 (em mi ic : Nat) : mSeg (DD em mi ic) 134 3 = g134_3 := rfl
theorem lv134_3 (em mi ic : Nat) : mLive (DD em mi ic) 134 3 = [0, 0, 0, 1] := rfl
theorem sg134_4 (em mi ic : Nat) : mSeg (DD em mi ic) 134 4 = g134_4 := rfl
theorem lv134_4 (em mi ic : Nat) : mLive (DD em mi ic) 134 4 = [0, 0, 0, 1] := rfl
theorem sg134_5 (em mi ic : Nat) : mSeg (DD em mi ic) 134 5 = g134_5 := rfl
theorem lv134_5 (em mi ic : Nat) : mLive (DD em mi ic) 134 5 = [0, 0, 0, 0] := rfl
theorem bc_134 (em mi ic : Nat) : mBc (DD em mi ic) 134 = 0 := rfl
theorem bs_134 (em mi ic : Nat) : mBs (DD em mi ic) 134 = 0 := rfl
theorem rt_134 (em mi ic : Nat) : mRet (DD em mi ic) 134 = some .int := rfl
theorem ml_134 (em mi ic : Nat) : mMaxL (DD em mi ic) 134 = 4 := rfl
theorem sg135_0 (em mi ic : Nat) : mSeg (DD em mi ic) 135 0 = g135_0 := rfl
theorem lv135_0 (em mi ic : Nat) : mLive (DD em mi ic) 135 0 = [1, 1, 1] := rfl
theorem sg135_1 (em mi ic : Nat) : mSeg (DD em mi ic) 135 1 = g135_1 := rfl
theorem lv135_1 (em mi ic : Nat) : mLive (DD em mi ic) 135 1 = [0, 0, 0] := rfl
theorem sg135_2 (em mi ic : Nat) : mSeg (DD em mi ic) 135 2 = g135_2 := rfl
theorem lv135_2 (em mi ic : Nat) : mLive (DD em mi ic) 135 2 = [1, 1, 1] := rfl
theorem bc_135 (em mi ic : Nat) : mBc (DD em mi ic) 135 = 0 := rfl
theorem bs_135 (em mi ic : Nat) : mBs (DD em mi ic) 135 = 0 := rfl
theorem rt_135 (em mi ic : Nat) : mRet (DD em mi ic) 135 = some .int := rfl
theorem ml_135 (em mi ic : Nat) : mMaxL (DD em mi ic) 135 = 3 := rfl
theorem sg136_0 (em mi ic : Nat) : mSeg (DD em mi ic) 136 0 = g136_0 := rfl
theorem lv136_0 (em mi ic : Nat) : mLive (DD em mi ic) 136 0 = [1] := rfl
theorem bc_136 (em mi ic : Nat) : mBc (DD em mi ic) 136 = 0 := rfl
theorem bs_136 (em mi ic : Nat) : mBs (DD em mi ic) 136 = 0 := rfl
theorem rt_136 (em mi ic : Nat) : mRet (DD em mi ic) 136 = some .int := rfl
theorem ml_136 (em mi ic : Nat) : mMaxL (DD em mi ic) 136 = 1 := rfl
theorem sg137_0 (em mi ic : Nat) : mSeg (DD em mi ic) 137 0 = g137_0 := rfl
theorem lv137_0 (em mi ic : Nat) : mLive (DD em mi ic) 137 0 = [1] := rfl
theorem sg137_1 (em mi ic : Nat) : mSeg (DD em mi ic) 137 1 = g137_1 := rfl
theorem lv137_1 (em mi ic : Nat) : mLive (DD em mi ic) 137 1 = [0] := rfl
theorem sg137_2 (em mi ic : Nat) : mSeg (DD em mi ic) 137 2 = g137_2 := rfl
theorem lv137_2 (em mi ic : Nat) : mLive (DD em mi ic) 137 2 = [0] := rfl
theorem bc_137 (em mi ic : Nat) : mBc (DD em mi ic) 137 = 0 := rfl
theorem bs_137 (em mi ic : Nat) : mBs (DD em mi ic) 137 = 0 := rfl
theorem rt_137 (em mi ic : Nat) : mRet (DD em mi ic) 137 = some .int := rfl
theorem ml_137 (em mi ic : Nat) : mMaxL (DD em mi ic) 137 = 1 := rfl
theorem sg138_0 (em mi ic : Nat) : mSeg (DD em mi ic) 138 0 = g138_0 := rfl
theorem lv138_0 (em mi ic : Nat) : mLive (DD em mi ic) 138 0 = [1, 1, 0] := rfl
theorem bc_138 (em mi ic : Nat) : mBc (DD em mi ic) 138 = 0 := rfl
theorem bs_138 (em mi ic : Nat) : mBs (DD em mi ic) 138 = 0 := rfl
theorem rt_138 (em mi ic : Nat) : mRet (DD em mi ic) 138 = none := rfl
theorem ml_138 (em mi ic : Nat) : mMaxL (DD em mi ic) 138 = 3 := rfl
theorem sg139_0 (em mi ic : Nat) : mSeg (DD em mi ic) 139 0 = g139_0 := rfl
theorem lv139_0 (em mi ic : Nat) : mLive (DD em mi ic) 139 0 = [1] := rfl
theorem bc_139 (em mi ic : Nat) : mBc (DD em mi ic) 139 = 0 := rfl
theorem bs_139 (em mi ic : Nat) : mBs (DD em mi ic) 139 = 0 := rfl
theorem rt_139 (em mi ic : Nat) : mRet (DD em mi ic) 139 = none := rfl
theorem ml_139 (em mi ic : Nat) : mMaxL (DD em mi ic) 139 = 1 := rfl
theorem sg140_0 (em mi ic : Nat) : mSeg (DD em mi ic) 140 0 = g140_0 := rfl
theorem lv140_0 (em mi ic : Nat) : mLive (DD em mi ic) 140 0 = [1, 1, 1] := rfl
theorem sg140_1 (em mi ic : Nat) : mSeg (DD em mi ic) 140 1 = g140_1 := rfl
theorem lv140_1 (em mi ic : Nat) : mLive (DD em mi ic) 140 1 = [0, 0, 0] := rfl
theorem sg140_2 (em mi ic : Nat) : mSeg (DD em mi ic) 140 2 = g140_2 := rfl
theorem lv140_2 (em mi ic : Nat) : mLive (DD em mi ic) 140 2 = [0, 0, 0] := rfl
theorem bc_140 (em mi ic : Nat) : mBc (DD em mi ic) 140 = 0 := rfl
theorem bs_140 (em mi ic : Nat) : mBs (DD em mi ic) 140 = 0 := rfl
theorem rt_140 (em mi ic : Nat) : mRet (DD em mi ic) 140 = some .boolean := rfl
theorem ml_140 (em mi ic : Nat) : mMaxL (DD em mi ic) 140 = 3 := rfl
theorem sg141_0 (em mi ic : Nat) : mSeg (DD em mi ic) 141 0 = g141_0 := rfl
theorem lv141_0 (em mi ic : Nat) : mLive (DD em mi ic) 141 0 = [1, 1, 1, 1] := rfl
theorem bc_141 (em mi ic : Nat) : mBc (DD em mi ic) 141 = 0 := rfl
theorem bs_141 (em mi ic : Nat) : mBs (DD em mi ic) 141 = 0 := rfl
theorem rt_141 (em mi ic : Nat) : mRet (DD em mi ic) 141 = none := rfl
theorem ml_141 (em mi ic : Nat) : mMaxL (DD em mi ic) 141 = 4 := rfl
theorem sg142_0 (em mi ic : Nat) : mSeg (DD em mi ic) 142 0 = g142_0 := rfl
theorem lv142_0 (em mi ic : Nat) : mLive (DD em mi ic) 142 0 = [1, 1, 1, 1] := rfl
theorem sg142_1 (em mi ic : Nat) : mSeg (DD em mi ic) 142 1 = g142_1 := rfl
theorem lv142_1 (em mi ic : Nat) : mLive (DD em mi ic) 142 1 = [1, 1, 1, 1] := rfl
theorem bc_142 (em mi ic : Nat) : mBc (DD em mi ic) 142 = 1 := rfl
theorem bs_142 (em mi ic : Nat) : mBs (DD em mi ic) 142 = 15 := rfl
theorem rt_142 (em mi ic : Nat) : mRet (DD em mi ic) 142 = none := rfl
theorem ml_142 (em mi ic : Nat) : mMaxL (DD em mi ic) 142 = 4 := rfl
theorem sg143_0 (em mi ic : Nat) : mSeg (DD em mi ic) 143 0 = g143_0 := rfl
theorem lv143_0 (em mi ic : Nat) : mLive (DD em mi ic) 143 0 = [1, 1, 1, 1] := rfl
theorem bc_143 (em mi ic : Nat) : mBc (DD em mi ic) 143 = 0 := rfl
theorem bs_143 (em mi ic : Nat) : mBs (DD em mi ic) 143 = 0 := rfl
theorem rt_143 (em mi ic : Nat) : mRet (DD em mi ic) 143 = none := rfl
theorem ml_143 (em mi ic : Nat) : mMaxL (DD em mi ic) 143 = 4 := rfl
theorem sg144_0 (em mi ic : Nat) : mSeg (DD em mi ic) 144 0 = g144_0 := rfl
theorem lv144_0 (em mi ic : Nat) : mLive (DD em mi ic) 144 0 = [1, 0] := rfl
theorem sg144_1 (em mi ic : Nat) : mSeg (DD em mi ic) 144 1 = g144_1 := rfl
theorem lv144_1 (em mi ic : Nat) : mLive (DD em mi ic) 144 1 = [1, 1] := rfl
theorem sg144_2 (em mi ic : Nat) : mSeg (DD em mi ic) 144 2 = g144_2 := rfl
theorem lv144_2 (em mi ic : Nat) : mLive (DD em mi ic) 144 2 = [1, 0] := rfl
theorem sg144_3 (em mi ic : Nat) : mSeg (DD em mi ic) 144 3 = g144_3 := rfl
theorem lv144_3 (em mi ic : Nat) : mLive (DD em mi ic) 144 3 = [1, 1] := rfl
theorem sg144_4 (em mi ic : Nat) : mSeg (DD em mi ic) 144 4 = g144_4 := rfl
theorem lv144_4 (em mi ic : Nat) : mLive (DD em mi ic) 144 4 = [0, 0] := rfl
theorem bc_144 (em mi ic : Nat) : mBc (DD em mi ic) 144 = 0 := rfl
theorem bs_144 (em mi ic : Nat) : mBs (DD em mi ic) 144 = 0 := rfl
theorem rt_144 (em mi ic : Nat) : mRet (DD em mi ic) 144 = none := rfl
theorem ml_144 (em mi ic : Nat) : mMaxL (DD em mi ic) 144 = 2 := rfl
theorem sg145_0 (em mi ic : Nat) : mSeg (DD em mi ic) 145 0 = g145_0 := rfl
theorem lv145_0 (em mi ic : Nat) : mLive (DD em mi ic) 145 0 = [1, 1] := rfl
theorem bc_145 (em mi ic : Nat) : mBc (DD em mi ic) 145 = 0 := rfl
theorem bs_145 (em mi ic : Nat) : mBs (DD em mi ic) 145 = 0 := rfl
theorem rt_145 (em mi ic : Nat) : mRet (DD em mi ic) 145 = some .int := rfl
theorem ml_145 (em mi ic : Nat) : mMaxL (DD em mi ic) 145 = 2 := rfl
theorem sg146_0 (em mi ic : Nat) : mSeg (DD em mi ic) 146 0 = g146_0 := rfl
theorem lv146_0 (em mi ic : Nat) : mLive (DD em mi ic) 146 0 = [1, 1] := rfl
theorem bc_146 (em mi ic : Nat) : mBc (DD em mi ic) 146 = 0 := rfl
theorem bs_146 (em mi ic : Nat) : mBs (DD em mi ic) 146 = 0 := rfl
theorem rt_146 (em mi ic : Nat) : mRet (DD em mi ic) 146 = some (.object "java/lang/Object") := rfl
theorem ml_146 (em mi ic : Nat) : mMaxL (DD em mi ic) 146 = 2 := rfl
theorem sg147_0 (em mi ic : Nat) : mSeg (DD em mi ic) 147 0 = g147_0 := rfl
theorem lv147_0 (em mi ic : Nat) : mLive (DD em mi ic) 147 0 = [1, 1, 1, 1, 1] := rfl
theorem bc_147 (em mi ic : Nat) : mBc (DD em mi ic) 147 = 0 := rfl
theorem bs_147 (em mi ic : Nat) : mBs (DD em mi ic) 147 = 0 := rfl
theorem rt_147 (em mi ic : Nat) : mRet (DD em mi ic) 147 = none := rfl
theorem ml_147 (em mi ic : Nat) : mMaxL (DD em mi ic) 147 = 5 := rfl
theorem sg148_0 (em mi ic : Nat) : mSeg (DD em mi ic) 148 0 = g148_0 := rfl
theorem lv148_0 (em mi ic : Nat) : mLive (DD em mi ic) 148 0 = [1, 1] := rfl
theorem sg148_1 (em mi ic : Nat) : mSeg (DD em mi ic) 148 1 = g148_1 := rfl
theorem lv148_1 (em mi ic : Nat) : mLive (DD em mi ic) 148 1 = [0, 0] := rfl
theorem sg148_2 (em mi ic : Nat) : mSeg (DD em mi ic) 148 2 = g148_2 := rfl
theorem lv148_2 (em mi ic : Nat) : mLive (DD em mi ic) 148 2 = [0, 0] := rfl
theorem bc_148 (em mi ic : Nat) : mBc (DD em mi ic) 148 = 0 := rfl
theorem bs_148 (em mi ic : Nat) : mBs (DD em mi ic) 148 = 0 := rfl
theorem rt_148 (em mi ic : Nat) : mRet (DD em mi ic) 148 = some .boolean := rfl
theorem ml_148 (em mi ic : Nat) : mMaxL (DD em mi ic) 148 = 2 := rfl
theorem sg149_0 (em mi ic : Nat) : mSeg (DD em mi ic) 149 0 = g149_0 := rfl
theorem lv149_0 (em mi ic : Nat) : mLive (DD em mi ic) 149 0 = [1] := rfl
theorem bc_149 (em mi ic : Nat) : mBc (DD em mi ic) 149 = 0 := rfl
theorem bs_149 (em mi ic : Nat) : mBs (DD em mi ic) 149 = 0 := rfl
theorem rt_149 (em mi ic : Nat) : mRet (DD em mi ic) 149 = none := rfl
theorem ml_149 (em mi ic : Nat) : mMaxL (DD em mi ic) 149 = 1 := rfl
theorem sg150_0 (em mi ic : Nat) : mSeg (DD em mi ic) 150 0 = g150_0 := rfl
theorem lv150_0 (em mi ic : Nat) : mLive (DD em mi ic) 150 0 = [1, 0, 0, 0] := rfl
theorem sg150_1 (em mi ic : Nat) : mSeg (DD em mi ic) 150 1 = g150_1 := rfl
theorem lv150_1 (em mi ic : Nat) : mLive (DD em mi ic) 150 1 = [1, 1, 1, 0] := rfl
theorem sg150_2 (em mi ic : Nat) : mSeg (DD em mi ic) 150 2 = g150_2 := rfl
theorem lv150_2 (em mi ic : Nat) : mLive (DD em mi ic) 150 2 = [1, 1, 1, 0] := rfl
theorem sg150_3 (em mi ic : Nat) : mSeg (DD em mi ic) 150 3 = g150_3 := rfl
theorem lv150_3 (em mi ic : Nat) : mLive (DD em mi ic) 150 3 = [0, 1, 0, 0] := rfl
theorem bc_150 (em mi ic : Nat) : mBc (DD em mi ic) 150 = 0 := rfl
theorem bs_150 (em mi ic : Nat) : mBs (DD em mi ic) 150 = 0 := rfl
theorem rt_150 (em mi ic : Nat) : mRet (DD em mi ic) 150 = some .int := rfl
theorem ml_150 (em mi ic : Nat) : mMaxL (DD em mi ic) 150 = 4 := rfl
theorem sg151_0 (em mi ic : Nat) : mSeg (DD em mi ic) 151 0 = g151_0 := rfl
theorem lv151_0 (em mi ic : Nat) : mLive (DD em mi ic) 151 0 = [1, 1, 0, 0] := rfl
theorem sg151_1 (em mi ic : Nat) : mSeg (DD em mi ic) 151 1 = g151_1 := rfl
theorem lv151_1 (em mi ic : Nat) : mLive (DD em mi ic) 151 1 = [1, 1, 1, 0] := rfl
theorem sg151_2 (em mi ic : Nat) : mSeg (DD em mi ic) 151 2 = g151_2 := rfl
theorem lv151_2 (em mi ic : Nat) : mLive (DD em mi ic) 151 2 = [1, 1, 1, 0] := rfl
theorem sg151_3 (em mi ic : Nat) : mSeg (DD em mi ic) 151 3 = g151_3 := rfl
theorem lv151_3 (em mi ic : Nat) : mLive (DD em mi ic) 151 3 = [0, 0, 0, 0] := rfl
theorem bc_151 (em mi ic : Nat) : mBc (DD em mi ic) 151 = 0 := rfl
theorem bs_151 (em mi ic : Nat) : mBs (DD em mi ic) 151 = 0 := rfl
theorem rt_151 (em mi ic : Nat) : mRet (DD em mi ic) 151 = none := rfl
theorem ml_151 (em mi ic : Nat) : mMaxL (DD em mi ic) 151 = 4 := rfl
theorem sg152_0 (em mi ic : Nat) : mSeg (DD em mi ic) 152 0 = g152_0 := rfl
theorem lv152_0 (em mi ic : Nat) : mLive (DD em mi ic) 152 0 = [1, 1] := rfl
theorem sg152_1 (em mi ic : Nat) : mSeg (DD em mi ic) 152 1 = g152_1 := rfl
theorem lv152_1 (em mi ic : Nat) : mLive (DD em mi ic) 152 1 = [0, 1] := rfl
theorem sg152_2 (em mi ic : Nat) : mSeg (DD em mi ic) 152 2 = g152_2 := rfl
theorem lv152_2 (em mi ic : Nat) : mLive (DD em mi ic) 152 2 = [0, 0] := rfl
theorem bc_152 (em mi ic : Nat) : mBc (DD em mi ic) 152 = 0 := rfl
theorem bs_152 (em mi ic : Nat) : mBs (DD em mi ic) 152 = 0 := rfl
theorem rt_152 (em mi ic : Nat) : mRet (DD em mi ic) 152 = some .int := rfl
theorem ml_152 (em mi ic : Nat) : mMaxL (DD em mi ic) 152 = 2 := rfl
theorem sg153_0 (em mi ic : Nat) : mSeg (DD em mi ic) 153 0 = g153_0 := rfl
theorem lv153_0 (em mi ic : Nat) : mLive (DD em mi ic) 153 0 = [1, 1, 1] := rfl
theorem bc_153 (em mi ic : Nat) : mBc (DD em mi ic) 153 = 0 := rfl
theorem bs_153 (em mi ic : Nat) : mBs (DD em mi ic) 153 = 0 := rfl
theorem rt_153 (em mi ic : Nat) : mRet (DD em mi ic) 153 = none := rfl
theorem ml_153 (em mi ic : Nat) : mMaxL (DD em mi ic) 153 = 3 := rfl
theorem sg154_0 (em mi ic : Nat) : mSeg (DD em mi ic) 154 0 = g154_0 := rfl
theorem lv154_0 (em mi ic : Nat) : mLive (DD em mi ic) 154 0 = [1, 1, 0, 0, 0, 0] := rfl
theorem sg154_1 (em mi ic : Nat) : mSeg (DD em mi ic) 154 1 = g154_1 := rfl
theorem lv154_1 (em mi ic : Nat) : mLive (DD em mi ic) 154 1 = [1, 1, 1, 1, 0, 0] := rfl
theorem sg154_2 (em mi ic : Nat) : mSeg (DD em mi ic) 154 2 = g154_2 := rfl
theorem lv154_2 (em mi ic : Nat) : mLive (DD em mi ic) 154 2 = [1, 1, 1, 1, 0, 0] := rfl
theorem sg154_3 (em mi ic : Nat) : mSeg (DD em mi ic) 154 3 = g154_3 := rfl
theorem lv154_3 (em mi ic : Nat) : mLive (DD em mi ic) 154 3 = [1, 1, 1, 0, 0, 0] := rfl
theorem bc_154 (em mi ic : Nat) : mBc (DD em mi ic) 154 = 0 := rfl
theorem bs_154 (em mi ic : Nat) : mBs (DD em mi ic) 154 = 0 := rfl
theorem rt_154 (em mi ic : Nat) : mRet (DD em mi ic) 154 = some .int := rfl
theorem ml_154 (em mi ic : Nat) : mMaxL (DD em mi ic) 154 = 6 := rfl
theorem sg155_0 (em mi ic : Nat) : mSeg (DD em mi ic) 155 0 = g155_0 := rfl
theorem lv155_0 (em mi ic : Nat) : mLive (DD em mi ic) 155 0 = [1, 1] := rfl
theorem bc_155 (em mi ic : Nat) : mBc (DD em mi ic) 155 = 0 := rfl
theorem bs_155 (em mi ic : Nat) : mBs (DD em mi ic) 155 = 0 := rfl
theorem rt_155 (em mi ic : Nat) : mRet (DD em mi ic) 155 = none := rfl
theorem ml_155 (em mi ic : Nat) : mMaxL (DD em mi ic) 155 = 2 := rfl
theorem sg156_0 (em mi ic : Nat) : mSeg (DD em mi ic) 156 0 = g156_0 := rfl
theorem lv156_0 (em mi ic : Nat) : mLive (DD em mi ic) 156 0 = [1] := rfl
theorem sg156_1 (em mi ic : Nat) : mSeg (DD em mi ic) 156 1 = g156_1 := rfl
theorem lv156_1 (em mi ic : Nat) : mLive (DD em mi ic) 156 1 = [0] := rfl
theorem bc_156 (em mi ic : Nat) : mBc (DD em mi ic) 156 = 0 := rfl
theorem bs_156 (em mi ic : Nat) : mBs (DD em mi ic) 156 = 0 := rfl
theorem rt_156 (em mi ic : Nat) : mRet (DD em mi ic) 156 = none := rfl
theorem ml_156 (em mi ic : Nat) : mMaxL (DD em mi ic) 156 = 1 := rfl
theorem sg157_0 (em mi ic : Nat) : mSeg (DD em mi ic) 157 0 = g157_0 := rfl
theorem lv157_0 (em mi ic : Nat) : mLive (DD em mi ic) 157 0 = [1, 0, 0] := rfl
theorem sg157_1 (em mi ic : Nat) : mSeg (DD em mi ic) 157 1 = g157_1 := rfl
theorem lv157_1 (em mi ic : Nat) : mLive (DD em mi ic) 157 1 = [0, 0, 0] := rfl
theorem sg157_2 (em mi ic : Nat) : mSeg (DD em mi ic) 157 2 = g157_2 := rfl
theorem lv157_2 (em mi ic : Nat) : mLive (DD em mi ic) 157 2 = [1, 0, 0] := rfl
theorem sg157_3 (em mi ic : Nat) : mSeg (DD em mi ic) 157 3 = g157_3 := rfl
theorem lv157_3 (em mi ic : Nat) : mLive (DD em mi ic) 157 3 = [0, 1, 1] := rfl
theorem sg157_4 (em mi ic : Nat) : mSeg (DD em mi ic) 157 4 = g157_4 := rfl
theorem lv157_4 (em mi ic : Nat) : mLive (DD em mi ic) 157 4 = [0, 1, 1] := rfl
theorem sg157_5 (em mi ic : Nat) : mSeg (DD em mi ic) 157 5 = g157_5 := rfl
theorem lv157_5 (em mi ic : Nat) : mLive (DD em mi ic) 157 5 = [0, 0, 0] := rfl
theorem bc_157 (em mi ic : Nat) : mBc (DD em mi ic) 157 = 0 := rfl
theorem bs_157 (em mi ic : Nat) : mBs (DD em mi ic) 157 = 0 := rfl
theorem rt_157 (em mi ic : Nat) : mRet (DD em mi ic) 157 = some .boolean := rfl
theorem ml_157 (em mi ic : Nat) : mMaxL (DD em mi ic) 157 = 3 := rfl
theorem sg158_0 (em mi ic : Nat) : mSeg (DD em mi ic) 158 0 = g158_0 := rfl
theorem lv158_0 (em mi ic : Nat) : mLive (DD em mi ic) 158 0 = [1, 1] := rfl
theorem bc_158 (em mi ic : Nat) : mBc (DD em mi ic) 158 = 0 := rfl
theorem bs_158 (em mi ic : Nat) : mBs (DD em mi ic) 158 = 0 := rfl
theorem rt_158 (em mi ic : Nat) : mRet (DD em mi ic) 158 = none := rfl
theorem ml_158 (em mi ic : Nat) : mMaxL (DD em mi ic) 158 = 2 := rfl
theorem sg159_0 (em mi ic : Nat) : mSeg (DD em mi ic) 159 0 = g159_0 := rfl
theorem lv159_0 (em mi ic : Nat) : mLive (DD em mi ic) 159 0 = [1, 1] := rfl
theorem bc_159 (em mi ic : Nat) : mBc (DD em mi ic) 159 = 0 := rfl
theorem bs_159 (em mi ic : Nat) : mBs (DD em mi ic) 159 = 0 := rfl
theorem rt_159 (em mi ic : Nat) : mRet (DD em mi ic) 159 = none := rfl
theorem ml_159 (em mi ic : Nat) : mMaxL (DD em mi ic) 159 = 2 := rfl
theorem sg160_0 (em mi ic : Nat) : mSeg (DD em mi ic) 160 0 = g160_0 := rfl
theorem lv160_0 (em mi ic : Nat) : mLive (DD em mi ic) 160 0 = [1] := rfl
theorem bc_160 (em mi ic : Nat) : mBc (DD em mi ic) 160 = 0 := rfl
theorem bs_160 (em mi ic : Nat) : mBs (DD em mi ic) 160 = 0 := rfl
theorem rt_160 (em mi ic : Nat) : mRet (DD em mi ic) 160 = some .int := rfl
theorem ml_160 (em mi ic : Nat) : mMaxL (DD em mi ic) 160 = 1 := rfl
theorem sg161_0 (em mi ic : Nat) : mSeg (DD em mi ic) 161 0 = g161_0 := rfl
theorem lv161_0 (em mi ic : Nat) : mLive (DD em mi ic) 161 0 = [1] := rfl
theorem bc_161 (em mi ic : Nat) : mBc (DD em mi ic) 161 = 0 := rfl
theorem bs_161 (em mi ic : Nat) : mBs (DD em mi ic) 161 = 0 := rfl
theorem rt_161 (em mi ic : Nat) : mRet (DD em mi ic) 161 = some .int := rfl
theorem ml_161 (em mi ic : Nat) : mMaxL (DD em mi ic) 161 = 1 := rfl
theorem sg162_0 (em mi ic : Nat) : mSeg (DD em mi ic) 162 0 = g162_0 := rfl
theorem lv162_0 (em mi ic : Nat) : mLive (DD em mi ic) 162 0 = [1, 1] := rfl
theorem sg162_1 (em mi ic : Nat) : mSeg (DD em mi ic) 162 1 = g162_1 := rfl
theorem lv162_1 (em mi ic : Nat) : mLive (DD em mi ic) 162 1 = [1, 1] := rfl
theorem sg162_2 (em mi ic : Nat) : mSeg (DD em mi ic) 162 2 = g162_2 := rfl
theorem lv162_2 (em mi ic : Nat) : mLive (DD em mi ic) 162 2 = [1, 1] := rfl
theorem bc_162 (em mi ic : Nat) : mBc (DD em mi ic) 162 = 0 := rfl
theorem bs_162 (em mi ic : Nat) : mBs (DD em mi ic) 162 = 0 := rfl
theorem rt_162 (em mi ic : Nat) : mRet (DD em mi ic) 162 = some .int := rfl
theorem ml_162 (em mi ic : Nat) : mMaxL (DD em mi ic) 162 = 2 := rfl
theorem sg163_0 (em mi ic : Nat) : mSeg (DD em mi ic) 163 0 = g163_0 := rfl
theorem lv163_0 (em mi ic : Nat) : mLive (DD em mi ic) 163 0 = [1, 1, 0, 0, 0] := rfl
theorem sg163_1 (em mi ic : Nat) : mSeg (DD em mi ic) 163 1 = g163_1 := rfl
theorem lv163_1 (em mi ic : Nat) : mLive (DD em mi ic) 163 1 = [1, 1, 1, 1, 0] := rfl
theorem sg163_2 (em mi ic : Nat) : mSeg (DD em mi ic) 163 2 = g163_2 := rfl
theorem lv163_2 (em mi ic : Nat) : mLive (DD em mi ic) 163 2 = [1, 1, 0, 1, 0] := rfl
theorem sg163_3 (em mi ic : Nat) : mSeg (DD em mi ic) 163 3 = g163_3 := rfl
theorem lv163_3 (em mi ic : Nat) : mLive (DD em mi ic) 163 3 = [1, 1, 0, 1, 0] := rfl
theorem sg163_4 (em mi ic : Nat) : mSeg (DD em mi ic) 163 4 = g163_4 := rfl
theorem lv163_4 (em mi ic : Nat) : mLive (DD em mi ic) 163 4 = [0, 0, 1, 0, 0] := rfl
theorem bc_163 (em mi ic : Nat) : mBc (DD em mi ic) 163 = 0 := rfl
theorem bs_163 (em mi ic : Nat) : mBs (DD em mi ic) 163 = 0 := rfl
theorem rt_163 (em mi ic : Nat) : mRet (DD em mi ic) 163 = some .int := rfl
theorem ml_163 (em mi ic : Nat) : mMaxL (DD em mi ic) 163 = 5 := rfl
theorem sg164_0 (em mi ic : Nat) : mSeg (DD em mi ic) 164 0 = g164_0 := rfl
theorem lv164_0 (em mi ic : Nat) : mLive (DD em mi ic) 164 0 = [1, 1, 0] := rfl
theorem sg164_1 (em mi ic : Nat) : mSeg (DD em mi ic) 164 1 = g164_1 := rfl
theorem lv164_1 (em mi ic : Nat) : mLive (DD em mi ic) 164 1 = [1, 0, 1] := rfl
theorem sg164_2 (em mi ic : Nat) : mSeg (DD em mi ic) 164 2 = g164_2 := rfl
theorem lv164_2 (em mi ic : Nat) : mLive (DD em mi ic) 164 2 = [1, 0, 1] := rfl
theorem sg164_3 (em mi ic : Nat) : mSeg (DD em mi ic) 164 3 = g164_3 := rfl
theorem lv164_3 (em mi ic : Nat) : mLive (DD em mi ic) 164 3 = [0, 0, 0] := rfl
theorem bc_164 (em mi ic : Nat) : mBc (DD em mi ic) 164 = 0 := rfl
theorem bs_164 (em mi ic : Nat) : mBs (DD em mi ic) 164 = 0 := rfl
theorem rt_164 (em mi ic : Nat) : mRet (DD em mi ic) 164 = some .int := rfl
theorem ml_164 (em mi ic : Nat) : mMaxL (DD em mi ic) 164 = 3 := rfl
theorem sg165_0 (em mi ic : Nat) : mSeg (DD em mi ic) 165 0 = g165_0 := rfl
theorem lv165_0 (em mi ic : Nat) : mLive (DD em mi ic) 165 0 = [1, 1, 1, 0, 0, 0] := rfl
theorem sg165_1 (em mi ic : Nat) : mSeg (DD em mi ic) 165 1 = g165_1 := rfl
theorem lv165_1 (em mi ic : Nat) : mLive (DD em mi ic) 165 1 = [0, 1, 1, 1, 1, 0] := rfl
theorem sg165_2 (em mi ic : Nat) : mSeg (DD em mi ic) 165 2 = g165_2 := rfl
theorem lv165_2 (em mi ic : Nat) : mLive (DD em mi ic) 165 2 = [0, 1, 1, 0, 1, 0] := rfl
theorem sg165_3 (em mi ic : Nat) : mSeg (DD em mi ic) 165 3 = g165_3 := rfl
theorem lv165_3 (em mi ic : Nat) : mLive (DD em mi ic) 165 3 = [0, 1, 1, 0, 1, 0] := rfl
theorem sg165_4 (em mi ic : Nat) : mSeg (DD em mi ic) 165 4 = g165_4 := rfl
theorem lv165_4 (em mi ic : Nat) : mLive (DD em mi ic) 165 4 = [0, 1, 1, 0, 1, 0] := rfl
theorem sg165_5 (em mi ic : Nat) : mSeg (DD em mi ic) 165 5 = g165_5 := rfl
theorem lv165_5 (em mi ic : Nat) : mLive (DD em mi ic) 165 5 = [0, 0, 0, 1, 0, 0] := rfl
theorem bc_165 (em mi ic : Nat) : mBc (DD em mi ic) 165 = 1 := rfl
theorem bs_165 (em mi ic : Nat) : mBs (DD em mi ic) 165 = 4 := rfl
theorem rt_165 (em mi ic : Nat) : mRet (DD em mi ic) 165 = some .int := rfl
theorem ml_165 (em mi ic : Nat) : mMaxL (DD em mi ic) 165 = 6 := rfl
theorem sg166_0 (em mi ic : Nat) : mSeg (DD em mi ic) 166 0 = g166_0 := rfl
theorem lv166_0 (em mi ic : Nat) : mLive (DD em mi ic) 166 0 = [1, 1] := rfl
theorem sg166_1 (em mi ic : Nat) : mSeg (DD em mi ic) 166 1 = g166_1 := rfl
theorem lv166_1 (em mi ic : Nat) : mLive (DD em mi ic) 166 1 = [0, 0] := rfl
theorem sg166_2 (em mi ic : Nat) : mSeg (DD em mi ic) 166 2 = g166_2 := rfl
theorem lv166_2 (em mi ic : Nat) : mLive (DD em mi ic) 166 2 = [0, 0] := rfl
theorem bc_166 (em mi ic : Nat) : mBc (DD em mi ic) 166 = 0 := rfl
theorem bs_166 (em mi ic : Nat) : mBs (DD em mi ic) 166 = 0 := rfl
theorem rt_166 (em mi ic : Nat) : mRet (DD em mi ic) 166 = some (.object "Twelvehundred$Hall") := rfl
theorem ml_166 (em mi ic : Nat) : mMaxL (DD em mi ic) 166 = 2 := rfl
theorem sg167_0 (em mi ic : Nat) : mSeg (DD em mi ic) 167 0 = g167_0 := rfl
theorem lv167_0 (em mi ic : Nat) : mLive (DD em mi ic) 167 0 = [1, 1] := rfl
theorem sg167_1 (em mi ic : Nat) : mSeg (DD em mi ic) 167 1 = g167_1 := rfl
theorem lv167_1 (em mi ic : Nat) : mLive (DD em mi ic) 167 1 = [0, 0] := rfl
theorem sg167_2 (em mi ic : Nat) : mSeg (DD em mi ic) 167 2 = g167_2 := rfl
theorem lv167_2 (em mi ic : Nat) : mLive (DD em mi ic) 167 2 = [0, 0] := rfl
theorem bc_167 (em mi ic : Nat) : mBc (DD em mi ic) 167 = 0 := rfl
theorem bs_167 (em mi ic : Nat) : mBs (DD em mi ic) 167 = 0 := rfl
theorem rt_167 (em mi ic : Nat) : mRet (DD em mi ic) 167 = some .boolean := rfl
theorem ml_167 (em mi ic : Nat) : mMaxL (DD em mi ic) 167 = 2 := rfl
theorem sg168_0 (em mi ic : Nat) : mSeg (DD em mi ic) 168 0 = g168_0 := rfl
theorem lv168_0 (em mi ic : Nat) : mLive (DD em mi ic) 168 0 = [1, 0, 0, 0, 0, 0] := rfl
theorem sg168_1 (em mi ic : Nat) : mSeg (DD em mi ic) 168 1 = g168_1 := rfl
theorem lv168_1 (em mi ic : Nat) : mLive (DD em mi ic) 168 1 = [1, 1, 1, 1, 0, 0] := rfl
theorem sg168_2 (em mi ic : Nat) : mSeg (DD em mi ic) 168 2 = g168_2 := rfl
theorem lv168_2 (em mi ic : Nat) : mLive (DD em mi ic) 168 2 = [1, 1, 1, 0, 0, 0] := rfl
theorem sg168_3 (em mi ic : Nat) : mSeg (DD em mi ic) 168 3 = g168_3 := rfl
theorem lv168_3 (em mi ic : Nat) : mLive (DD em mi ic) 168 3 = [1, 1, 1, 1, 0, 0] := rfl
theorem sg168_4 (em mi ic : Nat) : mSeg (DD em mi ic) 168 4 = g168_4 := rfl
theorem lv168_4 (em mi ic : Nat) : mLive (DD em mi ic) 168 4 = [1, 1, 1, 0, 0, 0] := rfl
theorem sg168_5 (em mi ic : Nat) : mSeg (DD em mi ic) 168 5 = g168_5 := rfl
theorem lv168_5 (em mi ic : Nat) : mLive (DD em mi ic) 168 5 = [1, 1, 1, 1, 0, 0] := rfl
theorem sg168_6 (em mi ic : Nat) : mSeg (DD em mi ic) 168 6 = g168_6 := rfl
theorem lv168_6 (em mi ic : Nat) : mLive (DD em mi ic) 168 6 = [1, 1, 1, 1, 1, 1] := rfl
theorem sg168_7 (em mi ic : Nat) : mSeg (DD em mi ic) 168 7 = g168_7 := rfl
theorem lv168_7 (em mi ic : Nat) : mLive (DD em mi ic) 168 7 = [1, 1, 1, 1, 0, 1] := rfl
theorem sg168_8 (em mi ic : Nat) : mSeg (DD em mi ic) 168 8 = g168_8 := rfl
theorem lv168_8 (em mi ic : Nat) : mLive (DD em mi ic) 168 8 = [1, 1, 1, 1, 1, 1] := rfl
theorem sg168_9 (em mi ic : Nat) : mSeg (DD em mi ic) 168 9 = g168_9 := rfl
theorem lv168_9 (em mi ic : Nat) : mLive (DD em mi ic) 168 9 = [1, 1, 1, 1, 1, 0] := rfl
theorem sg168_10 (em mi ic : Nat) : mSeg (DD em mi ic) 168 10 = g168_10 := rfl
theorem lv168_10 (em mi ic : Nat) : mLive (DD em mi ic) 168 10 = [1, 1, 1, 1, 1, 1] := rfl
theorem sg168_11 (em mi ic : Nat) : mSeg (DD em mi ic) 168 11 = g168_11 := rfl
theorem lv168_11 (em mi ic : Nat) : mLive (DD em mi ic) 168 11 = [1, 1, 1, 1, 1, 1] := rfl
theorem sg168_12 (em mi ic : Nat) : mSeg (DD em mi ic) 168 12 = g168_12 := rfl
theorem lv168_12 (em mi ic : Nat) : mLive (DD em mi ic) 168 12 = [1, 1, 1, 1, 1, 0] := rfl
theorem sg168_13 (em mi ic : Nat) : mSeg (DD em mi ic) 168 13 = g168_13 := rfl
theorem lv168_13 (em mi ic : Nat) : mLive (DD em mi ic) 168 13 = [1, 1, 1, 1, 0, 0] := rfl
theorem sg168_14 (em mi ic : Nat) : mSeg (DD em mi ic) 168 14 = g168_14 := rfl
theorem lv168_14 (em mi ic : Nat) : mLive (DD em mi ic) 168 14 = [0, 1, 0, 0, 0, 0] := rfl
theorem bc_168 (em mi ic : Nat) : mBc (DD em mi ic) 168 = 2 := rfl
theorem bs_168 (em mi ic : Nat) : mBs (DD em mi ic) 168 = 9 := rfl
theorem rt_168 (em mi ic : Nat) : mRet (DD em mi ic) 168 = some (.array .int) := rfl
theorem ml_168 (em mi ic : Nat) : mMaxL (DD em mi ic) 168 = 6 := rfl
theorem sg169_0 (em mi ic : Nat) : mSeg (DD em mi ic) 169 0 = g169_0 := rfl
theorem lv169_0 (em mi ic : Nat) : mLive (DD em mi ic) 169 0 = [1, 1, 0, 0] := rfl
theorem sg169_1 (em mi ic : Nat) : mSeg (DD em mi ic) 169 1 = g169_1 := rfl
theorem lv169_1 (em mi ic : Nat) : mLive (DD em mi ic) 169 1 = [1, 1, 1, 1] := rfl
theorem sg169_2 (em mi ic : Nat) : mSeg (DD em mi ic) 169 2 = g169_2 := rfl
theorem lv169_2 (em mi ic : Nat) : mLive (DD em mi ic) 169 2 = [1, 1, 1, 1] := rfl
theorem sg169_3 (em mi ic : Nat) : mSeg (DD em mi ic) 169 3 = g169_3 := rfl
theorem lv169_3 (em mi ic : Nat) : mLive (DD em mi ic) 169 3 = [0, 0, 1, 0] := rfl
theorem bc_169 (em mi ic : Nat) : mBc (DD em mi ic) 169 = 0 := rfl
theorem bs_169 (em mi ic : Nat) : mBs (DD em mi ic) 169 = 0 := rfl
theorem rt_169 (em mi ic : Nat) : mRet (DD em mi ic) 169 = some .int := rfl
theorem ml_169 (em mi ic : Nat) : mMaxL (DD em mi ic) 169 = 4 := rfl
theorem sg170_0 (em mi ic : Nat) : mSeg (DD em mi ic) 170 0 = g170_0 := rfl
theorem lv170_0 (em mi ic : Nat) : mLive (DD em mi ic) 170 0 = [0, 1, 1, 0, 0] := rfl
theorem sg170_1 (em mi ic : Nat) : mSeg (DD em mi ic) 170 1 = g170_1 := rfl
theorem lv170_1 (em mi ic : Nat) : mLive (DD em mi ic) 170 1 = [0, 1, 1, 1, 1] := rfl
theorem sg170_2 (em mi ic : Nat) : mSeg (DD em mi ic) 170 2 = g170_2 := rfl
theorem lv170_2 (em mi ic : Nat) : mLive (DD em mi ic) 170 2 = [0, 1, 1, 0, 1] := rfl
theorem sg170_3 (em mi ic : Nat) : mSeg (DD em mi ic) 170 3 = g170_3 := rfl
theorem lv170_3 (em mi ic : Nat) : mLive (DD em mi ic) 170 3 = [0, 1, 1, 0, 1] := rfl
theorem sg170_4 (em mi ic : Nat) : mSeg (DD em mi ic) 170 4 = g170_4 := rfl
theorem lv170_4 (em mi ic : Nat) : mLive (DD em mi ic) 170 4 = [0, 0, 0, 1, 0] := rfl
theorem bc_170 (em mi ic : Nat) : mBc (DD em mi ic) 170 = 0 := rfl
theorem bs_170 (em mi ic : Nat) : mBs (DD em mi ic) 170 = 0 := rfl
theorem rt_170 (em mi ic : Nat) : mRet (DD em mi ic) 170 = some .int := rfl
theorem ml_170 (em mi ic : Nat) : mMaxL (DD em mi ic) 170 = 5 := rfl
theorem sg171_0 (em mi ic : Nat) : mSeg (DD em mi ic) 171 0 = g171_0 := rfl
theorem lv171_0 (em mi ic : Nat) : mLive (DD em mi ic) 171 0 = [1, 1, 0, 0] := rfl
theorem sg171_1 (em mi ic : Nat) : mSeg (DD em mi ic) 171 1 = g171_1 := rfl
theorem lv171_1 (em mi ic : Nat) : mLive (DD em mi ic) 171 1 = [1, 1, 1, 1] := rfl
theorem sg171_2 (em mi ic : Nat) : mSeg (DD em mi ic) 171 2 = g171_2 := rfl
theorem lv171_2 (em mi ic : Nat) : mLive (DD em mi ic) 171 2 = [1, 1, 0, 1] := rfl
theorem sg171_3 (em mi ic : Nat) : mSeg (DD em mi ic) 171 3 = g171_3 := rfl
theorem lv171_3 (em mi ic : Nat) : mLive (DD em mi ic) 171 3 = [1, 1, 0, 1] := rfl
theorem sg171_4 (em mi ic : Nat) : mSeg (DD em mi ic) 171 4 = g171_4 := rfl
theorem lv171_4 (em mi ic : Nat) : mLive (DD em mi ic) 171 4 = [0, 0, 1, 0] := rfl
theorem bc_171 (em mi ic : Nat) : mBc (DD em mi ic) 171 = 0 := rfl
theorem bs_171 (em mi ic : Nat) : mBs (DD em mi ic) 171 = 0 := rfl
theorem rt_171 (em mi ic : Nat) : mRet (DD em mi ic) 171 = some .int := rfl
theorem ml_171 (em mi ic : Nat) : mMaxL (DD em mi ic) 171 = 4 := rfl
theorem sg172_0 (em mi ic : Nat) : mSeg (DD em mi ic) 172 0 = g172_0 := rfl
theorem lv172_0 (em mi ic : Nat) : mLive (DD em mi ic) 172 0 = [1, 1, 0, 0, 0] := rfl
theorem sg172_1 (em mi ic : Nat) : mSeg (DD em mi ic) 172 1 = g172_1 := rfl
theorem lv172_1 (em mi ic : Nat) : mLive (DD em mi ic) 172 1 = [1, 1, 1, 1, 0] := rfl
theorem sg172_2 (em mi ic : Nat) : mSeg (DD em mi ic) 172 2 = g172_2 := rfl
theorem lv172_2 (em mi ic : Nat) : mLive (DD em mi ic) 172 2 = [1, 1, 1, 1, 0] := rfl
theorem sg172_3 (em mi ic : Nat) : mSeg (DD em mi ic) 172 3 = g172_3 := rfl
theorem lv172_3 (em mi ic : Nat) : mLive (DD em mi ic) 172 3 = [0, 0, 1, 0, 0] := rfl
theorem bc_172 (em mi ic : Nat) : mBc (DD em mi ic) 172 = 0 := rfl
theorem bs_172 (em mi ic : Nat) : mBs (DD em mi ic) 172 = 0 := rfl
theorem rt_172 (em mi ic : Nat) : mRet (DD em mi ic) 172 = some .int := rfl
theorem ml_172 (em mi ic : Nat) : mMaxL (DD em mi ic) 172 = 5 := rfl
theorem sg173_0 (em mi ic : Nat) : mSeg (DD em mi ic) 173 0 = g173_0 := rfl
theorem lv173_0 (em mi ic : Nat) : mLive (DD em mi ic) 173 0 = [1, 1, 0, 0, 0, 0] := rfl
theorem sg173_1 (em mi ic : Nat) : mSeg (DD em mi ic) 173 1 = g173_1 := rfl
theorem lv173_1 (em mi ic : Nat) : mLive (DD em mi ic) 173 1 = [1, 1, 1, 1, 1, 0] := rfl
theorem sg173_2 (em mi ic : Nat) : mSeg (DD em mi ic) 173 2 = g173_2 := rfl
theorem lv173_2 (em mi ic : Nat) : mLive (DD em mi ic) 173 2 = [1, 1, 1, 1, 1, 1] := rfl
theorem sg173_3 (em mi ic : Nat) : mSeg (DD em mi ic) 173 3 = g173_3 := rfl
theorem lv173_3 (em mi ic : Nat) : mLive (DD em mi ic) 173 3 = [1, 1, 0, 1, 1, 1] := rfl
theorem sg173_4 (em mi ic : Nat) : mSeg (DD em mi ic) 173 4 = g173_4 := rfl
theorem lv173_4 (em mi ic : Nat) : mLive (DD em mi ic) 173 4 = [1, 1, 0, 1, 1, 1] := rfl
theorem sg173_5 (em mi ic : Nat) : mSeg (DD em mi ic) 173 5 = g173_5 := rfl
theorem lv173_5 (em mi ic : Nat) : mLive (DD em mi ic) 173 5 = [1, 1, 0, 1, 1, 1] := rfl
theorem sg173_6 (em mi ic : Nat) : mSeg (DD em mi ic) 173 6 = g173_6 := rfl
theorem lv173_6 (em mi ic : Nat) : mLive (DD em mi ic) 173 6 = [1, 1, 1, 1, 1, 0] := rfl
theorem sg173_7 (em mi ic : Nat) : mSeg (DD em mi ic) 173 7 = g173_7 := rfl
theorem lv173_7 (em mi ic : Nat) : mLive (DD em mi ic) 173 7 = [0, 0, 1, 0, 0, 0] := rfl
theorem bc_173 (em mi ic : Nat) : mBc (DD em mi ic) 173 = 0 := rfl
theorem bs_173 (em mi ic : Nat) : mBs (DD em mi ic) 173 = 0 := rfl
theorem rt_173 (em mi ic : Nat) : mRet (DD em mi ic) 173 = some .int := rfl
theorem ml_173 (em mi ic : Nat) : mMaxL (DD em mi ic) 173 = 6 := rfl
theorem sg174_0 (em mi ic : Nat) : mSeg (DD em mi ic) 174 0 = g174_0 := rfl
theorem lv174_0 (em mi ic : Nat) : mLive (DD em mi ic) 174 0 = [1, 0, 0, 0] := rfl
theorem sg174_1 (em mi ic : Nat) : mSeg (DD em mi ic) 174 1 = g174_1 := rfl
theorem lv174_1 (em mi ic : Nat) : mLive (DD em mi ic) 174 1 = [0, 1, 1, 0] := rfl
theorem sg174_2 (em mi ic : Nat) : mSeg (DD em mi ic) 174 2 = g174_2 := rfl
theorem lv174_2 (em mi ic : Nat) : mLive (DD em mi ic) 174 2 = [0, 1, 0, 0] := rfl
theorem bc_174 (em mi ic : Nat) : mBc (DD em mi ic) 174 = 1 := rfl
theorem bs_174 (em mi ic : Nat) : mBs (DD em mi ic) 174 = 4 := rfl
theorem rt_174 (em mi ic : Nat) : mRet (DD em mi ic) 174 = some .int := rfl
theorem ml_174 (em mi ic : Nat) : mMaxL (DD em mi ic) 174 = 4 := rfl
theorem sg175_0 (em mi ic : Nat) : mSeg (DD em mi ic) 175 0 = g175_0 := rfl
theorem lv175_0 (em mi ic : Nat) : mLive (DD em mi ic) 175 0 = [1, 1] := rfl
theorem sg175_1 (em mi ic : Nat) : mSeg (DD em mi ic) 175 1 = g175_1 := rfl
theorem lv175_1 (em mi ic : Nat) : mLive (DD em mi ic) 175 1 = [1, 1] := rfl
theorem sg175_2 (em mi ic : Nat) : mSeg (DD em mi ic) 175 2 = g175_2 := rfl
theorem lv175_2 (em mi ic : Nat) : mLive (DD em mi ic) 175 2 = [0, 0] := rfl
theorem bc_175 (em mi ic : Nat) : mBc (DD em mi ic) 175 = 1 := rfl
theorem bs_175 (em mi ic : Nat) : mBs (DD em mi ic) 175 = 16 := rfl
theorem rt_175 (em mi ic : Nat) : mRet (DD em mi ic) 175 = none := rfl
theorem ml_175 (em mi ic : Nat) : mMaxL (DD em mi ic) 175 = 2 := rfl
theorem sg176_0 (em mi ic : Nat) : mSeg (DD em mi ic) 176 0 = g176_0 := rfl
theorem lv176_0 (em mi ic : Nat) : mLive (DD em mi ic) 176 0 = [1, 1] := rfl
theorem sg176_1 (em mi ic : Nat) : mSeg (DD em mi ic) 176 1 = g176_1 := rfl
theorem lv176_1 (em mi ic : Nat) : mLive (DD em mi ic) 176 1 = [1, 1] := rfl
theorem sg176_2 (em mi ic : Nat) : mSeg (DD em mi ic) 176 2 = g176_2 := rfl
theorem lv176_2 (em mi ic : Nat) : mLive (DD em mi ic) 176 2 = [1, 1] := rfl
theorem sg176_3 (em mi ic : Nat) : mSeg (DD em mi ic) 176 3 = g176_3 := rfl
theorem lv176_3 (em mi ic : Nat) : mLive (DD em mi ic) 176 3 = [1, 0] := rfl
theorem bc_176 (em mi ic : Nat) : mBc (DD em mi ic) 176 = 0 := rfl
theorem bs_176 (em mi ic : Nat) : mBs (DD em mi ic) 176 = 0 := rfl
theorem rt_176 (em mi ic : Nat) : mRet (DD em mi ic) 176 = some (.object "java/lang/AbstractStringBuilder") := rfl
theorem ml_176 (em mi ic : Nat) : mMaxL (DD em mi ic) 176 = 2 := rfl
theorem sg177_0 (em mi ic : Nat) : mSeg (DD em mi ic) 177 0 = g177_0 := rfl
theorem lv177_0 (em mi ic : Nat) : mLive (DD em mi ic) 177 0 = [1, 1] := rfl
theorem bc_177 (em mi ic : Nat) : mBc (DD em mi ic) 177 = 1 := rfl
theorem bs_177 (em mi ic : Nat) : mBs (DD em mi ic) 177 = 16 := rfl
theorem rt_177 (em mi ic : Nat) : mRet (DD em mi ic) 177 = none := rfl
theorem ml_177 (em mi ic : Nat) : mMaxL (DD em mi ic) 177 = 2 := rfl
theorem sg178_0 (em mi ic : Nat) : mSeg (DD em mi ic) 178 0 = g178_0 := rfl
theorem lv178_0 (em mi ic : Nat) : mLive (DD em mi ic) 178 0 = [1, 1, 0] := rfl
theorem sg178_1 (em mi ic : Nat) : mSeg (DD em mi ic) 178 1 = g178_1 := rfl
theorem lv178_1 (em mi ic : Nat) : mLive (DD em mi ic) 178 1 = [1, 1, 1] := rfl
theorem sg178_2 (em mi ic : Nat) : mSeg (DD em mi ic) 178 2 = g178_2 := rfl
theorem lv178_2 (em mi ic : Nat) : mLive (DD em mi ic) 178 2 = [1, 1, 1] := rfl
theorem sg178_3 (em mi ic : Nat) : mSeg (DD em mi ic) 178 3 = g178_3 := rfl
theorem lv178_3 (em mi ic : Nat) : mLive (DD em mi ic) 178 3 = [0, 0, 0] := rfl
theorem bc_178 (em mi ic : Nat) : mBc (DD em mi ic) 178 = 0 := rfl
theorem bs_178 (em mi ic : Nat) : mBs (DD em mi ic) 178 = 0 := rfl
theorem rt_178 (em mi ic : Nat) : mRet (DD em mi ic) 178 = some .boolean := rfl
theorem ml_178 (em mi ic : Nat) : mMaxL (DD em mi ic) 178 = 3 := rfl
theorem sg179_0 (em mi ic : Nat) : mSeg (DD em mi ic) 179 0 = g179_0 := rfl
theorem lv179_0 (em mi ic : Nat) : mLive (DD em mi ic) 179 0 = [1, 1, 1] := rfl
theorem sg179_1 (em mi ic : Nat) : mSeg (DD em mi ic) 179 1 = g179_1 := rfl
theorem lv179_1 (em mi ic : Nat) : mLive (DD em mi ic) 179 1 = [0, 0, 0] := rfl
theorem bc_179 (em mi ic : Nat) : mBc (DD em mi ic) 179 = 0 := rfl
theorem bs_179 (em mi ic : Nat) : mBs (DD em mi ic) 179 = 0 := rfl
theorem rt_179 (em mi ic : Nat) : mRet (DD em mi ic) 179 = none := rfl
theorem ml_179 (em mi ic : Nat) : mMaxL (DD em mi ic) 179 = 3 := rfl
theorem sg180_0 (em mi ic : Nat) : mSeg (DD em mi ic) 180 0 = g180_0 := rfl
theorem lv180_0 (em mi ic : Nat) : mLive (DD em mi ic) 180 0 = [1] := rfl
theorem bc_180 (em mi ic : Nat) : mBc (DD em mi ic) 180 = 0 := rfl
theorem bs_180 (em mi ic : Nat) : mBs (DD em mi ic) 180 = 0 := rfl
theorem rt_180 (em mi ic : Nat) : mRet (DD em mi ic) 180 = some .int := rfl
theorem ml_180 (em mi ic : Nat) : mMaxL (DD em mi ic) 180 = 1 := rfl
theorem sg181_0 (em mi ic : Nat) : mSeg (DD em mi ic) 181 0 = g181_0 := rfl
theorem lv181_0 (em mi ic : Nat) : mLive (DD em mi ic) 181 0 = [1, 1, 0, 0, 0] := rfl
theorem sg181_1 (em mi ic : Nat) : mSeg (DD em mi ic) 181 1 = g181_1 := rfl
theorem lv181_1 (em mi ic : Nat) : mLive (DD em mi ic) 181 1 = [0, 0, 0, 0, 0] := rfl
theorem sg181_2 (em mi ic : Nat) : mSeg (DD em mi ic) 181 2 = g181_2 := rfl
theorem lv181_2 (em mi ic : Nat) : mLive (DD em mi ic) 181 2 = [1, 1, 0, 0, 0] := rfl
theorem sg181_3 (em mi ic : Nat) : mSeg (DD em mi ic) 181 3 = g181_3 := rfl
theorem lv181_3 (em mi ic : Nat) : mLive (DD em mi ic) 181 3 = [1, 1, 1, 1, 0] := rfl
theorem sg181_4 (em mi ic : Nat) : mSeg (DD em mi ic) 181 4 = g181_4 := rfl
theorem lv181_4 (em mi ic : Nat) : mLive (DD em mi ic) 181 4 = [0, 0, 0, 0, 0] := rfl
theorem sg181_5 (em mi ic : Nat) : mSeg (DD em mi ic) 181 5 = g181_5 := rfl
theorem lv181_5 (em mi ic : Nat) : mLive (DD em mi ic) 181 5 = [1, 1, 1, 1, 0] := rfl
theorem sg181_6 (em mi ic : Nat) : mSeg (DD em mi ic) 181 6 = g181_6 := rfl
theorem lv181_6 (em mi ic : Nat) : mLive (DD em mi ic) 181 6 = [0, 0, 0, 0, 0] := rfl
theorem bc_181 (em mi ic : Nat) : mBc (DD em mi ic) 181 = 0 := rfl
theorem bs_181 (em mi ic : Nat) : mBs (DD em mi ic) 181 = 0 := rfl
theorem rt_181 (em mi ic : Nat) : mRet (DD em mi ic) 181 = some .boolean := rfl
theorem ml_181 (em mi ic : Nat) : mMaxL (DD em mi ic) 181 = 5 := rfl
theorem sg182_0 (em mi ic : Nat) : mSeg (DD em mi ic) 182 0 = g182_0 := rfl
theorem lv182_0 (em mi ic : Nat) : mLive (DD em mi ic) 182 0 = [1, 1, 0, 0] := rfl
theorem sg182_1 (em mi ic : Nat) : mSeg (DD em mi ic) 182 1 = g182_1 := rfl
theorem lv182_1 (em mi ic : Nat) : mLive (DD em mi ic) 182 1 = [1, 1, 1, 0] := rfl
theorem sg182_2 (em mi ic : Nat) : mSeg (DD em mi ic) 182 2 = g182_2 := rfl
theorem lv182_2 (em mi ic : Nat) : mLive (DD em mi ic) 182 2 = [1, 1, 1, 0] := rfl
theorem sg182_3 (em mi ic : Nat) : mSeg (DD em mi ic) 182 3 = g182_3 := rfl
theorem lv182_3 (em mi ic : Nat) : mLive (DD em mi ic) 182 3 = [0, 0, 0, 0] := rfl
theorem bc_182 (em mi ic : Nat) : mBc (DD em mi ic) 182 = 0 := rfl
theorem bs_182 (em mi ic : Nat) : mBs (DD em mi ic) 182 = 0 := rfl
theorem rt_182 (em mi ic : Nat) : mRet (DD em mi ic) 182 = some .boolean := rfl
theorem ml_182 (em mi ic : Nat) : mMaxL (DD em mi ic) 182 = 4 := rfl
theorem sg183_0 (em mi ic : Nat) : mSeg (DD em mi ic) 183 0 = g183_0 := rfl
theorem lv183_0 (em mi ic : Nat) : mLive (DD em mi ic) 183 0 = [1, 1, 1, 1, 0] := rfl
theorem sg183_1 (em mi ic : Nat) : mSeg (DD em mi ic) 183 1 = g183_1 := rfl
theorem lv183_1 (em mi ic : Nat) : mLive (DD em mi ic) 183 1 = [0, 0, 1, 0, 0] := rfl
theorem sg183_2 (em mi ic : Nat) : mSeg (DD em mi ic) 183 2 = g183_2 := rfl
theorem lv183_2 (em mi ic : Nat) : mLive (DD em mi ic) 183 2 = [0, 0, 0, 0, 0] := rfl
theorem sg183_3 (em mi ic : Nat) : mSeg (DD em mi ic) 183 3 = g183_3 := rfl
theorem lv183_3 (em mi ic : Nat) : mLive (DD em mi ic) 183 3 = [0, 0, 0, 0, 0] := rfl
theorem sg183_4 (em mi ic : Nat) : mSeg (DD em mi ic) 183 4 = g183_4 := rfl
theorem lv183_4 (em mi ic : Nat) : mLive (DD em mi ic) 183 4 = [1, 1, 1, 1, 0] := rfl
theorem sg183_5 (em mi ic : Nat) : mSeg (DD em mi ic) 183 5 = g183_5 := rfl
theorem lv183_5 (em mi ic : Nat) : mLive (DD em mi ic) 183 5 = [0, 0, 0, 0, 0] := rfl
theorem sg183_6 (em mi ic : Nat) : mSeg (DD em mi ic) 183 6 = g183_6 := rfl
theorem lv183_6 (em mi ic : Nat) : mLive (DD em mi ic) 183 6 = [0, 0, 0, 0, 0] := rfl
theorem sg183_7 (em mi ic : Nat) : mSeg (DD em mi ic) 183 7 = g183_7 := rfl
theorem lv183_7 (em mi ic : Nat) : mLive (DD em mi ic) 183 7 = [0, 0, 0, 0, 0] := rfl
theorem bc_183 (em mi ic : Nat) : mBc (DD em mi ic) 183 = 0 := rfl
theorem bs_183 (em mi ic : Nat) : mBs (DD em mi ic) 183 = 0 := rfl
theorem rt_183 (em mi ic : Nat) : mRet (DD em mi ic) 183 = some .boolean := rfl
theorem ml_183 (em mi ic : Nat) : mMaxL (DD em mi ic) 183 = 5 := rfl
theorem sg184_0 (em mi ic : Nat) : mSeg (DD em mi ic) 184 0 = g184_0 := rfl
theorem lv184_0 (em mi ic : Nat) : mLive (DD em mi ic) 184 0 = [1, 1, 1, 0, 0] := rfl
theorem sg184_1 (em mi ic : Nat) : mSeg (DD em mi ic) 184 1 = g184_1 := rfl
theorem lv184_1 (em mi ic : Nat) : mLive (DD em mi ic) 184 1 = [0, 1, 1, 1, 1] := rfl
theorem sg184_2 (em mi ic : Nat) : mSeg (DD em mi ic) 184 2 = g184_2 := rfl
theorem lv184_2 (em mi ic : Nat) : mLive (DD em mi ic) 184 2 = [0, 0, 0, 0, 0] := rfl
theorem sg184_3 (em mi ic : Nat) : mSeg (DD em mi ic) 184 3 = g184_3 := rfl
theorem lv184_3 (em mi ic : Nat) : mLive (DD em mi ic) 184 3 = [0, 0, 0, 0, 0] := rfl
theorem sg184_4 (em mi ic : Nat) : mSeg (DD em mi ic) 184 4 = g184_4 := rfl
theorem lv184_4 (em mi ic : Nat) : mLive (DD em mi ic) 184 4 = [0, 0, 0, 0, 0] := rfl
theorem bc_184 (em mi ic : Nat) : mBc (DD em mi ic) 184 = 0 := rfl
theorem bs_184 (em mi ic : Nat) : mBs (DD em mi ic) 184 = 0 := rfl
theorem rt_184 (em mi ic : Nat) : mRet (DD em mi ic) 184 = some .boolean := rfl
theorem ml_184 (em mi ic : Nat) : mMaxL (DD em mi ic) 184 = 5 := rfl
theorem sg185_0 (em mi ic : Nat) : mSeg (DD em mi ic) 185 0 = g185_0 := rfl
theorem lv185_0 (em mi ic : Nat) : mLive (DD em mi ic) 185 0 = [1, 1, 0, 0, 0] := rfl
theorem sg185_1 (em mi ic : Nat) : mSeg (DD em mi ic) 185 1 = g185_1 := rfl
theorem lv185_1 (em mi ic : Nat) : mLive (DD em mi ic) 185 1 = [0, 0, 1, 1, 1] := rfl
theorem sg185_2 (em mi ic : Nat) : mSeg (DD em mi ic) 185 2 = g185_2 := rfl
theorem lv185_2 (em mi ic : Nat) : mLive (DD em mi ic) 185 2 = [0, 0, 1, 1, 0] := rfl
theorem sg185_3 (em mi ic : Nat) : mSeg (DD em mi ic) 185 3 = g185_3 := rfl
theorem lv185_3 (em mi ic : Nat) : mLive (DD em mi ic) 185 3 = [0, 0, 0, 0, 0] := rfl
theorem sg185_4 (em mi ic : Nat) : mSeg (DD em mi ic) 185 4 = g185_4 := rfl
theorem lv185_4 (em mi ic : Nat) : mLive (DD em mi ic) 185 4 = [0, 0, 0, 0, 0] := rfl
theorem sg185_5 (em mi ic : Nat) : mSeg (DD em mi ic) 185 5 = g185_5 := rfl
theorem lv185_5 (em mi ic : Nat) : mLive (DD em mi ic) 185 5 = [0, 0, 0, 0, 0] := rfl
theorem bc_185 (em mi ic : Nat) : mBc (DD em mi ic) 185 = 0 := rfl
theorem bs_185 (em mi ic : Nat) : mBs (DD em mi ic) 185 = 0 := rfl
theorem rt_185 (em mi ic : Nat) : mRet (DD em mi ic) 185 = some .boolean := rfl
theorem ml_185 (em mi ic : Nat) : mMaxL (DD em mi ic) 185 = 5 := rfl
theorem sg186_0 (em mi ic : Nat) : mSeg (DD em mi ic) 186 0 = g186_0 := rfl
theorem lv186_0 (em mi ic : Nat) : mLive (DD em mi ic) 186 0 = [1] := rfl
theorem sg186_1 (em mi ic : Nat) : mSeg (DD em mi ic) 186 1 = g186_1 := rfl
theorem lv186_1 (em mi ic : Nat) : mLive (DD em mi ic) 186 1 = [1] := rfl
theorem sg186_2 (em mi ic : Nat) : mSeg (DD em mi ic) 186 2 = g186_2 := rfl
theorem lv186_2 (em mi ic : Nat) : mLive (DD em mi ic) 186 2 = [0] := rfl
theorem bc_186 (em mi ic : Nat) : mBc (DD em mi ic) 186 = 0 := rfl
theorem bs_186 (em mi ic : Nat) : mBs (DD em mi ic) 186 = 0 := rfl
theorem rt_186 (em mi ic : Nat) : mRet (DD em mi ic) 186 = some .int := rfl
theorem ml_186 (em mi ic : Nat) : mMaxL (DD em mi ic) 186 = 1 := rfl
theorem sg187_0 (em mi ic : Nat) : mSeg (DD em mi ic) 187 0 = g187_0 := rfl
theorem lv187_0 (em mi ic : Nat) : mLive (DD em mi ic) 187 0 = [1] := rfl
theorem sg187_1 (em mi ic : Nat) : mSeg (DD em mi ic) 187 1 = g187_1 := rfl
theorem lv187_1 (em mi ic : Nat) : mLive (DD em mi ic) 187 1 = [1] := rfl
theorem sg187_2 (em mi ic : Nat) : mSeg (DD em mi ic) 187 2 = g187_2 := rfl
theorem lv187_2 (em mi ic : Nat) : mLive (DD em mi ic) 187 2 = [0] := rfl
theorem bc_187 (em mi ic : Nat) : mBc (DD em mi ic) 187 = 0 := rfl
theorem bs_187 (em mi ic : Nat) : mBs (DD em mi ic) 187 = 0 := rfl
theorem rt_187 (em mi ic : Nat) : mRet (DD em mi ic) 187 = some .int := rfl
theorem ml_187 (em mi ic : Nat) : mMaxL (DD em mi ic) 187 = 1 := rfl
theorem sg188_0 (em mi ic : Nat) : mSeg (DD em mi ic) 188 0 = g188_0 := rfl
theorem lv188_0 (em mi ic : Nat) : mLive (DD em mi ic) 188 0 = [1, 1, 0] := rfl
theorem sg188_1 (em mi ic : Nat) : mSeg (DD em mi ic) 188 1 = g188_1 := rfl
theorem lv188_1 (em mi ic : Nat) : mLive (DD em mi ic) 188 1 = [1, 1, 1] := rfl
theorem sg188_2 (em mi ic : Nat) : mSeg (DD em mi ic) 188 2 = g188_2 := rfl
theorem lv188_2 (em mi ic : Nat) : mLive (DD em mi ic) 188 2 = [1, 1, 1] := rfl
theorem sg188_3 (em mi ic : Nat) : mSeg (DD em mi ic) 188 3 = g188_3 := rfl
theorem lv188_3 (em mi ic : Nat) : mLive (DD em mi ic) 188 3 = [0, 0, 0] := rfl
theorem bc_188 (em mi ic : Nat) : mBc (DD em mi ic) 188 = 0 := rfl
theorem bs_188 (em mi ic : Nat) : mBs (DD em mi ic) 188 = 0 := rfl
theorem rt_188 (em mi ic : Nat) : mRet (DD em mi ic) 188 = some .boolean := rfl
theorem ml_188 (em mi ic : Nat) : mMaxL (DD em mi ic) 188 = 3 := rfl
theorem sg189_0 (em mi ic : Nat) : mSeg (DD em mi ic) 189 0 = g189_0 := rfl
theorem lv189_0 (em mi ic : Nat) : mLive (DD em mi ic) 189 0 = [1, 1, 0, 0] := rfl
theorem sg189_1 (em mi ic : Nat) : mSeg (DD em mi ic) 189 1 = g189_1 := rfl
theorem lv189_1 (em mi ic : Nat) : mLive (DD em mi ic) 189 1 = [1, 1, 1, 0] := rfl
theorem sg189_2 (em mi ic : Nat) : mSeg (DD em mi ic) 189 2 = g189_2 := rfl
theorem lv189_2 (em mi ic : Nat) : mLive (DD em mi ic) 189 2 = [1, 1, 1, 0] := rfl
theorem sg189_3 (em mi ic : Nat) : mSeg (DD em mi ic) 189 3 = g189_3 := rfl
theorem lv189_3 (em mi ic : Nat) : mLive (DD em mi ic) 189 3 = [0, 0, 0, 0] := rfl
theorem bc_189 (em mi ic : Nat) : mBc (DD em mi ic) 189 = 0 := rfl
theorem bs_189 (em mi ic : Nat) : mBs (DD em mi ic) 189 = 0 := rfl
theorem rt_189 (em mi ic : Nat) : mRet (DD em mi ic) 189 = some .boolean := rfl
theorem ml_189 (em mi ic : Nat) : mMaxL (DD em mi ic) 189 = 4 := rfl
theorem sg190_0 (em mi ic : Nat) : mSeg (DD em mi ic) 190 0 = g190_0 := rfl
theorem lv190_0 (em mi ic : Nat) : mLive (DD em mi ic) 190 0 = [1, 1] := rfl
theorem sg190_1 (em mi ic : Nat) : mSeg (DD em mi ic) 190 1 = g190_1 := rfl
theorem lv190_1 (em mi ic : Nat) : mLive (DD em mi ic) 190 1 = [0, 0] := rfl
theorem sg190_2 (em mi ic : Nat) : mSeg (DD em mi ic) 190 2 = g190_2 := rfl
theorem lv190_2 (em mi ic : Nat) : mLive (DD em mi ic) 190 2 = [0, 0] := rfl
theorem bc_190 (em mi ic : Nat) : mBc (DD em mi ic) 190 = 0 := rfl
theorem bs_190 (em mi ic : Nat) : mBs (DD em mi ic) 190 = 0 := rfl
theorem rt_190 (em mi ic : Nat) : mRet (DD em mi ic) 190 = some .boolean := rfl
theorem ml_190 (em mi ic : Nat) : mMaxL (DD em mi ic) 190 = 2 := rfl
theorem sg191_0 (em mi ic : Nat) : mSeg (DD em mi ic) 191 0 = g191_0 := rfl
theorem lv191_0 (em mi ic : Nat) : mLive (DD em mi ic) 191 0 = [1, 1] := rfl
theorem sg191_1 (em mi ic : Nat) : mSeg (DD em mi ic) 191 1 = g191_1 := rfl
theorem lv191_1 (em mi ic : Nat) : mLive (DD em mi ic) 191 1 = [0, 0] := rfl
theorem sg191_2 (em mi ic : Nat) : mSeg (DD em mi ic) 191 2 = g191_2 := rfl
theorem lv191_2 (em mi ic : Nat) : mLive (DD em mi ic) 191 2 = [0, 0] := rfl
theorem bc_191 (em mi ic : Nat) : mBc (DD em mi ic) 191 = 0 := rfl
theorem bs_191 (em mi ic : Nat) : mBs (DD em mi ic) 191 = 0 := rfl
theorem rt_191 (em mi ic : Nat) : mRet (DD em mi ic) 191 = some .boolean := rfl
theorem ml_191 (em mi ic : Nat) : mMaxL (DD em mi ic) 191 = 2 := rfl
theorem sg192_0 (em mi ic : Nat) : mSeg (DD em mi ic) 192 0 = g192_0 := rfl
theorem lv192_0 (em mi ic : Nat) : mLive (DD em mi ic) 192 0 = [1, 1, 1, 0] := rfl
theorem sg192_1 (em mi ic : Nat) : mSeg (DD em mi ic) 192 1 = g192_1 := rfl
theorem lv192_1 (em mi ic : Nat) : mLive (DD em mi ic) 192 1 = [1, 1, 1, 1] := rfl
theorem sg192_2 (em mi ic : Nat) : mSeg (DD em mi ic) 192 2 = g192_2 := rfl
theorem lv192_2 (em mi ic : Nat) : mLive (DD em mi ic) 192 2 = [1, 1, 1, 1] := rfl
theorem sg192_3 (em mi ic : Nat) : mSeg (DD em mi ic) 192 3 = g192_3 := rfl
theorem lv192_3 (em mi ic : Nat) : mLive (DD em mi ic) 192 3 = [0, 0, 0, 0] := rfl
theorem bc_192 (em mi ic : Nat) : mBc (DD em mi ic) 192 = 0 := rfl
theorem bs_192 (em mi ic : Nat) : mBs (DD em mi ic) 192 = 0 := rfl
theorem rt_192 (em mi ic : Nat) : mRet (DD em mi ic) 192 = none := rfl
theorem ml_192 (em mi ic : Nat) : mMaxL (DD em mi ic) 192 = 4 := rfl
theorem sg193_0 (em mi ic : Nat) : mSeg (DD em mi ic) 193 0 = g193_0 := rfl
theorem lv193_0 (em mi ic : Nat) : mLive (DD em mi ic) 193 0 = [1, 1, 1, 1, 0, 0] := rfl
theorem sg193_1 (em mi ic : Nat) : mSeg (DD em mi ic) 193 1 = g193_1 := rfl
theorem lv193_1 (em mi ic : Nat) : mLive (DD em mi ic) 193 1 = [1, 1, 1, 0, 0, 0] := rfl
theorem sg193_2 (em mi ic : Nat) : mSeg (DD em mi ic) 193 2 = g193_2 := rfl
theorem lv193_2 (em mi ic : Nat) : mLive (DD em mi ic) 193 2 = [1, 1, 1, 0, 1, 0] := rfl
theorem sg193_3 (em mi ic : Nat) : mSeg (DD em mi ic) 193 3 = g193_3 := rfl
theorem lv193_3 (em mi ic : Nat) : mLive (DD em mi ic) 193 3 = [1, 1, 1, 0, 1, 0] := rfl
theorem sg193_4 (em mi ic : Nat) : mSeg (DD em mi ic) 193 4 = g193_4 := rfl
theorem lv193_4 (em mi ic : Nat) : mLive (DD em mi ic) 193 4 = [0, 0, 0, 0, 0, 0] := rfl
theorem sg193_5 (em mi ic : Nat) : mSeg (DD em mi ic) 193 5 = g193_5 := rfl
theorem lv193_5 (em mi ic : Nat) : mLive (DD em mi ic) 193 5 = [1, 1, 1, 1, 0, 0] := rfl
theorem sg193_6 (em mi ic : Nat) : mSeg (DD em mi ic) 193 6 = g193_6 := rfl
theorem lv193_6 (em mi ic : Nat) : mLive (DD em mi ic) 193 6 = [1, 1, 1, 1, 0, 0] := rfl
theorem sg193_7 (em mi ic : Nat) : mSeg (DD em mi ic) 193 7 = g193_7 := rfl
theorem lv193_7 (em mi ic : Nat) : mLive (DD em mi ic) 193 7 = [1, 1, 1, 1, 0, 0] := rfl
theorem sg193_8 (em mi ic : Nat) : mSeg (DD em mi ic) 193 8 = g193_8 := rfl
theorem lv193_8 (em mi ic : Nat) : mLive (DD em mi ic) 193 8 = [1, 1, 1, 1, 1, 1] := rfl
theorem sg193_9 (em mi ic : Nat) : mSeg (DD em mi ic) 193 9 = g193_9 := rfl
theorem lv193_9 (em mi ic : Nat) : mLive (DD em mi ic) 193 9 = [1, 1, 1, 1, 1, 1] := rfl
theorem sg193_10 (em mi ic : Nat) : mSeg (DD em mi ic) 193 10 = g193_10 := rfl
theorem lv193_10 (em mi ic : Nat) : mLive (DD em mi ic) 193 10 = [0, 0, 0, 0, 0, 0] := rfl
theorem bc_193 (em mi ic : Nat) : mBc (DD em mi ic) 193 = 0 := rfl
theorem bs_193 (em mi ic : Nat) : mBs (DD em mi ic) 193 = 0 := rfl
theorem rt_193 (em mi ic : Nat) : mRet (DD em mi ic) 193 = some .boolean := rfl
theorem ml_193 (em mi ic : Nat) : mMaxL (DD em mi ic) 193 = 6 := rfl
theorem sg194_0 (em mi ic : Nat) : mSeg (DD em mi ic) 194 0 = g194_0 := rfl
theorem lv194_0 (em mi ic : Nat) : mLive (DD em mi ic) 194 0 = [1] := rfl
theorem sg194_1 (em mi ic : Nat) : mSeg (DD em mi ic) 194 1 = g194_1 := rfl
theorem lv194_1 (em mi ic : Nat) : mLive (DD em mi ic) 194 1 = [0] := rfl
theorem sg194_2 (em mi ic : Nat) : mSeg (DD em mi ic) 194 2 = g194_2 := rfl
theorem lv194_2 (em mi ic : Nat) : mLive (DD em mi ic) 194 2 = [0] := rfl
theorem bc_194 (em mi ic : Nat) : mBc (DD em mi ic) 194 = 0 := rfl
theorem bs_194 (em mi ic : Nat) : mBs (DD em mi ic) 194 = 0 := rfl
theorem rt_194 (em mi ic : Nat) : mRet (DD em mi ic) 194 = some .byte := rfl
theorem ml_194 (em mi ic : Nat) : mMaxL (DD em mi ic) 194 = 1 := rfl
theorem sg195_0 (em mi ic : Nat) : mSeg (DD em mi ic) 195 0 = g195_0 := rfl
theorem lv195_0 (em mi ic : Nat) : mLive (DD em mi ic) 195 0 = [1] := rfl
theorem bc_195 (em mi ic : Nat) : mBc (DD em mi ic) 195 = 0 := rfl
theorem bs_195 (em mi ic : Nat) : mBs (DD em mi ic) 195 = 0 := rfl
theorem rt_195 (em mi ic : Nat) : mRet (DD em mi ic) 195 = none := rfl
theorem ml_195 (em mi ic : Nat) : mMaxL (DD em mi ic) 195 = 1 := rfl
theorem sg196_0 (em mi ic : Nat) : mSeg (DD em mi ic) 196 0 = g196_0 := rfl
theorem lv196_0 (em mi ic : Nat) : mLive (DD em mi ic) 196 0 = [1] := rfl
theorem bc_196 (em mi ic : Nat) : mBc (DD em mi ic) 196 = 1 := rfl
theorem bs_196 (em mi ic : Nat) : mBs (DD em mi ic) 196 = 15 := rfl
theorem rt_196 (em mi ic : Nat) : mRet (DD em mi ic) 196 = some (.array (.object "java/lang/Object")) := rfl
theorem ml_196 (em mi ic : Nat) : mMaxL (DD em mi ic) 196 = 1 := rfl
theorem sg197_0 (em mi ic : Nat) : mSeg (DD em mi ic) 197 0 = g197_0 := rfl
theorem lv197_0 (em mi ic : Nat) : mLive (DD em mi ic) 197 0 = [1, 0, 0, 0] := rfl
theorem sg197_1 (em mi ic : Nat) : mSeg (DD em mi ic) 197 1 = g197_1 := rfl
theorem lv197_1 (em mi ic : Nat) : mLive (DD em mi ic) 197 1 = [1, 1, 0, 0] := rfl
theorem sg197_2 (em mi ic : Nat) : mSeg (DD em mi ic) 197 2 = g197_2 := rfl
theorem lv197_2 (em mi ic : Nat) : mLive (DD em mi ic) 197 2 = [1, 1, 0, 0] := rfl
theorem sg197_3 (em mi ic : Nat) : mSeg (DD em mi ic) 197 3 = g197_3 := rfl
theorem lv197_3 (em mi ic : Nat) : mLive (DD em mi ic) 197 3 = [0, 0, 0, 0] := rfl
theorem bc_197 (em mi ic : Nat) : mBc (DD em mi ic) 197 = 0 := rfl
theorem bs_197 (em mi ic : Nat) : mBs (DD em mi ic) 197 = 0 := rfl
theorem rt_197 (em mi ic : Nat) : mRet (DD em mi ic) 197 = none := rfl
theorem ml_197 (em mi ic : Nat) : mMaxL (DD em mi ic) 197 = 4 := rfl
theorem sg198_0 (em mi ic : Nat) : mSeg (DD em mi ic) 198 0 = g198_0 := rfl
theorem lv198_0 (em mi ic : Nat) : mLive (DD em mi ic) 198 0 = [1, 1, 1] := rfl
theorem sg198_1 (em mi ic : Nat) : mSeg (DD em mi ic) 198 1 = g198_1 := rfl
theorem lv198_1 (em mi ic : Nat) : mLive (DD em mi ic) 198 1 = [1, 1, 1] := rfl
theorem sg198_2 (em mi ic : Nat) : mSeg (DD em mi ic) 198 2 = g198_2 := rfl
theorem lv198_2 (em mi ic : Nat) : mLive (DD em mi ic) 198 2 = [1, 0, 0] := rfl
theorem bc_198 (em mi ic : Nat) : mBc (DD em mi ic) 198 = 0 := rfl
theorem bs_198 (em mi ic : Nat) : mBs (DD em mi ic) 198 = 0 := rfl
theorem rt_198 (em mi ic : Nat) : mRet (DD em mi ic) 198 = some .int := rfl
theorem ml_198 (em mi ic : Nat) : mMaxL (DD em mi ic) 198 = 3 := rfl
theorem sg199_0 (em mi ic : Nat) : mSeg (DD em mi ic) 199 0 = g199_0 := rfl
theorem lv199_0 (em mi ic : Nat) : mLive (DD em mi ic) 199 0 = [1, 0, 0, 0] := rfl
theorem sg199_1 (em mi ic : Nat) : mSeg (DD em mi ic) 199 1 = g199_1 := rfl
theorem lv199_1 (em mi ic : Nat) : mLive (DD em mi ic) 199 1 = [1, 1, 1, 0] := rfl
theorem sg199_2 (em mi ic : Nat) : mSeg (DD em mi ic) 199 2 = g199_2 := rfl
theorem lv199_2 (em mi ic : Nat) : mLive (DD em mi ic) 199 2 = [1, 0, 1, 1] := rfl
theorem sg199_3 (em mi ic : Nat) : mSeg (DD em mi ic) 199 3 = g199_3 := rfl
theorem lv199_3 (em mi ic : Nat) : mLive (DD em mi ic) 199 3 = [1, 1, 1, 0] := rfl
theorem sg199_4 (em mi ic : Nat) : mSeg (DD em mi ic) 199 4 = g199_4 := rfl
theorem lv199_4 (em mi ic : Nat) : mLive (DD em mi ic) 199 4 = [0, 1, 0, 0] := rfl
theorem bc_199 (em mi ic : Nat) : mBc (DD em mi ic) 199 = 0 := rfl
theorem bs_199 (em mi ic : Nat) : mBs (DD em mi ic) 199 = 0 := rfl
theorem rt_199 (em mi ic : Nat) : mRet (DD em mi ic) 199 = some (.object "Twelvehundred$Lot") := rfl
theorem ml_199 (em mi ic : Nat) : mMaxL (DD em mi ic) 199 = 4 := rfl
theorem sg200_0 (em mi ic : Nat) : mSeg (DD em mi ic) 200 0 = g200_0 := rfl
theorem lv200_0 (em mi ic : Nat) : mLive (DD em mi ic) 200 0 = [1] := rfl
theorem bc_200 (em mi ic : Nat) : mBc (DD em mi ic) 200 = 0 := rfl
theorem bs_200 (em mi ic : Nat) : mBs (DD em mi ic) 200 = 0 := rfl
theorem rt_200 (em mi ic : Nat) : mRet (DD em mi ic) 200 = none := rfl
theorem ml_200 (em mi ic : Nat) : mMaxL (DD em mi ic) 200 = 1 := rfl
theorem sg201_0 (em mi ic : Nat) : mSeg (DD em mi ic) 201 0 = g201_0 := rfl
theorem lv201_0 (em mi ic : Nat) : mLive (DD em mi ic) 201 0 = [1, 1, 0] := rfl
theorem sg201_1 (em mi ic : Nat) : mSeg (DD em mi ic) 201 1 = g201_1 := rfl
theorem lv201_1 (em mi ic : Nat) : mLive (DD em mi ic) 201 1 = [0, 0, 0] := rfl
theorem bc_201 (em mi ic : Nat) : mBc (DD em mi ic) 201 = 0 := rfl
theorem bs_201 (em mi ic : Nat) : mBs (DD em mi ic) 201 = 0 := rfl
theorem rt_201 (em mi ic : Nat) : mRet (DD em mi ic) 201 = none := rfl
theorem ml_201 (em mi ic : Nat) : mMaxL (DD em mi ic) 201 = 3 := rfl
theorem sg202_0 (em mi ic : Nat) : mSeg (DD em mi ic) 202 0 = g202_0 := rfl
theorem lv202_0 (em mi ic : Nat) : mLive (DD em mi ic) 202 0 = [1] := rfl
theorem sg202_1 (em mi ic : Nat) : mSeg (DD em mi ic) 202 1 = g202_1 := rfl
theorem lv202_1 (em mi ic : Nat) : mLive (DD em mi ic) 202 1 = [0] := rfl
theorem sg202_2 (em mi ic : Nat) : mSeg (DD em mi ic) 202 2 = g202_2 := rfl
theorem lv202_2 (em mi ic : Nat) : mLive (DD em mi ic) 202 2 = [0] := rfl
theorem bc_202 (em mi ic : Nat) : mBc (DD em mi ic) 202 = 0 := rfl
theorem bs_202 (em mi ic : Nat) : mBs (DD em mi ic) 202 = 0 := rfl
theorem rt_202 (em mi ic : Nat) : mRet (DD em mi ic) 202 = some .boolean := rfl
theorem ml_202 (em mi ic : Nat) : mMaxL (DD em mi ic) 202 = 1 := rfl
theorem sg203_0 (em mi ic : Nat) : mSeg (DD em mi ic) 203 0 = g203_0 := rfl
theorem lv203_0 (em mi ic : Nat) : mLive (DD em mi ic) 203 0 = [1] := rfl
theorem sg203_1 (em mi ic : Nat) : mSeg (DD em mi ic) 203 1 = g203_1 := rfl
theorem lv203_1 (em mi ic : Nat) : mLive (DD em mi ic) 203 1 = [0] := rfl
theorem sg203_2 (em mi ic : Nat) : mSeg (DD em mi ic) 203 2 = g203_2 := rfl
theorem lv203_2 (em mi ic : Nat) : mLive (DD em mi ic) 203 2 = [0] := rfl
theorem bc_203 (em mi ic : Nat) : mBc (DD em mi ic) 203 = 0 := rfl
theorem bs_203 (em mi ic : Nat) : mBs (DD em mi ic) 203 = 0 := rfl
theorem rt_203 (em mi ic : Nat) : mRet (DD em mi ic) 203 = some .boolean := rfl
theorem ml_203 (em mi ic : Nat) : mMaxL (DD em mi ic) 203 = 1 := rfl
theorem sg204_0 (em mi ic : Nat) : mSeg (DD em mi ic) 204 0 = g204_0 := rfl
theorem lv204_0 (em mi ic : Nat) : mLive (DD em mi ic) 204 0 = [1, 1, 0, 0, 0] := rfl
theorem sg204_1 (em mi ic : Nat) : mSeg (DD em mi ic) 204 1 = g204_1 := rfl
theorem lv204_1 (em mi ic : Nat) : mLive (DD em mi ic) 204 1 = [1, 1, 0, 1, 1] := rfl
theorem sg204_2 (em mi ic : Nat) : mSeg (DD em mi ic) 204 2 = g204_2 := rfl
theorem lv204_2 (em mi ic : Nat) : mLive (DD em mi ic) 204 2 = [1, 0, 0, 1, 1] := rfl
theorem sg204_3 (em mi ic : Nat) : mSeg (DD em mi ic) 204 3 = g204_3 := rfl
theorem lv204_3 (em mi ic : Nat) : mLive (DD em mi ic) 204 3 = [0, 0, 0, 0, 0] := rfl
theorem bc_204 (em mi ic : Nat) : mBc (DD em mi ic) 204 = 1 := rfl
theorem bs_204 (em mi ic : Nat) : mBs (DD em mi ic) 204 = 16 := rfl
theorem rt_204 (em mi ic : Nat) : mRet (DD em mi ic) 204 = none := rfl
theorem ml_204 (em mi ic : Nat) : mMaxL (DD em mi ic) 204 = 5 := rfl
theorem sg205_0 (em mi ic : Nat) : mSeg (DD em mi ic) 205 0 = g205_0 := rfl
theorem lv205_0 (em mi ic : Nat) : mLive (DD em mi ic) 205 0 = [1, 1, 1, 0, 0, 0] := rfl
theorem sg205_1 (em mi ic : Nat) : mSeg (DD em mi ic) 205 1 = g205_1 := rfl
theorem lv205_1 (em mi ic : Nat) : mLive (DD em mi ic) 205 1 = [1, 1, 1, 0, 0, 0] := rfl
theorem sg205_2 (em mi ic : Nat) : mSeg (DD em mi ic) 205 2 = g205_2 := rfl
theorem lv205_2 (em mi ic : Nat) : mLive (DD em mi ic) 205 2 = [1, 0, 1, 1, 1, 1] := rfl
theorem sg205_3 (em mi ic : Nat) : mSeg (DD em mi ic) 205 3 = g205_3 := rfl
theorem lv205_3 (em mi ic : Nat) : mLive (DD em mi ic) 205 3 = [1, 0, 1, 1, 0, 1] := rfl
theorem sg205_4 (em mi ic : Nat) : mSeg (DD em mi ic) 205 4 = g205_4 := rfl
theorem lv205_4 (em mi ic : Nat) : mLive (DD em mi ic) 205 4 = [1, 0, 1, 1, 0, 1] := rfl
theorem sg205_5 (em mi ic : Nat) : mSeg (DD em mi ic) 205 5 = g205_5 := rfl
theorem lv205_5 (em mi ic : Nat) : mLive (DD em mi ic) 205 5 = [1, 0, 0, 1, 1, 0] := rfl
theorem sg205_6 (em mi ic : Nat) : mSeg (DD em mi ic) 205 6 = g205_6 := rfl
theorem lv205_6 (em mi ic : Nat) : mLive (DD em mi ic) 205 6 = [0, 0, 0, 0, 0, 0] := rfl
theorem sg205_7 (em mi ic : Nat) : mSeg (DD em mi ic) 205 7 = g205_7 := rfl
theorem lv205_7 (em mi ic : Nat) : mLive (DD em mi ic) 205 7 = [0, 0, 0, 0, 0, 0] := rfl
theorem bc_205 (em mi ic : Nat) : mBc (DD em mi ic) 205 = 0 := rfl
theorem bs_205 (em mi ic : Nat) : mBs (DD em mi ic) 205 = 0 := rfl
theorem rt_205 (em mi ic : Nat) : mRet (DD em mi ic) 205 = some .boolean := rfl
theorem ml_205 (em mi ic : Nat) : mMaxL (DD em mi ic) 205 = 6 := rfl
theorem sg206_0 (em mi ic : Nat) : mSeg (DD em mi ic) 206 0 = g206_0 := rfl
theorem lv206_0 (em mi ic : Nat) : mLive (DD em mi ic) 206 0 = [1, 1, 1] := rfl
theorem sg206_1 (em mi ic : Nat) : mSeg (DD em mi ic) 206 1 = g206_1 := rfl
theorem lv206_1 (em mi ic : Nat) : mLive (DD em mi ic) 206 1 = [0, 0, 0] := rfl
theorem sg206_2 (em mi ic : Nat) : mSeg (DD em mi ic) 206 2 = g206_2 := rfl
theorem lv206_2 (em mi ic : Nat) : mLive (DD em mi ic) 206 2 = [0, 0, 0] := rfl
theorem bc_206 (em mi ic : Nat) : mBc (DD em mi ic) 206 = 0 := rfl
theorem bs_206 (em mi ic : Nat) : mBs (DD em mi ic) 206 = 0 := rfl
theorem rt_206 (em mi ic : Nat) : mRet (DD em mi ic) 206 = some .boolean := rfl
theorem ml_206 (em mi ic : Nat) : mMaxL (DD em mi ic) 206 = 3 := rfl
theorem sg207_0 (em mi ic : Nat) : mSeg (DD em mi ic) 207 0 = g207_0 := rfl
theorem lv207_0 (em mi ic : Nat) : mLive (DD em mi ic) 207 0 = [1, 1, 1, 0, 0] := rfl
theorem sg207_1 (em mi ic : Nat) : mSeg (DD em mi ic) 207 1 = g207_1 := rfl
theorem lv207_1 (em mi ic : Nat) : mLive (DD em mi ic) 207 1 = [0, 1, 0, 0, 0] := rfl
theorem sg207_2 (em mi ic : Nat) : mSeg (DD em mi ic) 207 2 = g207_2 := rfl
theorem lv207_2 (em mi ic : Nat) : mLive (DD em mi ic) 207 2 = [0, 0, 0, 0, 0] := rfl
theorem sg207_3 (em mi ic : Nat) : mSeg (DD em mi ic) 207 3 = g207_3 := rfl
theorem lv207_3 (em mi ic : Nat) : mLive (DD em mi ic) 207 3 = [0, 0, 0, 0, 0] := rfl
theorem sg207_4 (em mi ic : Nat) : mSeg (DD em mi ic) 207 4 = g207_4 := rfl
theorem lv207_4 (em mi ic : Nat) : mLive (DD em mi ic) 207 4 = [1, 1, 1, 0, 0] := rfl
theorem sg207_5 (em mi ic : Nat) : mSeg (DD em mi ic) 207 5 = g207_5 := rfl
theorem lv207_5 (em mi ic : Nat) : mLive (DD em mi ic) 207 5 = [0, 0, 0, 0, 0] := rfl
theorem sg207_6 (em mi ic : Nat) : mSeg (DD em mi ic) 207 6 = g207_6 := rfl
theorem lv207_6 (em mi ic : Nat) : mLive (DD em mi ic) 207 6 = [0, 1, 1, 0, 0] := rfl
theorem sg207_7 (em mi ic : Nat) : mSeg (DD em mi ic) 207 7 = g207_7 := rfl
theorem lv207_7 (em mi ic : Nat) : mLive (DD em mi ic) 207 7 = [0, 0, 0, 0, 0] := rfl
theorem sg207_8 (em mi ic : Nat) : mSeg (DD em mi ic) 207 8 = g207_8 := rfl
theorem lv207_8 (em mi ic : Nat) : mLive (DD em mi ic) 207 8 = [0, 0, 0, 0, 0] := rfl
theorem bc_207 (em mi ic : Nat) : mBc (DD em mi ic) 207 = 0 := rfl
theorem bs_207 (em mi ic : Nat) : mBs (DD em mi ic) 207 = 0 := rfl
theorem rt_207 (em mi ic : Nat) : mRet (DD em mi ic) 207 = some .boolean := rfl
theorem ml_207 (em mi ic : Nat) : mMaxL (DD em mi ic) 207 = 5 := rfl
theorem sg208_0 (em mi ic : Nat) : mSeg (DD em mi ic) 208 0 = g208_0 := rfl
theorem lv208_0 (em mi ic : Nat) : mLive (DD em mi ic) 208 0 = [1, 1, 1] := rfl
theorem bc_208 (em mi ic : Nat) : mBc (DD em mi ic) 208 = 0 := rfl
theorem bs_208 (em mi ic : Nat) : mBs (DD em mi ic) 208 = 0 := rfl
theorem rt_208 (em mi ic : Nat) : mRet (DD em mi ic) 208 = some .int := rfl
theorem ml_208 (em mi ic : Nat) : mMaxL (DD em mi ic) 208 = 3 := rfl
theorem sg209_0 (em mi ic : Nat) : mSeg (DD em mi ic) 209 0 = g209_0 := rfl
theorem lv209_0 (em mi ic : Nat) : mLive (DD em mi ic) 209 0 = [1, 1, 0, 0] := rfl
theorem sg209_1 (em mi ic : Nat) : mSeg (DD em mi ic) 209 1 = g209_1 := rfl
theorem lv209_1 (em mi ic : Nat) : mLive (DD em mi ic) 209 1 = [1, 1, 1, 0] := rfl
theorem sg209_2 (em mi ic : Nat) : mSeg (DD em mi ic) 209 2 = g209_2 := rfl
theorem lv209_2 (em mi ic : Nat) : mLive (DD em mi ic) 209 2 = [1, 1, 0, 0] := rfl
theorem bc_209 (em mi ic : Nat) : mBc (DD em mi ic) 209 = 1 := rfl
theorem bs_209 (em mi ic : Nat) : mBs (DD em mi ic) 209 = 15 := rfl
theorem rt_209 (em mi ic : Nat) : mRet (DD em mi ic) 209 = some (.array (.object "java/lang/Object")) := rfl
theorem ml_209 (em mi ic : Nat) : mMaxL (DD em mi ic) 209 = 4 := rfl
theorem sg210_0 (em mi ic : Nat) : mSeg (DD em mi ic) 210 0 = g210_0 := rfl
theorem lv210_0 (em mi ic : Nat) : mLive (DD em mi ic) 210 0 = [1, 1, 0, 0, 0] := rfl
theorem sg210_1 (em mi ic : Nat) : mSeg (DD em mi ic) 210 1 = g210_1 := rfl
theorem lv210_1 (em mi ic : Nat) : mLive (DD em mi ic) 210 1 = [1, 1, 1, 1, 0] := rfl
theorem sg210_2 (em mi ic : Nat) : mSeg (DD em mi ic) 210 2 = g210_2 := rfl
theorem lv210_2 (em mi ic : Nat) : mLive (DD em mi ic) 210 2 = [1, 1, 1, 1, 0] := rfl
theorem sg210_3 (em mi ic : Nat) : mSeg (DD em mi ic) 210 3 = g210_3 := rfl
theorem lv210_3 (em mi ic : Nat) : mLive (DD em mi ic) 210 3 = [0, 0, 1, 0, 0] := rfl
theorem bc_210 (em mi ic : Nat) : mBc (DD em mi ic) 210 = 0 := rfl
theorem bs_210 (em mi ic : Nat) : mBs (DD em mi ic) 210 = 0 := rfl
theorem rt_210 (em mi ic : Nat) : mRet (DD em mi ic) 210 = some (.object "Twelvehundred$Hall") := rfl
theorem ml_210 (em mi ic : Nat) : mMaxL (DD em mi ic) 210 = 5 := rfl
theorem sg211_0 (em mi ic : Nat) : mSeg (DD em mi ic) 211 0 = g211_0 := rfl
theorem lv211_0 (em mi ic : Nat) : mLive (DD em mi ic) 211 0 = [1, 1, 1, 0] := rfl
theorem sg211_1 (em mi ic : Nat) : mSeg (DD em mi ic) 211 1 = g211_1 := rfl
theorem lv211_1 (em mi ic : Nat) : mLive (DD em mi ic) 211 1 = [1, 1, 1, 0] := rfl
theorem sg211_2 (em mi ic : Nat) : mSeg (DD em mi ic) 211 2 = g211_2 := rfl
theorem lv211_2 (em mi ic : Nat) : mLive (DD em mi ic) 211 2 = [1, 1, 1, 0] := rfl
theorem sg211_3 (em mi ic : Nat) : mSeg (DD em mi ic) 211 3 = g211_3 := rfl
theorem lv211_3 (em mi ic : Nat) : mLive (DD em mi ic) 211 3 = [0, 0, 0, 0] := rfl
theorem bc_211 (em mi ic : Nat) : mBc (DD em mi ic) 211 = 0 := rfl
theorem bs_211 (em mi ic : Nat) : mBs (DD em mi ic) 211 = 0 := rfl
theorem rt_211 (em mi ic : Nat) : mRet (DD em mi ic) 211 = none := rfl
theorem ml_211 (em mi ic : Nat) : mMaxL (DD em mi ic) 211 = 4 := rfl
theorem sg212_0 (em mi ic : Nat) : mSeg (DD em mi ic) 212 0 = g212_0 := rfl
theorem lv212_0 (em mi ic : Nat) : mLive (DD em mi ic) 212 0 = [1] := rfl
theorem bc_212 (em mi ic : Nat) : mBc (DD em mi ic) 212 = 0 := rfl
theorem bs_212 (em mi ic : Nat) : mBs (DD em mi ic) 212 = 0 := rfl
theorem rt_212 (em mi ic : Nat) : mRet (DD em mi ic) 212 = some (.array .byte) := rfl
theorem ml_212 (em mi ic : Nat) : mMaxL (DD em mi ic) 212 = 1 := rfl
theorem sg213_0 (em mi ic : Nat) : mSeg (DD em mi ic) 213 0 = g213_0 := rfl
theorem lv213_0 (em mi ic : Nat) : mLive (DD em mi ic) 213 0 = [1] := rfl
theorem bc_213 (em mi ic : Nat) : mBc (DD em mi ic) 213 = 0 := rfl
theorem bs_213 (em mi ic : Nat) : mBs (DD em mi ic) 213 = 0 := rfl
theorem rt_213 (em mi ic : Nat) : mRet (DD em mi ic) 213 = some .int := rfl
theorem ml_213 (em mi ic : Nat) : mMaxL (DD em mi ic) 213 = 1 := rfl
theorem sg214_0 (em mi ic : Nat) : mSeg (DD em mi ic) 214 0 = g214_0 := rfl
theorem lv214_0 (em mi ic : Nat) : mLive (DD em mi ic) 214 0 = [1, 1, 1] := rfl
theorem sg214_1 (em mi ic : Nat) : mSeg (DD em mi ic) 214 1 = g214_1 := rfl
theorem lv214_1 (em mi ic : Nat) : mLive (DD em mi ic) 214 1 = [1, 1, 1] := rfl
theorem sg214_2 (em mi ic : Nat) : mSeg (DD em mi ic) 214 2 = g214_2 := rfl
theorem lv214_2 (em mi ic : Nat) : mLive (DD em mi ic) 214 2 = [1, 0, 0] := rfl
theorem bc_214 (em mi ic : Nat) : mBc (DD em mi ic) 214 = 1 := rfl
theorem bs_214 (em mi ic : Nat) : mBs (DD em mi ic) 214 = 16 := rfl
theorem rt_214 (em mi ic : Nat) : mRet (DD em mi ic) 214 = some (.array .byte) := rfl
theorem ml_214 (em mi ic : Nat) : mMaxL (DD em mi ic) 214 = 3 := rfl
theorem sg215_0 (em mi ic : Nat) : mSeg (DD em mi ic) 215 0 = g215_0 := rfl
theorem lv215_0 (em mi ic : Nat) : mLive (DD em mi ic) 215 0 = [1, 1] := rfl
theorem sg215_1 (em mi ic : Nat) : mSeg (DD em mi ic) 215 1 = g215_1 := rfl
theorem lv215_1 (em mi ic : Nat) : mLive (DD em mi ic) 215 1 = [1, 1] := rfl
theorem sg215_2 (em mi ic : Nat) : mSeg (DD em mi ic) 215 2 = g215_2 := rfl
theorem lv215_2 (em mi ic : Nat) : mLive (DD em mi ic) 215 2 = [0, 0] := rfl
theorem sg215_3 (em mi ic : Nat) : mSeg (DD em mi ic) 215 3 = g215_3 := rfl
theorem lv215_3 (em mi ic : Nat) : mLive (DD em mi ic) 215 3 = [1, 1] := rfl
theorem sg215_4 (em mi ic : Nat) : mSeg (DD em mi ic) 215 4 = g215_4 := rfl
theorem lv215_4 (em mi ic : Nat) : mLive (DD em mi ic) 215 4 = [0, 0] := rfl
theorem sg215_5 (em mi ic : Nat) : mSeg (DD em mi ic) 215 5 = g215_5 := rfl
theorem lv215_5 (em mi ic : Nat) : mLive (DD em mi ic) 215 5 = [0, 0] := rfl
theorem bc_215 (em mi ic : Nat) : mBc (DD em mi ic) 215 = 0 := rfl
theorem bs_215 (em mi ic : Nat) : mBs (DD em mi ic) 215 = 0 := rfl
theorem rt_215 (em mi ic : Nat) : mRet (DD em mi ic) 215 = some .boolean := rfl
theorem ml_215 (em mi ic : Nat) : mMaxL (DD em mi ic) 215 = 2 := rfl
theorem sg216_0 (em mi ic : Nat) : mSeg (DD em mi ic) 216 0 = g216_0 := rfl
theorem lv216_0 (em mi ic : Nat) : mLive (DD em mi ic) 216 0 = [1, 1, 1, 0] := rfl
theorem sg216_1 (em mi ic : Nat) : mSeg (DD em mi ic) 216 1 = g216_1 := rfl
theorem lv216_1 (em mi ic : Nat) : mLive (DD em mi ic) 216 1 = [1, 1, 0, 0] := rfl
theorem bc_216 (em mi ic : Nat) : mBc (DD em mi ic) 216 = 0 := rfl
theorem bs_216 (em mi ic : Nat) : mBs (DD em mi ic) 216 = 0 := rfl
theorem rt_216 (em mi ic : Nat) : mRet (DD em mi ic) 216 = some .int := rfl
theorem ml_216 (em mi ic : Nat) : mMaxL (DD em mi ic) 216 = 4 := rfl
theorem sg217_0 (em mi ic : Nat) : mSeg (DD em mi ic) 217 0 = g217_0 := rfl
theorem lv217_0 (em mi ic : Nat) : mLive (DD em mi ic) 217 0 = [1, 1] := rfl
theorem bc_217 (em mi ic : Nat) : mBc (DD em mi ic) 217 = 1 := rfl
theorem bs_217 (em mi ic : Nat) : mBs (DD em mi ic) 217 = 15 := rfl
theorem rt_217 (em mi ic : Nat) : mRet (DD em mi ic) 217 = some (.array (.object "java/lang/Object")) := rfl
theorem ml_217 (em mi ic : Nat) : mMaxL (DD em mi ic) 217 = 2 := rfl
theorem sg218_0 (em mi ic : Nat) : mSeg (DD em mi ic) 218 0 = g218_0 := rfl
theorem lv218_0 (em mi ic : Nat) : mLive (DD em mi ic) 218 0 = [1, 1, 1] := rfl
theorem sg218_1 (em mi ic : Nat) : mSeg (DD em mi ic) 218 1 = g218_1 := rfl
theorem lv218_1 (em mi ic : Nat) : mLive (DD em mi ic) 218 1 = [0, 0, 0] := rfl
theorem sg218_2 (em mi ic : Nat) : mSeg (DD em mi ic) 218 2 = g218_2 := rfl
theorem lv218_2 (em mi ic : Nat) : mLive (DD em mi ic) 218 2 = [0, 0, 0] := rfl
theorem bc_218 (em mi ic : Nat) : mBc (DD em mi ic) 218 = 0 := rfl
theorem bs_218 (em mi ic : Nat) : mBs (DD em mi ic) 218 = 0 := rfl
theorem rt_218 (em mi ic : Nat) : mRet (DD em mi ic) 218 = some .boolean := rfl
theorem ml_218 (em mi ic : Nat) : mMaxL (DD em mi ic) 218 = 3 := rfl
theorem sg219_0 (em mi ic : Nat) : mSeg (DD em mi ic) 219 0 = g219_0 := rfl
theorem lv219_0 (em mi ic : Nat) : mLive (DD em mi ic) 219 0 = [1, 1, 0, 0, 0] := rfl
theorem sg219_1 (em mi ic : Nat) : mSeg (DD em mi ic) 219 1 = g219_1 := rfl
theorem lv219_1 (em mi ic : Nat) : mLive (DD em mi ic) 219 1 = [1, 1, 1, 1, 0] := rfl
theorem sg219_2 (em mi ic : Nat) : mSeg (DD em mi ic) 219 2 = g219_2 := rfl
theorem lv219_2 (em mi ic : Nat) : mLive (DD em mi ic) 219 2 = [1, 1, 0, 1, 1] := rfl
theorem sg219_3 (em mi ic : Nat) : mSeg (DD em mi ic) 219 3 = g219_3 := rfl
theorem lv219_3 (em mi ic : Nat) : mLive (DD em mi ic) 219 3 = [1, 1, 1, 1, 0] := rfl
theorem sg219_4 (em mi ic : Nat) : mSeg (DD em mi ic) 219 4 = g219_4 := rfl
theorem lv219_4 (em mi ic : Nat) : mLive (DD em mi ic) 219 4 = [0, 0, 1, 0, 0] := rfl
theorem bc_219 (em mi ic : Nat) : mBc (DD em mi ic) 219 = 0 := rfl
theorem bs_219 (em mi ic : Nat) : mBs (DD em mi ic) 219 = 0 := rfl
theorem rt_219 (em mi ic : Nat) : mRet (DD em mi ic) 219 = some (.object "Twelvehundred$Household") := rfl
theorem ml_219 (em mi ic : Nat) : mMaxL (DD em mi ic) 219 = 5 := rfl
theorem sg220_0 (em mi ic : Nat) : mSeg (DD em mi ic) 220 0 = g220_0 := rfl
theorem lv220_0 (em mi ic : Nat) : mLive (DD em mi ic) 220 0 = [1] := rfl
theorem bc_220 (em mi ic : Nat) : mBc (DD em mi ic) 220 = 0 := rfl
theorem bs_220 (em mi ic : Nat) : mBs (DD em mi ic) 220 = 0 := rfl
theorem rt_220 (em mi ic : Nat) : mRet (DD em mi ic) 220 = some .int := rfl
theorem ml_220 (em mi ic : Nat) : mMaxL (DD em mi ic) 220 = 1 := rfl
theorem sg221_0 (em mi ic : Nat) : mSeg (DD em mi ic) 221 0 = g221_0 := rfl
theorem lv221_0 (em mi ic : Nat) : mLive (DD em mi ic) 221 0 = [1, 1, 1, 0, 0] := rfl
theorem bc_221 (em mi ic : Nat) : mBc (DD em mi ic) 221 = 1 := rfl
theorem bs_221 (em mi ic : Nat) : mBs (DD em mi ic) 221 = 16 := rfl
theorem rt_221 (em mi ic : Nat) : mRet (DD em mi ic) 221 = some (.array .byte) := rfl
theorem ml_221 (em mi ic : Nat) : mMaxL (DD em mi ic) 221 = 5 := rfl
theorem sg222_0 (em mi ic : Nat) : mSeg (DD em mi ic) 222 0 = g222_0 := rfl
theorem lv222_0 (em mi ic : Nat) : mLive (DD em mi ic) 222 0 = [1, 1, 1, 0] := rfl
theorem sg222_1 (em mi ic : Nat) : mSeg (DD em mi ic) 222 1 = g222_1 := rfl
theorem lv222_1 (em mi ic : Nat) : mLive (DD em mi ic) 222 1 = [0, 0, 1, 0] := rfl
theorem sg222_2 (em mi ic : Nat) : mSeg (DD em mi ic) 222 2 = g222_2 := rfl
theorem lv222_2 (em mi ic : Nat) : mLive (DD em mi ic) 222 2 = [1, 1, 0, 0] := rfl
theorem bc_222 (em mi ic : Nat) : mBc (DD em mi ic) 222 = 1 := rfl
theorem bs_222 (em mi ic : Nat) : mBs (DD em mi ic) 222 = 15 := rfl
theorem rt_222 (em mi ic : Nat) : mRet (DD em mi ic) 222 = some (.array (.object "java/lang/Object")) := rfl
theorem ml_222 (em mi ic : Nat) : mMaxL (DD em mi ic) 222 = 4 := rfl
theorem sg223_0 (em mi ic : Nat) : mSeg (DD em mi ic) 223 0 = g223_0 := rfl
theorem lv223_0 (em mi ic : Nat) : mLive (DD em mi ic) 223 0 = [1, 1] := rfl
theorem sg223_1 (em mi ic : Nat) : mSeg (DD em mi ic) 223 1 = g223_1 := rfl
theorem lv223_1 (em mi ic : Nat) : mLive (DD em mi ic) 223 1 = [0, 0] := rfl
theorem bc_223 (em mi ic : Nat) : mBc (DD em mi ic) 223 = 0 := rfl
theorem bs_223 (em mi ic : Nat) : mBs (DD em mi ic) 223 = 0 := rfl
theorem rt_223 (em mi ic : Nat) : mRet (DD em mi ic) 223 = none := rfl
theorem ml_223 (em mi ic : Nat) : mMaxL (DD em mi ic) 223 = 2 := rfl
theorem df_0_0 (em mi ic : Nat) : (DD em mi ic).2.1 0 0 = .array .byte := rfl
theorem df_0_1 (em mi ic : Nat) : (DD em mi ic).2.1 0 1 = .byte := rfl
theorem df_1_0 (em mi ic : Nat) : (DD em mi ic).2.1 1 0 = .array .byte := rfl
theorem df_1_1 (em mi ic : Nat) : (DD em mi ic).2.1 1 1 = .byte := rfl
theorem df_1_3 (em mi ic : Nat) : (DD em mi ic).2.1 1 3 = .int := rfl
theorem df_2_0 (em mi ic : Nat) : (DD em mi ic).2.1 2 0 = .int := rfl
theorem df_3_0 (em mi ic : Nat) : (DD em mi ic).2.1 3 0 = .int := rfl
theorem df_3_1 (em mi ic : Nat) : (DD em mi ic).2.1 3 1 = .int := rfl
theorem df_3_2 (em mi ic : Nat) : (DD em mi ic).2.1 3 2 = .int := rfl
theorem df_3_3 (em mi ic : Nat) : (DD em mi ic).2.1 3 3 = .object "java/util/ArrayList" := rfl
theorem df_4_0 (em mi ic : Nat) : (DD em mi ic).2.1 4 0 = .int := rfl
theorem df_4_1 (em mi ic : Nat) : (DD em mi ic).2.1 4 1 = .array (.object "java/lang/Object") := rfl
theorem df_4_2 (em mi ic : Nat) : (DD em mi ic).2.1 4 2 = .int := rfl
theorem df_5_0 (em mi ic : Nat) : (DD em mi ic).2.1 5 0 = .object "java/util/ArrayList" := rfl
theorem df_5_1 (em mi ic : Nat) : (DD em mi ic).2.1 5 1 = .object "java/util/ArrayList" := rfl
theorem df_5_2 (em mi ic : Nat) : (DD em mi ic).2.1 5 2 = .object "Twelvehundred$Placing" := rfl
theorem df_5_3 (em mi ic : Nat) : (DD em mi ic).2.1 5 3 = .array .int := rfl
theorem df_5_4 (em mi ic : Nat) : (DD em mi ic).2.1 5 4 = .int := rfl
theorem df_6_0 (em mi ic : Nat) : (DD em mi ic).2.1 6 0 = .object "java/util/ArrayList" := rfl
theorem df_6_1 (em mi ic : Nat) : (DD em mi ic).2.1 6 1 = .int := rfl
theorem df_7_0 (em mi ic : Nat) : (DD em mi ic).2.1 7 0 = .int := rfl
theorem df_7_1 (em mi ic : Nat) : (DD em mi ic).2.1 7 1 = .int := rfl
theorem df_7_2 (em mi ic : Nat) : (DD em mi ic).2.1 7 2 = .int := rfl
theorem df_8_0 (em mi ic : Nat) : (DD em mi ic).2.1 8 0 = .int := rfl
theorem df_8_1 (em mi ic : Nat) : (DD em mi ic).2.1 8 1 = .object "Twelvehundred$Street" := rfl
theorem df_8_2 (em mi ic : Nat) : (DD em mi ic).2.1 8 2 = .int := rfl
theorem df_8_3 (em mi ic : Nat) : (DD em mi ic).2.1 8 3 = .boolean := rfl
theorem df_8_4 (em mi ic : Nat) : (DD em mi ic).2.1 8 4 = .int := rfl
theorem df_9_0 (em mi ic : Nat) : (DD em mi ic).2.1 9 0 = .object "java/util/ArrayList" := rfl
theorem df_9_1 (em mi ic : Nat) : (DD em mi ic).2.1 9 1 = .int := rfl
theorem df_9_2 (em mi ic : Nat) : (DD em mi ic).2.1 9 2 = .int := rfl
theorem df_9_3 (em mi ic : Nat) : (DD em mi ic).2.1 9 3 = .int := rfl
theorem df_10_0 (em mi ic : Nat) : (DD em mi ic).2.1 10 0 = .int := rfl
theorem df_10_1 (em mi ic : Nat) : (DD em mi ic).2.1 10 1 = .boolean := rfl
theorem df_10_2 (em mi ic : Nat) : (DD em mi ic).2.1 10 2 = .int := rfl
theorem df_11_0 (em mi ic : Nat) : (DD em mi ic).2.1 11 0 = .int := rfl
theorem df_11_1 (em mi ic : Nat) : (DD em mi ic).2.1 11 1 = .int := rfl
theorem df_11_2 (em mi ic : Nat) : (DD em mi ic).2.1 11 2 = .int := rfl
theorem df_12_0 (em mi ic : Nat) : (DD em mi ic).2.1 12 0 = .object "java/util/ArrayList" := rfl
theorem df_12_1 (em mi ic : Nat) : (DD em mi ic).2.1 12 1 = .object "java/util/ArrayList" := rfl
theorem df_12_2 (em mi ic : Nat) : (DD em mi ic).2.1 12 2 = .array (.object "Twelvehundred$Hall") := rfl
theorem df_13_0 (em mi ic : Nat) : (DD em mi ic).2.1 13 0 = .object "Twelvehundred$River" := rfl
theorem df_13_1 (em mi ic : Nat) : (DD em mi ic).2.1 13 1 = .object "java/util/ArrayList" := rfl
theorem df_13_2 (em mi ic : Nat) : (DD em mi ic).2.1 13 2 = .int := rfl
theorem df_13_3 (em mi ic : Nat) : (DD em mi ic).2.1 13 3 = .int := rfl
theorem df_14_0 (em mi ic : Nat) : (DD em mi ic).2.1 14 0 = .int := rfl
theorem df_14_1 (em mi ic : Nat) : (DD em mi ic).2.1 14 1 = .int := rfl
theorem df_14_2 (em mi ic : Nat) : (DD em mi ic).2.1 14 2 = .int := rfl
theorem df_15_0 (em mi ic : Nat) : (DD em mi ic).2.1 15 0 = .int := rfl
theorem df_15_1 (em mi ic : Nat) : (DD em mi ic).2.1 15 1 = .int := rfl
theorem df_15_2 (em mi ic : Nat) : (DD em mi ic).2.1 15 2 = .int := rfl
theorem df_16_0 (em mi ic : Nat) : (DD em mi ic).2.1 16 0 = .object "Twelvehundred$River" := rfl
theorem df_16_1 (em mi ic : Nat) : (DD em mi ic).2.1 16 1 = .object "java/util/ArrayList" := rfl
theorem df_16_2 (em mi ic : Nat) : (DD em mi ic).2.1 16 2 = .object "java/util/ArrayList" := rfl
theorem df_16_3 (em mi ic : Nat) : (DD em mi ic).2.1 16 3 = .object "java/util/ArrayList" := rfl
theorem df_16_4 (em mi ic : Nat) : (DD em mi ic).2.1 16 4 = .object "Twelvehundred$Rescue" := rfl
theorem df_16_5 (em mi ic : Nat) : (DD em mi ic).2.1 16 5 = .object "Twelvehundred$Placing" := rfl
theorem df_16_6 (em mi ic : Nat) : (DD em mi ic).2.1 16 6 = .object "Twelvehundred$Asking" := rfl
theorem df_16_7 (em mi ic : Nat) : (DD em mi ic).2.1 16 7 = .object "Twelvehundred$Placing" := rfl
theorem df_16_8 (em mi ic : Nat) : (DD em mi ic).2.1 16 8 = .object "Twelvehundred$Larder" := rfl
theorem df_16_9 (em mi ic : Nat) : (DD em mi ic).2.1 16 9 = .object "Twelvehundred$Bulletin" := rfl
theorem df_17_0 (em mi ic : Nat) : (DD em mi ic).2.1 17 0 = .long := rfl
theorem df_18_0 (em mi ic : Nat) : (DD em mi ic).2.1 18 0 = .int := rfl
theorem df_18_1 (em mi ic : Nat) : (DD em mi ic).2.1 18 1 = .int := rfl
theorem df_18_2 (em mi ic : Nat) : (DD em mi ic).2.1 18 2 = .boolean := rfl
theorem df_18_3 (em mi ic : Nat) : (DD em mi ic).2.1 18 3 = .int := rfl
theorem df_19_0 (em mi ic : Nat) : (DD em mi ic).2.1 19 0 = .int := rfl
theorem df_19_1 (em mi ic : Nat) : (DD em mi ic).2.1 19 1 = .int := rfl
theorem df_19_2 (em mi ic : Nat) : (DD em mi ic).2.1 19 2 = .int := rfl
theorem df_19_3 (em mi ic : Nat) : (DD em mi ic).2.1 19 3 = .int := rfl
theorem df_19_4 (em mi ic : Nat) : (DD em mi ic).2.1 19 4 = .int := rfl
theorem df_19_5 (em mi ic : Nat) : (DD em mi ic).2.1 19 5 = .int := rfl
theorem df_19_6 (em mi ic : Nat) : (DD em mi ic).2.1 19 6 = .int := rfl
theorem df_19_7 (em mi ic : Nat) : (DD em mi ic).2.1 19 7 = .int := rfl
theorem df_19_8 (em mi ic : Nat) : (DD em mi ic).2.1 19 8 = .int := rfl
theorem df_19_9 (em mi ic : Nat) : (DD em mi ic).2.1 19 9 = .int := rfl
theorem df_19_10 (em mi ic : Nat) : (DD em mi ic).2.1 19 10 = .int := rfl
theorem df_19_11 (em mi ic : Nat) : (DD em mi ic).2.1 19 11 = .object "java/util/ArrayList" := rfl
theorem df_19_12 (em mi ic : Nat) : (DD em mi ic).2.1 19 12 = .object "java/util/ArrayList" := rfl
theorem df_19_13 (em mi ic : Nat) : (DD em mi ic).2.1 19 13 = .object "java/util/ArrayList" := rfl
theorem df_19_14 (em mi ic : Nat) : (DD em mi ic).2.1 19 14 = .object "java/util/ArrayList" := rfl
theorem df_19_15 (em mi ic : Nat) : (DD em mi ic).2.1 19 15 = .object "java/util/ArrayList" := rfl
theorem df_19_16 (em mi ic : Nat) : (DD em mi ic).2.1 19 16 = .int := rfl
theorem df_19_17 (em mi ic : Nat) : (DD em mi ic).2.1 19 17 = .long := rfl
theorem dd_0 (em mi ic : Nat) : (DD em mi ic).2.2.1 0 = [.null, .int 0, .int 0, .int 0] := rfl
theorem dd_1 (em mi ic : Nat) : (DD em mi ic).2.2.1 1 = [.null, .int 0, .int 0, .int 0] := rfl
theorem dd_2 (em mi ic : Nat) : (DD em mi ic).2.2.1 2 = [.int 0] := rfl
theorem dd_3 (em mi ic : Nat) : (DD em mi ic).2.2.1 3 = [.int 0, .int 0, .int 0, .null] := rfl
theorem dd_4 (em mi ic : Nat) : (DD em mi ic).2.2.1 4 = [.int 0, .null, .int 0] := rfl
theorem dd_5 (em mi ic : Nat) : (DD em mi ic).2.2.1 5 = [.null, .null, .null, .null, .int 0] := rfl
theorem dd_6 (em mi ic : Nat) : (DD em mi ic).2.2.1 6 = [.null, .int 0] := rfl
theorem dd_7 (em mi ic : Nat) : (DD em mi ic).2.2.1 7 = [.int 0, .int 0, .int 0] := rfl
theorem dd_8 (em mi ic : Nat) : (DD em mi ic).2.2.1 8 = [.int 0, .null, .int 0, .int 0, .int 0] := rfl
theorem dd_9 (em mi ic : Nat) : (DD em mi ic).2.2.1 9 = [.null, .int 0, .int 0, .int 0] := rfl
theorem dd_10 (em mi ic : Nat) : (DD em mi ic).2.2.1 10 = [.int 0, .int 0, .int 0] := rfl
theorem dd_11 (em mi ic : Nat) : (DD em mi ic).2.2.1 11 = [.int 0, .int 0, .int 0] := rfl
theorem dd_12 (em mi ic : Nat) : (DD em mi ic).2.2.1 12 = [.null, .null, .null] := rfl
theorem dd_13 (em mi ic : Nat) : (DD em mi ic).2.2.1 13 = [.null, .null, .int 0, .int 0] := rfl
theorem dd_14 (em mi ic : Nat) : (DD em mi ic).2.2.1 14 = [.int 0, .int 0, .int 0] := rfl
theorem dd_15 (em mi ic : Nat) : (DD em mi ic).2.2.1 15 = [.int 0, .int 0, .int 0] := rfl
theorem dd_16 (em mi ic : Nat) : (DD em mi ic).2.2.1 16 = [.null, .null, .null, .null, .null, .null, .null, .null, .null, .null] := rfl
theorem dd_17 (em mi ic : Nat) : (DD em mi ic).2.2.1 17 = [.long 0] := rfl
theorem dd_18 (em mi ic : Nat) : (DD em mi ic).2.2.1 18 = [.int 0, .int 0, .int 0, .int 0] := rfl
theorem dd_19 (em mi ic : Nat) : (DD em mi ic).2.2.1 19 = [.int 0, .int 0, .int 0, .int 0, .int 0, .int 0, .int 0, .int 0, .int 0, .int 0, .int 0, .null, .null, .null, .null, .null, .int 0, .long 0] := rfl
theorem st_0 (em mi ic : Nat) : (DD em mi ic).2.2.2.2.2.2 0 = .ref em := rfl
theorem st_1 (em mi ic : Nat) : (DD em mi ic).2.2.2.2.2.2 1 = .int 1 := rfl
theorem st_2 (em mi ic : Nat) : (DD em mi ic).2.2.2.2.2.2 2 = .int 127 := rfl
theorem st_3 (em mi ic : Nat) : (DD em mi ic).2.2.2.2.2.2 3 = .ref ic := rfl
theorem st_100 (em mi ic : Nat) : (DD em mi ic).2.2.2.2.2.2 100 = .ref mi := rfl
