/-! what the tables say of each method, row by row, by program -/
theorem sg0_0 (em mi ic : Nat) : mSeg (DD em mi ic) 0 0 = g0_0 := rfl
theorem lv0_0 (em mi ic : Nat) : mLive (DD em mi ic) 0 0 = [1, 0, 0, 0, 0, 0, 0, 0, 0] := rfl
theorem sg0_1 (em mi ic : Nat) : mSeg (DD em mi ic) 0 1 = g0_1 := rfl
theorem lv0_1 (em mi ic : Nat) : mLive (DD em mi ic) 0 1 = [1, 1, 1, 1, 0, 0, 0, 0, 0] := rfl
theorem sg0_2 (em mi ic : Nat) : mSeg (DD em mi ic) 0 2 = g0_2 := rfl
theorem lv0_2 (em mi ic : Nat) : mLive (DD em mi ic) 0 2 = [1, 1, 0, 1, 0, 0, 1, 1, 0] := rfl
theorem sg0_3 (em mi ic : Nat) : mSeg (DD em mi ic) 0 3 = g0_3 := rfl
theorem lv0_3 (em mi ic : Nat) : mLive (DD em mi ic) 0 3 = [0, 0, 0, 0, 0, 0, 0, 0, 0] := rfl
theorem sg0_4 (em mi ic : Nat) : mSeg (DD em mi ic) 0 4 = g0_4 := rfl
theorem lv0_4 (em mi ic : Nat) : mLive (DD em mi ic) 0 4 = [1, 1, 0, 1, 0, 0, 0, 0, 1] := rfl
theorem sg0_5 (em mi ic : Nat) : mSeg (DD em mi ic) 0 5 = g0_5 := rfl
theorem lv0_5 (em mi ic : Nat) : mLive (DD em mi ic) 0 5 = [0, 0, 0, 0, 0, 0, 0, 0, 0] := rfl
theorem sg0_6 (em mi ic : Nat) : mSeg (DD em mi ic) 0 6 = g0_6 := rfl
theorem lv0_6 (em mi ic : Nat) : mLive (DD em mi ic) 0 6 = [1, 1, 1, 1, 0, 0, 0, 0, 0] := rfl
theorem sg0_7 (em mi ic : Nat) : mSeg (DD em mi ic) 0 7 = g0_7 := rfl
theorem lv0_7 (em mi ic : Nat) : mLive (DD em mi ic) 0 7 = [1, 1, 1, 1, 0, 0, 0, 0, 0] := rfl
theorem sg0_8 (em mi ic : Nat) : mSeg (DD em mi ic) 0 8 = g0_8 := rfl
theorem lv0_8 (em mi ic : Nat) : mLive (DD em mi ic) 0 8 = [0, 1, 1, 0, 0, 0, 0, 0, 0] := rfl
theorem sg0_9 (em mi ic : Nat) : mSeg (DD em mi ic) 0 9 = g0_9 := rfl
theorem lv0_9 (em mi ic : Nat) : mLive (DD em mi ic) 0 9 = [0, 0, 0, 0, 0, 0, 0, 0, 0] := rfl
theorem sg0_10 (em mi ic : Nat) : mSeg (DD em mi ic) 0 10 = g0_10 := rfl
theorem lv0_10 (em mi ic : Nat) : mLive (DD em mi ic) 0 10 = [0, 0, 0, 0, 0, 0, 0, 0, 0] := rfl
theorem bc_0 (em mi ic : Nat) : mBc (DD em mi ic) 0 = 200000 := rfl
theorem bs_0 (em mi ic : Nat) : mBs (DD em mi ic) 0 = 2000000 := rfl
theorem rt_0 (em mi ic : Nat) : mRet (DD em mi ic) 0 = some .boolean := rfl
theorem ml_0 (em mi ic : Nat) : mMaxL (DD em mi ic) 0 = 9 := rfl
theorem sg1_0 (em mi ic : Nat) : mSeg (DD em mi ic) 1 0 = g1_0 := rfl
theorem lv1_0 (em mi ic : Nat) : mLive (DD em mi ic) 1 0 = [1, 0, 0, 0, 0, 0] := rfl
theorem sg1_1 (em mi ic : Nat) : mSeg (DD em mi ic) 1 1 = g1_1 := rfl
theorem lv1_1 (em mi ic : Nat) : mLive (DD em mi ic) 1 1 = [1, 1, 1, 1, 0, 0] := rfl
theorem sg1_2 (em mi ic : Nat) : mSeg (DD em mi ic) 1 2 = g1_2 := rfl
theorem lv1_2 (em mi ic : Nat) : mLive (DD em mi ic) 1 2 = [1, 1, 1, 0, 0, 0] := rfl
theorem sg1_3 (em mi ic : Nat) : mSeg (DD em mi ic) 1 3 = g1_3 := rfl
theorem lv1_3 (em mi ic : Nat) : mLive (DD em mi ic) 1 3 = [1, 1, 1, 1, 1, 0] := rfl
theorem sg1_4 (em mi ic : Nat) : mSeg (DD em mi ic) 1 4 = g1_4 := rfl
theorem lv1_4 (em mi ic : Nat) : mLive (DD em mi ic) 1 4 = [1, 1, 1, 0, 0, 0] := rfl
theorem sg1_5 (em mi ic : Nat) : mSeg (DD em mi ic) 1 5 = g1_5 := rfl
theorem lv1_5 (em mi ic : Nat) : mLive (DD em mi ic) 1 5 = [1, 1, 1, 0, 1, 1] := rfl
theorem sg1_6 (em mi ic : Nat) : mSeg (DD em mi ic) 1 6 = g1_6 := rfl
theorem lv1_6 (em mi ic : Nat) : mLive (DD em mi ic) 1 6 = [1, 1, 1, 0, 1, 1] := rfl
theorem sg1_7 (em mi ic : Nat) : mSeg (DD em mi ic) 1 7 = g1_7 := rfl
theorem lv1_7 (em mi ic : Nat) : mLive (DD em mi ic) 1 7 = [1, 1, 1, 0, 1, 1] := rfl
theorem sg1_8 (em mi ic : Nat) : mSeg (DD em mi ic) 1 8 = g1_8 := rfl
theorem lv1_8 (em mi ic : Nat) : mLive (DD em mi ic) 1 8 = [1, 1, 0, 0, 0, 0] := rfl
theorem bc_1 (em mi ic : Nat) : mBc (DD em mi ic) 1 = 50 := rfl
theorem bs_1 (em mi ic : Nat) : mBs (DD em mi ic) 1 = 400 := rfl
theorem rt_1 (em mi ic : Nat) : mRet (DD em mi ic) 1 = some (.object "Twelvehundred") := rfl
theorem ml_1 (em mi ic : Nat) : mMaxL (DD em mi ic) 1 = 6 := rfl
theorem sg2_0 (em mi ic : Nat) : mSeg (DD em mi ic) 2 0 = g2_0 := rfl
theorem lv2_0 (em mi ic : Nat) : mLive (DD em mi ic) 2 0 = [1, 0, 0, 0, 0] := rfl
theorem sg2_1 (em mi ic : Nat) : mSeg (DD em mi ic) 2 1 = g2_1 := rfl
theorem lv2_1 (em mi ic : Nat) : mLive (DD em mi ic) 2 1 = [1, 1, 0, 1, 0] := rfl
theorem sg2_2 (em mi ic : Nat) : mSeg (DD em mi ic) 2 2 = g2_2 := rfl
theorem lv2_2 (em mi ic : Nat) : mLive (DD em mi ic) 2 2 = [1, 1, 0, 0, 0] := rfl
theorem sg2_3 (em mi ic : Nat) : mSeg (DD em mi ic) 2 3 = g2_3 := rfl
theorem lv2_3 (em mi ic : Nat) : mLive (DD em mi ic) 2 3 = [1, 1, 0, 1, 0] := rfl
theorem sg2_4 (em mi ic : Nat) : mSeg (DD em mi ic) 2 4 = g2_4 := rfl
theorem lv2_4 (em mi ic : Nat) : mLive (DD em mi ic) 2 4 = [1, 1, 0, 1, 1] := rfl
theorem sg2_5 (em mi ic : Nat) : mSeg (DD em mi ic) 2 5 = g2_5 := rfl
theorem lv2_5 (em mi ic : Nat) : mLive (DD em mi ic) 2 5 = [1, 1, 0, 1, 0] := rfl
theorem sg2_6 (em mi ic : Nat) : mSeg (DD em mi ic) 2 6 = g2_6 := rfl
theorem lv2_6 (em mi ic : Nat) : mLive (DD em mi ic) 2 6 = [1, 1, 0, 0, 0] := rfl
theorem sg2_7 (em mi ic : Nat) : mSeg (DD em mi ic) 2 7 = g2_7 := rfl
theorem lv2_7 (em mi ic : Nat) : mLive (DD em mi ic) 2 7 = [1, 1, 0, 1, 0] := rfl
theorem sg2_8 (em mi ic : Nat) : mSeg (DD em mi ic) 2 8 = g2_8 := rfl
theorem lv2_8 (em mi ic : Nat) : mLive (DD em mi ic) 2 8 = [1, 1, 0, 1, 1] := rfl
theorem sg2_9 (em mi ic : Nat) : mSeg (DD em mi ic) 2 9 = g2_9 := rfl
theorem lv2_9 (em mi ic : Nat) : mLive (DD em mi ic) 2 9 = [1, 1, 0, 1, 0] := rfl
theorem sg2_10 (em mi ic : Nat) : mSeg (DD em mi ic) 2 10 = g2_10 := rfl
theorem lv2_10 (em mi ic : Nat) : mLive (DD em mi ic) 2 10 = [1, 1, 0, 0, 0] := rfl
theorem sg2_11 (em mi ic : Nat) : mSeg (DD em mi ic) 2 11 = g2_11 := rfl
theorem lv2_11 (em mi ic : Nat) : mLive (DD em mi ic) 2 11 = [1, 1, 0, 1, 0] := rfl
theorem sg2_12 (em mi ic : Nat) : mSeg (DD em mi ic) 2 12 = g2_12 := rfl
theorem lv2_12 (em mi ic : Nat) : mLive (DD em mi ic) 2 12 = [1, 1, 0, 1, 1] := rfl
theorem sg2_13 (em mi ic : Nat) : mSeg (DD em mi ic) 2 13 = g2_13 := rfl
theorem lv2_13 (em mi ic : Nat) : mLive (DD em mi ic) 2 13 = [1, 1, 0, 1, 0] := rfl
theorem sg2_14 (em mi ic : Nat) : mSeg (DD em mi ic) 2 14 = g2_14 := rfl
theorem lv2_14 (em mi ic : Nat) : mLive (DD em mi ic) 2 14 = [1, 1, 0, 0, 0] := rfl
theorem sg2_15 (em mi ic : Nat) : mSeg (DD em mi ic) 2 15 = g2_15 := rfl
theorem lv2_15 (em mi ic : Nat) : mLive (DD em mi ic) 2 15 = [1, 1, 0, 1, 0] := rfl
theorem sg2_16 (em mi ic : Nat) : mSeg (DD em mi ic) 2 16 = g2_16 := rfl
theorem lv2_16 (em mi ic : Nat) : mLive (DD em mi ic) 2 16 = [1, 1, 0, 1, 1] := rfl
theorem sg2_17 (em mi ic : Nat) : mSeg (DD em mi ic) 2 17 = g2_17 := rfl
theorem lv2_17 (em mi ic : Nat) : mLive (DD em mi ic) 2 17 = [1, 1, 0, 1, 0] := rfl
theorem sg2_18 (em mi ic : Nat) : mSeg (DD em mi ic) 2 18 = g2_18 := rfl
theorem lv2_18 (em mi ic : Nat) : mLive (DD em mi ic) 2 18 = [1, 1, 0, 0, 0] := rfl
theorem bc_2 (em mi ic : Nat) : mBc (DD em mi ic) 2 = 4 := rfl
theorem bs_2 (em mi ic : Nat) : mBs (DD em mi ic) 2 = 40 := rfl
theorem rt_2 (em mi ic : Nat) : mRet (DD em mi ic) 2 = some .long := rfl
theorem ml_2 (em mi ic : Nat) : mMaxL (DD em mi ic) 2 = 5 := rfl
theorem sg3_0 (em mi ic : Nat) : mSeg (DD em mi ic) 3 0 = g3_0 := rfl
theorem lv3_0 (em mi ic : Nat) : mLive (DD em mi ic) 3 0 = [1, 1] := rfl
theorem sg3_1 (em mi ic : Nat) : mSeg (DD em mi ic) 3 1 = g3_1 := rfl
theorem lv3_1 (em mi ic : Nat) : mLive (DD em mi ic) 3 1 = [0, 1] := rfl
theorem sg3_2 (em mi ic : Nat) : mSeg (DD em mi ic) 3 2 = g3_2 := rfl
theorem lv3_2 (em mi ic : Nat) : mLive (DD em mi ic) 3 2 = [0, 0] := rfl
theorem bc_3 (em mi ic : Nat) : mBc (DD em mi ic) 3 = 0 := rfl
theorem bs_3 (em mi ic : Nat) : mBs (DD em mi ic) 3 = 0 := rfl
theorem rt_3 (em mi ic : Nat) : mRet (DD em mi ic) 3 = some .int := rfl
theorem ml_3 (em mi ic : Nat) : mMaxL (DD em mi ic) 3 = 2 := rfl
theorem sg4_0 (em mi ic : Nat) : mSeg (DD em mi ic) 4 0 = g4_0 := rfl
theorem lv4_0 (em mi ic : Nat) : mLive (DD em mi ic) 4 0 = [1, 1] := rfl
theorem sg4_1 (em mi ic : Nat) : mSeg (DD em mi ic) 4 1 = g4_1 := rfl
theorem lv4_1 (em mi ic : Nat) : mLive (DD em mi ic) 4 1 = [1, 0] := rfl
theorem sg4_2 (em mi ic : Nat) : mSeg (DD em mi ic) 4 2 = g4_2 := rfl
theorem lv4_2 (em mi ic : Nat) : mLive (DD em mi ic) 4 2 = [1, 0] := rfl
theorem sg4_3 (em mi ic : Nat) : mSeg (DD em mi ic) 4 3 = g4_3 := rfl
theorem lv4_3 (em mi ic : Nat) : mLive (DD em mi ic) 4 3 = [1, 0] := rfl
theorem sg4_4 (em mi ic : Nat) : mSeg (DD em mi ic) 4 4 = g4_4 := rfl
theorem lv4_4 (em mi ic : Nat) : mLive (DD em mi ic) 4 4 = [1, 0] := rfl
theorem sg4_5 (em mi ic : Nat) : mSeg (DD em mi ic) 4 5 = g4_5 := rfl
theorem lv4_5 (em mi ic : Nat) : mLive (DD em mi ic) 4 5 = [1, 0] := rfl
theorem sg4_6 (em mi ic : Nat) : mSeg (DD em mi ic) 4 6 = g4_6 := rfl
theorem lv4_6 (em mi ic : Nat) : mLive (DD em mi ic) 4 6 = [1, 0] := rfl
theorem sg4_7 (em mi ic : Nat) : mSeg (DD em mi ic) 4 7 = g4_7 := rfl
theorem lv4_7 (em mi ic : Nat) : mLive (DD em mi ic) 4 7 = [1, 0] := rfl
theorem sg4_8 (em mi ic : Nat) : mSeg (DD em mi ic) 4 8 = g4_8 := rfl
theorem lv4_8 (em mi ic : Nat) : mLive (DD em mi ic) 4 8 = [1, 0] := rfl
theorem sg4_9 (em mi ic : Nat) : mSeg (DD em mi ic) 4 9 = g4_9 := rfl
theorem lv4_9 (em mi ic : Nat) : mLive (DD em mi ic) 4 9 = [1, 0] := rfl
theorem sg4_10 (em mi ic : Nat) : mSeg (DD em mi ic) 4 10 = g4_10 := rfl
theorem lv4_10 (em mi ic : Nat) : mLive (DD em mi ic) 4 10 = [1, 0] := rfl
theorem sg4_11 (em mi ic : Nat) : mSeg (DD em mi ic) 4 11 = g4_11 := rfl
theorem lv4_11 (em mi ic : Nat) : mLive (DD em mi ic) 4 11 = [1, 0] := rfl
theorem sg4_12 (em mi ic : Nat) : mSeg (DD em mi ic) 4 12 = g4_12 := rfl
theorem lv4_12 (em mi ic : Nat) : mLive (DD em mi ic) 4 12 = [1, 0] := rfl
theorem sg4_13 (em mi ic : Nat) : mSeg (DD em mi ic) 4 13 = g4_13 := rfl
theorem lv4_13 (em mi ic : Nat) : mLive (DD em mi ic) 4 13 = [1, 0] := rfl
theorem sg4_14 (em mi ic : Nat) : mSeg (DD em mi ic) 4 14 = g4_14 := rfl
theorem lv4_14 (em mi ic : Nat) : mLive (DD em mi ic) 4 14 = [1, 0] := rfl
theorem sg4_15 (em mi ic : Nat) : mSeg (DD em mi ic) 4 15 = g4_15 := rfl
theorem lv4_15 (em mi ic : Nat) : mLive (DD em mi ic) 4 15 = [1, 0] := rfl
theorem sg4_16 (em mi ic : Nat) : mSeg (DD em mi ic) 4 16 = g4_16 := rfl
theorem lv4_16 (em mi ic : Nat) : mLive (DD em mi ic) 4 16 = [1, 0] := rfl
theorem sg4_17 (em mi ic : Nat) : mSeg (DD em mi ic) 4 17 = g4_17 := rfl
theorem lv4_17 (em mi ic : Nat) : mLive (DD em mi ic) 4 17 = [1, 0] := rfl
theorem sg4_18 (em mi ic : Nat) : mSeg (DD em mi ic) 4 18 = g4_18 := rfl
theorem lv4_18 (em mi ic : Nat) : mLive (DD em mi ic) 4 18 = [1, 0] := rfl
theorem sg4_19 (em mi ic : Nat) : mSeg (DD em mi ic) 4 19 = g4_19 := rfl
theorem lv4_19 (em mi ic : Nat) : mLive (DD em mi ic) 4 19 = [1, 0] := rfl
theorem sg4_20 (em mi ic : Nat) : mSeg (DD em mi ic) 4 20 = g4_20 := rfl
theorem lv4_20 (em mi ic : Nat) : mLive (DD em mi ic) 4 20 = [0, 0] := rfl
theorem bc_4 (em mi ic : Nat) : mBc (DD em mi ic) 4 = 0 := rfl
theorem bs_4 (em mi ic : Nat) : mBs (DD em mi ic) 4 = 0 := rfl
theorem rt_4 (em mi ic : Nat) : mRet (DD em mi ic) 4 = some .int := rfl
theorem ml_4 (em mi ic : Nat) : mMaxL (DD em mi ic) 4 = 2 := rfl
theorem sg5_0 (em mi ic : Nat) : mSeg (DD em mi ic) 5 0 = g5_0 := rfl
theorem lv5_0 (em mi ic : Nat) : mLive (DD em mi ic) 5 0 = [1, 1, 0, 0] := rfl
theorem sg5_1 (em mi ic : Nat) : mSeg (DD em mi ic) 5 1 = g5_1 := rfl
theorem lv5_1 (em mi ic : Nat) : mLive (DD em mi ic) 5 1 = [1, 1, 0, 0] := rfl
theorem sg5_2 (em mi ic : Nat) : mSeg (DD em mi ic) 5 2 = g5_2 := rfl
theorem lv5_2 (em mi ic : Nat) : mLive (DD em mi ic) 5 2 = [1, 0, 1, 0] := rfl
theorem sg5_3 (em mi ic : Nat) : mSeg (DD em mi ic) 5 3 = g5_3 := rfl
theorem lv5_3 (em mi ic : Nat) : mLive (DD em mi ic) 5 3 = [1, 1, 0, 0] := rfl
theorem sg5_4 (em mi ic : Nat) : mSeg (DD em mi ic) 5 4 = g5_4 := rfl
theorem lv5_4 (em mi ic : Nat) : mLive (DD em mi ic) 5 4 = [0, 0, 0, 0] := rfl
theorem sg5_5 (em mi ic : Nat) : mSeg (DD em mi ic) 5 5 = g5_5 := rfl
theorem lv5_5 (em mi ic : Nat) : mLive (DD em mi ic) 5 5 = [0, 0, 0, 0] := rfl
theorem sg5_6 (em mi ic : Nat) : mSeg (DD em mi ic) 5 6 = g5_6 := rfl
theorem lv5_6 (em mi ic : Nat) : mLive (DD em mi ic) 5 6 = [1, 1, 0, 0] := rfl
theorem sg5_7 (em mi ic : Nat) : mSeg (DD em mi ic) 5 7 = g5_7 := rfl
theorem lv5_7 (em mi ic : Nat) : mLive (DD em mi ic) 5 7 = [1, 1, 0, 0] := rfl
theorem sg5_8 (em mi ic : Nat) : mSeg (DD em mi ic) 5 8 = g5_8 := rfl
theorem lv5_8 (em mi ic : Nat) : mLive (DD em mi ic) 5 8 = [1, 1, 0, 0] := rfl
theorem sg5_9 (em mi ic : Nat) : mSeg (DD em mi ic) 5 9 = g5_9 := rfl
theorem lv5_9 (em mi ic : Nat) : mLive (DD em mi ic) 5 9 = [1, 1, 0, 0] := rfl
theorem sg5_10 (em mi ic : Nat) : mSeg (DD em mi ic) 5 10 = g5_10 := rfl
theorem lv5_10 (em mi ic : Nat) : mLive (DD em mi ic) 5 10 = [1, 1, 0, 0] := rfl
theorem sg5_11 (em mi ic : Nat) : mSeg (DD em mi ic) 5 11 = g5_11 := rfl
theorem lv5_11 (em mi ic : Nat) : mLive (DD em mi ic) 5 11 = [1, 1, 0, 0] := rfl
theorem sg5_12 (em mi ic : Nat) : mSeg (DD em mi ic) 5 12 = g5_12 := rfl
theorem lv5_12 (em mi ic : Nat) : mLive (DD em mi ic) 5 12 = [1, 1, 0, 0] := rfl
theorem sg5_13 (em mi ic : Nat) : mSeg (DD em mi ic) 5 13 = g5_13 := rfl
theorem lv5_13 (em mi ic : Nat) : mLive (DD em mi ic) 5 13 = [1, 1, 0, 0] := rfl
theorem sg5_14 (em mi ic : Nat) : mSeg (DD em mi ic) 5 14 = g5_14 := rfl
theorem lv5_14 (em mi ic : Nat) : mLive (DD em mi ic) 5 14 = [0, 0, 0, 0] := rfl
theorem sg5_15 (em mi ic : Nat) : mSeg (DD em mi ic) 5 15 = g5_15 := rfl
theorem lv5_15 (em mi ic : Nat) : mLive (DD em mi ic) 5 15 = [0, 0, 0, 0] := rfl
theorem sg5_16 (em mi ic : Nat) : mSeg (DD em mi ic) 5 16 = g5_16 := rfl
theorem lv5_16 (em mi ic : Nat) : mLive (DD em mi ic) 5 16 = [0, 0, 0, 0] := rfl
theorem sg5_17 (em mi ic : Nat) : mSeg (DD em mi ic) 5 17 = g5_17 := rfl
theorem lv5_17 (em mi ic : Nat) : mLive (DD em mi ic) 5 17 = [0, 0, 0, 0] := rfl
theorem sg5_18 (em mi ic : Nat) : mSeg (DD em mi ic) 5 18 = g5_18 := rfl
theorem lv5_18 (em mi ic : Nat) : mLive (DD em mi ic) 5 18 = [0, 0, 0, 0] := rfl
theorem bc_5 (em mi ic : Nat) : mBc (DD em mi ic) 5 = 4 := rfl
theorem bs_5 (em mi ic : Nat) : mBs (DD em mi ic) 5 = 40 := rfl
theorem rt_5 (em mi ic : Nat) : mRet (DD em mi ic) 5 = some .boolean := rfl
theorem ml_5 (em mi ic : Nat) : mMaxL (DD em mi ic) 5 = 4 := rfl
theorem hn_5 (em mi ic : Nat) : mHan (DD em mi ic) 5 = [(1, 17), (2, 18)] := rfl
theorem sg6_0 (em mi ic : Nat) : mSeg (DD em mi ic) 6 0 = g6_0 := rfl
theorem lv6_0 (em mi ic : Nat) : mLive (DD em mi ic) 6 0 = [1, 1] := rfl
theorem bc_6 (em mi ic : Nat) : mBc (DD em mi ic) 6 = 0 := rfl
theorem bs_6 (em mi ic : Nat) : mBs (DD em mi ic) 6 = 0 := rfl
theorem rt_6 (em mi ic : Nat) : mRet (DD em mi ic) 6 = some .int := rfl
theorem ml_6 (em mi ic : Nat) : mMaxL (DD em mi ic) 6 = 2 := rfl
theorem sg7_0 (em mi ic : Nat) : mSeg (DD em mi ic) 7 0 = g7_0 := rfl
theorem lv7_0 (em mi ic : Nat) : mLive (DD em mi ic) 7 0 = [1, 0, 0, 0, 0, 0] := rfl
theorem sg7_1 (em mi ic : Nat) : mSeg (DD em mi ic) 7 1 = g7_1 := rfl
theorem lv7_1 (em mi ic : Nat) : mLive (DD em mi ic) 7 1 = [1, 1, 0, 0, 0, 0] := rfl
theorem sg7_2 (em mi ic : Nat) : mSeg (DD em mi ic) 7 2 = g7_2 := rfl
theorem lv7_2 (em mi ic : Nat) : mLive (DD em mi ic) 7 2 = [1, 1, 1, 0, 0, 0] := rfl
theorem sg7_3 (em mi ic : Nat) : mSeg (DD em mi ic) 7 3 = g7_3 := rfl
theorem lv7_3 (em mi ic : Nat) : mLive (DD em mi ic) 7 3 = [1, 1, 1, 1, 0, 0] := rfl
theorem sg7_4 (em mi ic : Nat) : mSeg (DD em mi ic) 7 4 = g7_4 := rfl
theorem lv7_4 (em mi ic : Nat) : mLive (DD em mi ic) 7 4 = [1, 1, 1, 1, 1, 0] := rfl
theorem sg7_5 (em mi ic : Nat) : mSeg (DD em mi ic) 7 5 = g7_5 := rfl
theorem lv7_5 (em mi ic : Nat) : mLive (DD em mi ic) 7 5 = [1, 1, 1, 1, 1, 0] := rfl
theorem sg7_6 (em mi ic : Nat) : mSeg (DD em mi ic) 7 6 = g7_6 := rfl
theorem lv7_6 (em mi ic : Nat) : mLive (DD em mi ic) 7 6 = [0, 0, 0, 0, 0, 0] := rfl
theorem sg7_7 (em mi ic : Nat) : mSeg (DD em mi ic) 7 7 = g7_7 := rfl
theorem lv7_7 (em mi ic : Nat) : mLive (DD em mi ic) 7 7 = [1, 1, 1, 1, 1, 0] := rfl
theorem sg7_8 (em mi ic : Nat) : mSeg (DD em mi ic) 7 8 = g7_8 := rfl
theorem lv7_8 (em mi ic : Nat) : mLive (DD em mi ic) 7 8 = [1, 1, 1, 1, 1, 0] := rfl
theorem sg7_9 (em mi ic : Nat) : mSeg (DD em mi ic) 7 9 = g7_9 := rfl
theorem lv7_9 (em mi ic : Nat) : mLive (DD em mi ic) 7 9 = [1, 1, 1, 1, 1, 0] := rfl
theorem sg7_10 (em mi ic : Nat) : mSeg (DD em mi ic) 7 10 = g7_10 := rfl
theorem lv7_10 (em mi ic : Nat) : mLive (DD em mi ic) 7 10 = [1, 1, 1, 1, 1, 1] := rfl
theorem sg7_11 (em mi ic : Nat) : mSeg (DD em mi ic) 7 11 = g7_11 := rfl
theorem lv7_11 (em mi ic : Nat) : mLive (DD em mi ic) 7 11 = [1, 1, 1, 1, 1, 1] := rfl
theorem sg7_12 (em mi ic : Nat) : mSeg (DD em mi ic) 7 12 = g7_12 := rfl
theorem lv7_12 (em mi ic : Nat) : mLive (DD em mi ic) 7 12 = [1, 1, 1, 1, 0, 0] := rfl
theorem sg7_13 (em mi ic : Nat) : mSeg (DD em mi ic) 7 13 = g7_13 := rfl
theorem lv7_13 (em mi ic : Nat) : mLive (DD em mi ic) 7 13 = [1, 1, 0, 0, 0, 0] := rfl
theorem sg7_14 (em mi ic : Nat) : mSeg (DD em mi ic) 7 14 = g7_14 := rfl
theorem lv7_14 (em mi ic : Nat) : mLive (DD em mi ic) 7 14 = [0, 0, 0, 0, 0, 0] := rfl
theorem bc_7 (em mi ic : Nat) : mBc (DD em mi ic) 7 = 0 := rfl
theorem bs_7 (em mi ic : Nat) : mBs (DD em mi ic) 7 = 0 := rfl
theorem rt_7 (em mi ic : Nat) : mRet (DD em mi ic) 7 = some .boolean := rfl
theorem ml_7 (em mi ic : Nat) : mMaxL (DD em mi ic) 7 = 6 := rfl
theorem sg8_0 (em mi ic : Nat) : mSeg (DD em mi ic) 8 0 = g8_0 := rfl
theorem lv8_0 (em mi ic : Nat) : mLive (DD em mi ic) 8 0 = [1, 0, 0, 0, 0, 0] := rfl
theorem sg8_1 (em mi ic : Nat) : mSeg (DD em mi ic) 8 1 = g8_1 := rfl
theorem lv8_1 (em mi ic : Nat) : mLive (DD em mi ic) 8 1 = [1, 1, 1, 0, 0, 0] := rfl
theorem sg8_2 (em mi ic : Nat) : mSeg (DD em mi ic) 8 2 = g8_2 := rfl
theorem lv8_2 (em mi ic : Nat) : mLive (DD em mi ic) 8 2 = [1, 1, 0, 0, 0, 0] := rfl
theorem sg8_3 (em mi ic : Nat) : mSeg (DD em mi ic) 8 3 = g8_3 := rfl
theorem lv8_3 (em mi ic : Nat) : mLive (DD em mi ic) 8 3 = [1, 1, 1, 1, 0, 0] := rfl
theorem sg8_4 (em mi ic : Nat) : mSeg (DD em mi ic) 8 4 = g8_4 := rfl
theorem lv8_4 (em mi ic : Nat) : mLive (DD em mi ic) 8 4 = [1, 1, 1, 1, 1, 1] := rfl
theorem sg8_5 (em mi ic : Nat) : mSeg (DD em mi ic) 8 5 = g8_5 := rfl
theorem lv8_5 (em mi ic : Nat) : mLive (DD em mi ic) 8 5 = [1, 1, 1, 1, 1, 0] := rfl
theorem sg8_6 (em mi ic : Nat) : mSeg (DD em mi ic) 8 6 = g8_6 := rfl
theorem lv8_6 (em mi ic : Nat) : mLive (DD em mi ic) 8 6 = [1, 1, 1, 1, 1, 0] := rfl
theorem sg8_7 (em mi ic : Nat) : mSeg (DD em mi ic) 8 7 = g8_7 := rfl
theorem lv8_7 (em mi ic : Nat) : mLive (DD em mi ic) 8 7 = [1, 1, 1, 1, 0, 0] := rfl
theorem sg8_8 (em mi ic : Nat) : mSeg (DD em mi ic) 8 8 = g8_8 := rfl
theorem lv8_8 (em mi ic : Nat) : mLive (DD em mi ic) 8 8 = [1, 1, 1, 0, 0, 0] := rfl
theorem sg8_9 (em mi ic : Nat) : mSeg (DD em mi ic) 8 9 = g8_9 := rfl
theorem lv8_9 (em mi ic : Nat) : mLive (DD em mi ic) 8 9 = [0, 0, 0, 0, 0, 0] := rfl
theorem sg8_10 (em mi ic : Nat) : mSeg (DD em mi ic) 8 10 = g8_10 := rfl
theorem lv8_10 (em mi ic : Nat) : mLive (DD em mi ic) 8 10 = [0, 0, 0, 0, 0, 0] := rfl
theorem bc_8 (em mi ic : Nat) : mBc (DD em mi ic) 8 = 0 := rfl
theorem bs_8 (em mi ic : Nat) : mBs (DD em mi ic) 8 = 0 := rfl
theorem rt_8 (em mi ic : Nat) : mRet (DD em mi ic) 8 = some .boolean := rfl
theorem ml_8 (em mi ic : Nat) : mMaxL (DD em mi ic) 8 = 6 := rfl
theorem sg9_0 (em mi ic : Nat) : mSeg (DD em mi ic) 9 0 = g9_0 := rfl
theorem lv9_0 (em mi ic : Nat) : mLive (DD em mi ic) 9 0 = [1, 0, 0, 0, 0, 0, 0, 0, 0, 0, 0, 0] := rfl
theorem sg9_1 (em mi ic : Nat) : mSeg (DD em mi ic) 9 1 = g9_1 := rfl
theorem lv9_1 (em mi ic : Nat) : mLive (DD em mi ic) 9 1 = [1, 1, 1, 1, 1, 1, 0, 0, 0, 0, 0, 0] := rfl
theorem sg9_2 (em mi ic : Nat) : mSeg (DD em mi ic) 9 2 = g9_2 := rfl
theorem lv9_2 (em mi ic : Nat) : mLive (DD em mi ic) 9 2 = [1, 1, 1, 1, 1, 1, 0, 0, 0, 0, 0, 0] := rfl
theorem sg9_3 (em mi ic : Nat) : mSeg (DD em mi ic) 9 3 = g9_3 := rfl
theorem lv9_3 (em mi ic : Nat) : mLive (DD em mi ic) 9 3 = [1, 1, 1, 1, 1, 0, 0, 0, 0, 0, 0, 0] := rfl
theorem sg9_4 (em mi ic : Nat) : mSeg (DD em mi ic) 9 4 = g9_4 := rfl
theorem lv9_4 (em mi ic : Nat) : mLive (DD em mi ic) 9 4 = [1, 1, 1, 1, 1, 1, 1, 0, 0, 0, 0, 0] := rfl
theorem sg9_5 (em mi ic : Nat) : mSeg (DD em mi ic) 9 5 = g9_5 := rfl
theorem lv9_5 (em mi ic : Nat) : mLive (DD em mi ic) 9 5 = [1, 1, 1, 1, 1, 1, 1, 1, 1, 1, 0, 0] := rfl
theorem sg9_6 (em mi ic : Nat) : mSeg (DD em mi ic) 9 6 = g9_6 := rfl
theorem lv9_6 (em mi ic : Nat) : mLive (DD em mi ic) 9 6 = [1, 1, 1, 1, 1, 1, 1, 1, 0, 0, 0, 0] := rfl
theorem sg9_7 (em mi ic : Nat) : mSeg (DD em mi ic) 9 7 = g9_7 := rfl
theorem lv9_7 (em mi ic : Nat) : mLive (DD em mi ic) 9 7 = [1, 1, 1, 1, 1, 1, 1, 1, 0, 0, 0, 0] := rfl
theorem sg9_8 (em mi ic : Nat) : mSeg (DD em mi ic) 9 8 = g9_8 := rfl
theorem lv9_8 (em mi ic : Nat) : mLive (DD em mi ic) 9 8 = [1, 1, 1, 1, 1, 1, 1, 1, 0, 1, 0, 0] := rfl
theorem sg9_9 (em mi ic : Nat) : mSeg (DD em mi ic) 9 9 = g9_9 := rfl
theorem lv9_9 (em mi ic : Nat) : mLive (DD em mi ic) 9 9 = [0, 0, 0, 0, 0, 0, 0, 0, 0, 0, 0, 0] := rfl
theorem sg9_10 (em mi ic : Nat) : mSeg (DD em mi ic) 9 10 = g9_10 := rfl
theorem lv9_10 (em mi ic : Nat) : mLive (DD em mi ic) 9 10 = [1, 1, 1, 1, 1, 1, 1, 1, 0, 1, 0, 0] := rfl
theorem sg9_11 (em mi ic : Nat) : mSeg (DD em mi ic) 9 11 = g9_11 := rfl
theorem lv9_11 (em mi ic : Nat) : mLive (DD em mi ic) 9 11 = [1, 1, 1, 1, 1, 1, 1, 0, 0, 0, 0, 0] := rfl
theorem sg9_12 (em mi ic : Nat) : mSeg (DD em mi ic) 9 12 = g9_12 := rfl
theorem lv9_12 (em mi ic : Nat) : mLive (DD em mi ic) 9 12 = [0, 0, 0, 0, 0, 1, 0, 0, 0, 0, 0, 0] := rfl
theorem sg9_13 (em mi ic : Nat) : mSeg (DD em mi ic) 9 13 = g9_13 := rfl
theorem lv9_13 (em mi ic : Nat) : mLive (DD em mi ic) 9 13 = [0, 0, 0, 0, 0, 0, 0, 0, 0, 0, 0, 0] := rfl
theorem sg9_14 (em mi ic : Nat) : mSeg (DD em mi ic) 9 14 = g9_14 := rfl
theorem lv9_14 (em mi ic : Nat) : mLive (DD em mi ic) 9 14 = [0, 0, 0, 0, 0, 0, 0, 0, 0, 0, 0, 0] := rfl
theorem bc_9 (em mi ic : Nat) : mBc (DD em mi ic) 9 = 1 := rfl
theorem bs_9 (em mi ic : Nat) : mBs (DD em mi ic) 9 = 6 := rfl
theorem rt_9 (em mi ic : Nat) : mRet (DD em mi ic) 9 = some .boolean := rfl
theorem ml_9 (em mi ic : Nat) : mMaxL (DD em mi ic) 9 = 12 := rfl
theorem sg10_0 (em mi ic : Nat) : mSeg (DD em mi ic) 10 0 = g10_0 := rfl
theorem lv10_0 (em mi ic : Nat) : mLive (DD em mi ic) 10 0 = [1] := rfl
theorem sg10_1 (em mi ic : Nat) : mSeg (DD em mi ic) 10 1 = g10_1 := rfl
theorem lv10_1 (em mi ic : Nat) : mLive (DD em mi ic) 10 1 = [0] := rfl
theorem sg10_2 (em mi ic : Nat) : mSeg (DD em mi ic) 10 2 = g10_2 := rfl
theorem lv10_2 (em mi ic : Nat) : mLive (DD em mi ic) 10 2 = [1] := rfl
theorem sg10_3 (em mi ic : Nat) : mSeg (DD em mi ic) 10 3 = g10_3 := rfl
theorem lv10_3 (em mi ic : Nat) : mLive (DD em mi ic) 10 3 = [0] := rfl
theorem sg10_4 (em mi ic : Nat) : mSeg (DD em mi ic) 10 4 = g10_4 := rfl
theorem lv10_4 (em mi ic : Nat) : mLive (DD em mi ic) 10 4 = [0] := rfl
theorem bc_10 (em mi ic : Nat) : mBc (DD em mi ic) 10 = 0 := rfl
theorem bs_10 (em mi ic : Nat) : mBs (DD em mi ic) 10 = 0 := rfl
theorem rt_10 (em mi ic : Nat) : mRet (DD em mi ic) 10 = some .boolean := rfl
theorem ml_10 (em mi ic : Nat) : mMaxL (DD em mi ic) 10 = 1 := rfl
theorem sg11_0 (em mi ic : Nat) : mSeg (DD em mi ic) 11 0 = g11_0 := rfl
theorem lv11_0 (em mi ic : Nat) : mLive (DD em mi ic) 11 0 = [1, 0, 0, 0, 0] := rfl
theorem bc_11 (em mi ic : Nat) : mBc (DD em mi ic) 11 = 15 := rfl
theorem bs_11 (em mi ic : Nat) : mBs (DD em mi ic) 11 = 60 := rfl
theorem rt_11 (em mi ic : Nat) : mRet (DD em mi ic) 11 = none := rfl
theorem ml_11 (em mi ic : Nat) : mMaxL (DD em mi ic) 11 = 5 := rfl
theorem sg12_0 (em mi ic : Nat) : mSeg (DD em mi ic) 12 0 = g12_0 := rfl
theorem lv12_0 (em mi ic : Nat) : mLive (DD em mi ic) 12 0 = [1, 1, 1, 0] := rfl
theorem sg12_1 (em mi ic : Nat) : mSeg (DD em mi ic) 12 1 = g12_1 := rfl
theorem lv12_1 (em mi ic : Nat) : mLive (DD em mi ic) 12 1 = [0, 0, 0, 0] := rfl
theorem sg12_2 (em mi ic : Nat) : mSeg (DD em mi ic) 12 2 = g12_2 := rfl
theorem lv12_2 (em mi ic : Nat) : mLive (DD em mi ic) 12 2 = [1, 1, 1, 0] := rfl
theorem sg12_3 (em mi ic : Nat) : mSeg (DD em mi ic) 12 3 = g12_3 := rfl
theorem lv12_3 (em mi ic : Nat) : mLive (DD em mi ic) 12 3 = [1, 1, 1, 1] := rfl
theorem bc_12 (em mi ic : Nat) : mBc (DD em mi ic) 12 = 2 := rfl
theorem bs_12 (em mi ic : Nat) : mBs (DD em mi ic) 12 = 18 := rfl
theorem rt_12 (em mi ic : Nat) : mRet (DD em mi ic) 12 = some .int := rfl
theorem ml_12 (em mi ic : Nat) : mMaxL (DD em mi ic) 12 = 4 := rfl
theorem sg13_0 (em mi ic : Nat) : mSeg (DD em mi ic) 13 0 = g13_0 := rfl
theorem lv13_0 (em mi ic : Nat) : mLive (DD em mi ic) 13 0 = [1, 1, 1, 0] := rfl
theorem sg13_1 (em mi ic : Nat) : mSeg (DD em mi ic) 13 1 = g13_1 := rfl
theorem lv13_1 (em mi ic : Nat) : mLive (DD em mi ic) 13 1 = [0, 0, 0, 0] := rfl
theorem sg13_2 (em mi ic : Nat) : mSeg (DD em mi ic) 13 2 = g13_2 := rfl
theorem lv13_2 (em mi ic : Nat) : mLive (DD em mi ic) 13 2 = [1, 1, 1, 0] := rfl
theorem sg13_3 (em mi ic : Nat) : mSeg (DD em mi ic) 13 3 = g13_3 := rfl
theorem lv13_3 (em mi ic : Nat) : mLive (DD em mi ic) 13 3 = [1, 1, 1, 1] := rfl
theorem bc_13 (em mi ic : Nat) : mBc (DD em mi ic) 13 = 2 := rfl
theorem bs_13 (em mi ic : Nat) : mBs (DD em mi ic) 13 = 18 := rfl
theorem rt_13 (em mi ic : Nat) : mRet (DD em mi ic) 13 = some .int := rfl
theorem ml_13 (em mi ic : Nat) : mMaxL (DD em mi ic) 13 = 4 := rfl
theorem sg14_0 (em mi ic : Nat) : mSeg (DD em mi ic) 14 0 = g14_0 := rfl
theorem lv14_0 (em mi ic : Nat) : mLive (DD em mi ic) 14 0 = [1, 1, 0] := rfl
theorem sg14_1 (em mi ic : Nat) : mSeg (DD em mi ic) 14 1 = g14_1 := rfl
theorem lv14_1 (em mi ic : Nat) : mLive (DD em mi ic) 14 1 = [1, 1, 0] := rfl
theorem bc_14 (em mi ic : Nat) : mBc (DD em mi ic) 14 = 0 := rfl
theorem bs_14 (em mi ic : Nat) : mBs (DD em mi ic) 14 = 0 := rfl
theorem rt_14 (em mi ic : Nat) : mRet (DD em mi ic) 14 = some .int := rfl
theorem ml_14 (em mi ic : Nat) : mMaxL (DD em mi ic) 14 = 3 := rfl
theorem sg15_0 (em mi ic : Nat) : mSeg (DD em mi ic) 15 0 = g15_0 := rfl
theorem lv15_0 (em mi ic : Nat) : mLive (DD em mi ic) 15 0 = [1, 1, 1, 1, 0, 0] := rfl
theorem sg15_1 (em mi ic : Nat) : mSeg (DD em mi ic) 15 1 = g15_1 := rfl
theorem lv15_1 (em mi ic : Nat) : mLive (DD em mi ic) 15 1 = [0, 0, 0, 0, 0, 0] := rfl
theorem sg15_2 (em mi ic : Nat) : mSeg (DD em mi ic) 15 2 = g15_2 := rfl
theorem lv15_2 (em mi ic : Nat) : mLive (DD em mi ic) 15 2 = [1, 1, 1, 1, 0, 0] := rfl
theorem sg15_3 (em mi ic : Nat) : mSeg (DD em mi ic) 15 3 = g15_3 := rfl
theorem lv15_3 (em mi ic : Nat) : mLive (DD em mi ic) 15 3 = [1, 1, 1, 1, 0, 0] := rfl
theorem sg15_4 (em mi ic : Nat) : mSeg (DD em mi ic) 15 4 = g15_4 := rfl
theorem lv15_4 (em mi ic : Nat) : mLive (DD em mi ic) 15 4 = [1, 1, 1, 1, 1, 0] := rfl
theorem sg15_5 (em mi ic : Nat) : mSeg (DD em mi ic) 15 5 = g15_5 := rfl
theorem lv15_5 (em mi ic : Nat) : mLive (DD em mi ic) 15 5 = [1, 0, 0, 0, 1, 1] := rfl
theorem bc_15 (em mi ic : Nat) : mBc (DD em mi ic) 15 = 2 := rfl
theorem bs_15 (em mi ic : Nat) : mBs (DD em mi ic) 15 = 20 := rfl
theorem rt_15 (em mi ic : Nat) : mRet (DD em mi ic) 15 = some .int := rfl
theorem ml_15 (em mi ic : Nat) : mMaxL (DD em mi ic) 15 = 6 := rfl
theorem sg16_0 (em mi ic : Nat) : mSeg (DD em mi ic) 16 0 = g16_0 := rfl
theorem lv16_0 (em mi ic : Nat) : mLive (DD em mi ic) 16 0 = [1, 1, 1, 0] := rfl
theorem sg16_1 (em mi ic : Nat) : mSeg (DD em mi ic) 16 1 = g16_1 := rfl
theorem lv16_1 (em mi ic : Nat) : mLive (DD em mi ic) 16 1 = [0, 0, 0, 0] := rfl
theorem sg16_2 (em mi ic : Nat) : mSeg (DD em mi ic) 16 2 = g16_2 := rfl
theorem lv16_2 (em mi ic : Nat) : mLive (DD em mi ic) 16 2 = [1, 1, 1, 0] := rfl
theorem bc_16 (em mi ic : Nat) : mBc (DD em mi ic) 16 = 0 := rfl
theorem bs_16 (em mi ic : Nat) : mBs (DD em mi ic) 16 = 0 := rfl
theorem rt_16 (em mi ic : Nat) : mRet (DD em mi ic) 16 = some .int := rfl
theorem ml_16 (em mi ic : Nat) : mMaxL (DD em mi ic) 16 = 4 := rfl
theorem sg17_0 (em mi ic : Nat) : mSeg (DD em mi ic) 17 0 = g17_0 := rfl
theorem lv17_0 (em mi ic : Nat) : mLive (DD em mi ic) 17 0 = [1] := rfl
theorem bc_17 (em mi ic : Nat) : mBc (DD em mi ic) 17 = 0 := rfl
theorem bs_17 (em mi ic : Nat) : mBs (DD em mi ic) 17 = 0 := rfl
theorem rt_17 (em mi ic : Nat) : mRet (DD em mi ic) 17 = some .int := rfl
theorem ml_17 (em mi ic : Nat) : mMaxL (DD em mi ic) 17 = 1 := rfl
theorem sg18_0 (em mi ic : Nat) : mSeg (DD em mi ic) 18 0 = g18_0 := rfl
theorem lv18_0 (em mi ic : Nat) : mLive (DD em mi ic) 18 0 = [1, 1, 1, 0] := rfl
theorem sg18_1 (em mi ic : Nat) : mSeg (DD em mi ic) 18 1 = g18_1 := rfl
theorem lv18_1 (em mi ic : Nat) : mLive (DD em mi ic) 18 1 = [0, 0, 0, 0] := rfl
theorem sg18_2 (em mi ic : Nat) : mSeg (DD em mi ic) 18 2 = g18_2 := rfl
theorem lv18_2 (em mi ic : Nat) : mLive (DD em mi ic) 18 2 = [1, 1, 1, 0] := rfl
theorem sg18_3 (em mi ic : Nat) : mSeg (DD em mi ic) 18 3 = g18_3 := rfl
theorem lv18_3 (em mi ic : Nat) : mLive (DD em mi ic) 18 3 = [0, 0, 0, 1] := rfl
theorem sg18_4 (em mi ic : Nat) : mSeg (DD em mi ic) 18 4 = g18_4 := rfl
theorem lv18_4 (em mi ic : Nat) : mLive (DD em mi ic) 18 4 = [0, 0, 0, 1] := rfl
theorem sg18_5 (em mi ic : Nat) : mSeg (DD em mi ic) 18 5 = g18_5 := rfl
theorem lv18_5 (em mi ic : Nat) : mLive (DD em mi ic) 18 5 = [1, 0, 0, 1] := rfl
theorem sg18_6 (em mi ic : Nat) : mSeg (DD em mi ic) 18 6 = g18_6 := rfl
theorem lv18_6 (em mi ic : Nat) : mLive (DD em mi ic) 18 6 = [1, 0, 0, 1] := rfl
theorem sg18_7 (em mi ic : Nat) : mSeg (DD em mi ic) 18 7 = g18_7 := rfl
theorem lv18_7 (em mi ic : Nat) : mLive (DD em mi ic) 18 7 = [1, 0, 0, 1] := rfl
theorem sg18_8 (em mi ic : Nat) : mSeg (DD em mi ic) 18 8 = g18_8 := rfl
theorem lv18_8 (em mi ic : Nat) : mLive (DD em mi ic) 18 8 = [0, 0, 0, 0] := rfl
theorem bc_18 (em mi ic : Nat) : mBc (DD em mi ic) 18 = 0 := rfl
theorem bs_18 (em mi ic : Nat) : mBs (DD em mi ic) 18 = 0 := rfl
theorem rt_18 (em mi ic : Nat) : mRet (DD em mi ic) 18 = some .int := rfl
theorem ml_18 (em mi ic : Nat) : mMaxL (DD em mi ic) 18 = 4 := rfl
theorem sg19_0 (em mi ic : Nat) : mSeg (DD em mi ic) 19 0 = g19_0 := rfl
theorem lv19_0 (em mi ic : Nat) : mLive (DD em mi ic) 19 0 = [1, 1, 1, 0, 0] := rfl
theorem sg19_1 (em mi ic : Nat) : mSeg (DD em mi ic) 19 1 = g19_1 := rfl
theorem lv19_1 (em mi ic : Nat) : mLive (DD em mi ic) 19 1 = [0, 0, 0, 0, 0] := rfl
theorem sg19_2 (em mi ic : Nat) : mSeg (DD em mi ic) 19 2 = g19_2 := rfl
theorem lv19_2 (em mi ic : Nat) : mLive (DD em mi ic) 19 2 = [1, 1, 1, 0, 0] := rfl
theorem sg19_3 (em mi ic : Nat) : mSeg (DD em mi ic) 19 3 = g19_3 := rfl
theorem lv19_3 (em mi ic : Nat) : mLive (DD em mi ic) 19 3 = [0, 0, 0, 1, 0] := rfl
theorem sg19_4 (em mi ic : Nat) : mSeg (DD em mi ic) 19 4 = g19_4 := rfl
theorem lv19_4 (em mi ic : Nat) : mLive (DD em mi ic) 19 4 = [0, 0, 0, 1, 0] := rfl
theorem sg19_5 (em mi ic : Nat) : mSeg (DD em mi ic) 19 5 = g19_5 := rfl
theorem lv19_5 (em mi ic : Nat) : mLive (DD em mi ic) 19 5 = [0, 0, 0, 1, 0] := rfl
theorem sg19_6 (em mi ic : Nat) : mSeg (DD em mi ic) 19 6 = g19_6 := rfl
theorem lv19_6 (em mi ic : Nat) : mLive (DD em mi ic) 19 6 = [0, 0, 0, 1, 0] := rfl
theorem sg19_7 (em mi ic : Nat) : mSeg (DD em mi ic) 19 7 = g19_7 := rfl
theorem lv19_7 (em mi ic : Nat) : mLive (DD em mi ic) 19 7 = [1, 0, 0, 1, 0] := rfl
theorem sg19_8 (em mi ic : Nat) : mSeg (DD em mi ic) 19 8 = g19_8 := rfl
theorem lv19_8 (em mi ic : Nat) : mLive (DD em mi ic) 19 8 = [0, 0, 0, 0, 1] := rfl
theorem sg19_9 (em mi ic : Nat) : mSeg (DD em mi ic) 19 9 = g19_9 := rfl
theorem lv19_9 (em mi ic : Nat) : mLive (DD em mi ic) 19 9 = [0, 0, 0, 0, 0] := rfl
theorem sg19_10 (em mi ic : Nat) : mSeg (DD em mi ic) 19 10 = g19_10 := rfl
theorem lv19_10 (em mi ic : Nat) : mLive (DD em mi ic) 19 10 = [1, 1, 0, 0, 0] := rfl
theorem sg19_11 (em mi ic : Nat) : mSeg (DD em mi ic) 19 11 = g19_11 := rfl
theorem lv19_11 (em mi ic : Nat) : mLive (DD em mi ic) 19 11 = [0, 0, 0, 0, 0] := rfl
theorem bc_19 (em mi ic : Nat) : mBc (DD em mi ic) 19 = 0 := rfl
theorem bs_19 (em mi ic : Nat) : mBs (DD em mi ic) 19 = 0 := rfl
theorem rt_19 (em mi ic : Nat) : mRet (DD em mi ic) 19 = some .int := rfl
theorem ml_19 (em mi ic : Nat) : mMaxL (DD em mi ic) 19 = 5 := rfl
theorem sg20_0 (em mi ic : Nat) : mSeg (DD em mi ic) 20 0 = g20_0 := rfl
theorem lv20_0 (em mi ic : Nat) : mLive (DD em mi ic) 20 0 = [1, 1, 1, 0] := rfl
theorem sg20_1 (em mi ic : Nat) : mSeg (DD em mi ic) 20 1 = g20_1 := rfl
theorem lv20_1 (em mi ic : Nat) : mLive (DD em mi ic) 20 1 = [0, 0, 0, 0] := rfl
theorem sg20_2 (em mi ic : Nat) : mSeg (DD em mi ic) 20 2 = g20_2 := rfl
theorem lv20_2 (em mi ic : Nat) : mLive (DD em mi ic) 20 2 = [1, 1, 1, 0] := rfl
theorem sg20_3 (em mi ic : Nat) : mSeg (DD em mi ic) 20 3 = g20_3 := rfl
theorem lv20_3 (em mi ic : Nat) : mLive (DD em mi ic) 20 3 = [0, 0, 0, 1] := rfl
theorem sg20_4 (em mi ic : Nat) : mSeg (DD em mi ic) 20 4 = g20_4 := rfl
theorem lv20_4 (em mi ic : Nat) : mLive (DD em mi ic) 20 4 = [0, 0, 0, 1] := rfl
theorem sg20_5 (em mi ic : Nat) : mSeg (DD em mi ic) 20 5 = g20_5 := rfl
theorem lv20_5 (em mi ic : Nat) : mLive (DD em mi ic) 20 5 = [1, 0, 0, 1] := rfl
theorem sg20_6 (em mi ic : Nat) : mSeg (DD em mi ic) 20 6 = g20_6 := rfl
theorem lv20_6 (em mi ic : Nat) : mLive (DD em mi ic) 20 6 = [1, 0, 0, 1] := rfl
theorem sg20_7 (em mi ic : Nat) : mSeg (DD em mi ic) 20 7 = g20_7 := rfl
theorem lv20_7 (em mi ic : Nat) : mLive (DD em mi ic) 20 7 = [0, 0, 0, 0] := rfl
theorem bc_20 (em mi ic : Nat) : mBc (DD em mi ic) 20 = 0 := rfl
theorem bs_20 (em mi ic : Nat) : mBs (DD em mi ic) 20 = 0 := rfl
theorem rt_20 (em mi ic : Nat) : mRet (DD em mi ic) 20 = some .int := rfl
theorem ml_20 (em mi ic : Nat) : mMaxL (DD em mi ic) 20 = 4 := rfl
theorem sg21_0 (em mi ic : Nat) : mSeg (DD em mi ic) 21 0 = g21_0 := rfl
theorem lv21_0 (em mi ic : Nat) : mLive (DD em mi ic) 21 0 = [1, 1, 1, 0] := rfl
theorem sg21_1 (em mi ic : Nat) : mSeg (DD em mi ic) 21 1 = g21_1 := rfl
theorem lv21_1 (em mi ic : Nat) : mLive (DD em mi ic) 21 1 = [0, 0, 0, 0] := rfl
theorem sg21_2 (em mi ic : Nat) : mSeg (DD em mi ic) 21 2 = g21_2 := rfl
theorem lv21_2 (em mi ic : Nat) : mLive (DD em mi ic) 21 2 = [1, 1, 1, 0] := rfl
theorem sg21_3 (em mi ic : Nat) : mSeg (DD em mi ic) 21 3 = g21_3 := rfl
theorem lv21_3 (em mi ic : Nat) : mLive (DD em mi ic) 21 3 = [0, 0, 0, 1] := rfl
theorem sg21_4 (em mi ic : Nat) : mSeg (DD em mi ic) 21 4 = g21_4 := rfl
theorem lv21_4 (em mi ic : Nat) : mLive (DD em mi ic) 21 4 = [0, 0, 0, 1] := rfl
theorem sg21_5 (em mi ic : Nat) : mSeg (DD em mi ic) 21 5 = g21_5 := rfl
theorem lv21_5 (em mi ic : Nat) : mLive (DD em mi ic) 21 5 = [0, 0, 0, 0] := rfl
theorem bc_21 (em mi ic : Nat) : mBc (DD em mi ic) 21 = 0 := rfl
theorem bs_21 (em mi ic : Nat) : mBs (DD em mi ic) 21 = 0 := rfl
theorem rt_21 (em mi ic : Nat) : mRet (DD em mi ic) 21 = some .int := rfl
theorem ml_21 (em mi ic : Nat) : mMaxL (DD em mi ic) 21 = 4 := rfl
theorem sg22_0 (em mi ic : Nat) : mSeg (DD em mi ic) 22 0 = g22_0 := rfl
theorem lv22_0 (em mi ic : Nat) : mLive (DD em mi ic) 22 0 = [1] := rfl
theorem bc_22 (em mi ic : Nat) : mBc (DD em mi ic) 22 = 0 := rfl
theorem bs_22 (em mi ic : Nat) : mBs (DD em mi ic) 22 = 0 := rfl
theorem rt_22 (em mi ic : Nat) : mRet (DD em mi ic) 22 = some .int := rfl
theorem ml_22 (em mi ic : Nat) : mMaxL (DD em mi ic) 22 = 1 := rfl
theorem sg23_0 (em mi ic : Nat) : mSeg (DD em mi ic) 23 0 = g23_0 := rfl
theorem lv23_0 (em mi ic : Nat) : mLive (DD em mi ic) 23 0 = [1, 1, 1] := rfl
theorem sg23_1 (em mi ic : Nat) : mSeg (DD em mi ic) 23 1 = g23_1 := rfl
theorem lv23_1 (em mi ic : Nat) : mLive (DD em mi ic) 23 1 = [0, 0, 0] := rfl
theorem sg23_2 (em mi ic : Nat) : mSeg (DD em mi ic) 23 2 = g23_2 := rfl
theorem lv23_2 (em mi ic : Nat) : mLive (DD em mi ic) 23 2 = [1, 1, 1] := rfl
theorem bc_23 (em mi ic : Nat) : mBc (DD em mi ic) 23 = 0 := rfl
theorem bs_23 (em mi ic : Nat) : mBs (DD em mi ic) 23 = 0 := rfl
theorem rt_23 (em mi ic : Nat) : mRet (DD em mi ic) 23 = some .int := rfl
theorem ml_23 (em mi ic : Nat) : mMaxL (DD em mi ic) 23 = 3 := rfl
theorem sg24_0 (em mi ic : Nat) : mSeg (DD em mi ic) 24 0 = g24_0 := rfl
theorem lv24_0 (em mi ic : Nat) : mLive (DD em mi ic) 24 0 = [1, 0, 0] := rfl
theorem sg24_1 (em mi ic : Nat) : mSeg (DD em mi ic) 24 1 = g24_1 := rfl
theorem lv24_1 (em mi ic : Nat) : mLive (DD em mi ic) 24 1 = [1, 1, 1] := rfl
theorem sg24_2 (em mi ic : Nat) : mSeg (DD em mi ic) 24 2 = g24_2 := rfl
theorem lv24_2 (em mi ic : Nat) : mLive (DD em mi ic) 24 2 = [0, 1, 0] := rfl
theorem bc_24 (em mi ic : Nat) : mBc (DD em mi ic) 24 = 4 := rfl
theorem bs_24 (em mi ic : Nat) : mBs (DD em mi ic) 24 = 40 := rfl
theorem rt_24 (em mi ic : Nat) : mRet (DD em mi ic) 24 = some (.object "java/lang/String") := rfl
theorem ml_24 (em mi ic : Nat) : mMaxL (DD em mi ic) 24 = 3 := rfl
theorem sg25_0 (em mi ic : Nat) : mSeg (DD em mi ic) 25 0 = g25_0 := rfl
theorem lv25_0 (em mi ic : Nat) : mLive (DD em mi ic) 25 0 = [1] := rfl
theorem bc_25 (em mi ic : Nat) : mBc (DD em mi ic) 25 = 0 := rfl
theorem bs_25 (em mi ic : Nat) : mBs (DD em mi ic) 25 = 0 := rfl
theorem rt_25 (em mi ic : Nat) : mRet (DD em mi ic) 25 = some .int := rfl
theorem ml_25 (em mi ic : Nat) : mMaxL (DD em mi ic) 25 = 1 := rfl
theorem sg26_0 (em mi ic : Nat) : mSeg (DD em mi ic) 26 0 = g26_0 := rfl
theorem lv26_0 (em mi ic : Nat) : mLive (DD em mi ic) 26 0 = [1] := rfl
theorem sg26_1 (em mi ic : Nat) : mSeg (DD em mi ic) 26 1 = g26_1 := rfl
theorem lv26_1 (em mi ic : Nat) : mLive (DD em mi ic) 26 1 = [0] := rfl
theorem sg26_2 (em mi ic : Nat) : mSeg (DD em mi ic) 26 2 = g26_2 := rfl
theorem lv26_2 (em mi ic : Nat) : mLive (DD em mi ic) 26 2 = [0] := rfl
theorem bc_26 (em mi ic : Nat) : mBc (DD em mi ic) 26 = 0 := rfl
theorem bs_26 (em mi ic : Nat) : mBs (DD em mi ic) 26 = 0 := rfl
theorem rt_26 (em mi ic : Nat) : mRet (DD em mi ic) 26 = some .int := rfl
theorem ml_26 (em mi ic : Nat) : mMaxL (DD em mi ic) 26 = 1 := rfl
theorem sg27_0 (em mi ic : Nat) : mSeg (DD em mi ic) 27 0 = g27_0 := rfl
theorem lv27_0 (em mi ic : Nat) : mLive (DD em mi ic) 27 0 = [1, 1, 0, 0] := rfl
theorem sg27_1 (em mi ic : Nat) : mSeg (DD em mi ic) 27 1 = g27_1 := rfl
theorem lv27_1 (em mi ic : Nat) : mLive (DD em mi ic) 27 1 = [1, 1, 1, 1] := rfl
theorem sg27_2 (em mi ic : Nat) : mSeg (DD em mi ic) 27 2 = g27_2 := rfl
theorem lv27_2 (em mi ic : Nat) : mLive (DD em mi ic) 27 2 = [1, 1, 0, 1] := rfl
theorem sg27_3 (em mi ic : Nat) : mSeg (DD em mi ic) 27 3 = g27_3 := rfl
theorem lv27_3 (em mi ic : Nat) : mLive (DD em mi ic) 27 3 = [1, 1, 0, 1] := rfl
theorem sg27_4 (em mi ic : Nat) : mSeg (DD em mi ic) 27 4 = g27_4 := rfl
theorem lv27_4 (em mi ic : Nat) : mLive (DD em mi ic) 27 4 = [0, 0, 1, 0] := rfl
theorem bc_27 (em mi ic : Nat) : mBc (DD em mi ic) 27 = 0 := rfl
theorem bs_27 (em mi ic : Nat) : mBs (DD em mi ic) 27 = 0 := rfl
theorem rt_27 (em mi ic : Nat) : mRet (DD em mi ic) 27 = some .int := rfl
theorem ml_27 (em mi ic : Nat) : mMaxL (DD em mi ic) 27 = 4 := rfl
theorem sg28_0 (em mi ic : Nat) : mSeg (DD em mi ic) 28 0 = g28_0 := rfl
theorem lv28_0 (em mi ic : Nat) : mLive (DD em mi ic) 28 0 = [1, 1, 0, 0, 0] := rfl
theorem sg28_1 (em mi ic : Nat) : mSeg (DD em mi ic) 28 1 = g28_1 := rfl
theorem lv28_1 (em mi ic : Nat) : mLive (DD em mi ic) 28 1 = [1, 1, 1, 1, 0] := rfl
theorem sg28_2 (em mi ic : Nat) : mSeg (DD em mi ic) 28 2 = g28_2 := rfl
theorem lv28_2 (em mi ic : Nat) : mLive (DD em mi ic) 28 2 = [1, 1, 1, 1, 0] := rfl
theorem sg28_3 (em mi ic : Nat) : mSeg (DD em mi ic) 28 3 = g28_3 := rfl
theorem lv28_3 (em mi ic : Nat) : mLive (DD em mi ic) 28 3 = [0, 0, 1, 0, 0] := rfl
theorem bc_28 (em mi ic : Nat) : mBc (DD em mi ic) 28 = 0 := rfl
theorem bs_28 (em mi ic : Nat) : mBs (DD em mi ic) 28 = 0 := rfl
theorem rt_28 (em mi ic : Nat) : mRet (DD em mi ic) 28 = some .int := rfl
theorem ml_28 (em mi ic : Nat) : mMaxL (DD em mi ic) 28 = 5 := rfl
theorem sg29_0 (em mi ic : Nat) : mSeg (DD em mi ic) 29 0 = g29_0 := rfl
theorem lv29_0 (em mi ic : Nat) : mLive (DD em mi ic) 29 0 = [1, 0, 0, 0, 0, 0] := rfl
theorem sg29_1 (em mi ic : Nat) : mSeg (DD em mi ic) 29 1 = g29_1 := rfl
theorem lv29_1 (em mi ic : Nat) : mLive (DD em mi ic) 29 1 = [1, 1, 1, 0, 0, 0] := rfl
theorem sg29_2 (em mi ic : Nat) : mSeg (DD em mi ic) 29 2 = g29_2 := rfl
theorem lv29_2 (em mi ic : Nat) : mLive (DD em mi ic) 29 2 = [1, 0, 1, 0, 0, 0] := rfl
theorem sg29_3 (em mi ic : Nat) : mSeg (DD em mi ic) 29 3 = g29_3 := rfl
theorem lv29_3 (em mi ic : Nat) : mLive (DD em mi ic) 29 3 = [1, 0, 1, 0, 0, 0] := rfl
theorem sg29_4 (em mi ic : Nat) : mSeg (DD em mi ic) 29 4 = g29_4 := rfl
theorem lv29_4 (em mi ic : Nat) : mLive (DD em mi ic) 29 4 = [1, 1, 0, 0, 0, 0] := rfl
theorem sg29_5 (em mi ic : Nat) : mSeg (DD em mi ic) 29 5 = g29_5 := rfl
theorem lv29_5 (em mi ic : Nat) : mLive (DD em mi ic) 29 5 = [1, 1, 1, 0, 0, 0] := rfl
theorem sg29_6 (em mi ic : Nat) : mSeg (DD em mi ic) 29 6 = g29_6 := rfl
theorem lv29_6 (em mi ic : Nat) : mLive (DD em mi ic) 29 6 = [1, 1, 1, 1, 0, 0] := rfl
theorem sg29_7 (em mi ic : Nat) : mSeg (DD em mi ic) 29 7 = g29_7 := rfl
theorem lv29_7 (em mi ic : Nat) : mLive (DD em mi ic) 29 7 = [1, 1, 1, 1, 0, 0] := rfl
theorem sg29_8 (em mi ic : Nat) : mSeg (DD em mi ic) 29 8 = g29_8 := rfl
theorem lv29_8 (em mi ic : Nat) : mLive (DD em mi ic) 29 8 = [1, 1, 1, 0, 0, 0] := rfl
theorem sg29_9 (em mi ic : Nat) : mSeg (DD em mi ic) 29 9 = g29_9 := rfl
theorem lv29_9 (em mi ic : Nat) : mLive (DD em mi ic) 29 9 = [0, 1, 0, 0, 0, 0] := rfl
theorem bc_29 (em mi ic : Nat) : mBc (DD em mi ic) 29 = 0 := rfl
theorem bs_29 (em mi ic : Nat) : mBs (DD em mi ic) 29 = 0 := rfl
theorem rt_29 (em mi ic : Nat) : mRet (DD em mi ic) 29 = some .int := rfl
theorem ml_29 (em mi ic : Nat) : mMaxL (DD em mi ic) 29 = 6 := rfl
theorem sg30_0 (em mi ic : Nat) : mSeg (DD em mi ic) 30 0 = g30_0 := rfl
theorem lv30_0 (em mi ic : Nat) : mLive (DD em mi ic) 30 0 = [1, 1] := rfl
theorem sg30_1 (em mi ic : Nat) : mSeg (DD em mi ic) 30 1 = g30_1 := rfl
theorem lv30_1 (em mi ic : Nat) : mLive (DD em mi ic) 30 1 = [0, 1] := rfl
theorem sg30_2 (em mi ic : Nat) : mSeg (DD em mi ic) 30 2 = g30_2 := rfl
theorem lv30_2 (em mi ic : Nat) : mLive (DD em mi ic) 30 2 = [0, 0] := rfl
theorem bc_30 (em mi ic : Nat) : mBc (DD em mi ic) 30 = 0 := rfl
theorem bs_30 (em mi ic : Nat) : mBs (DD em mi ic) 30 = 0 := rfl
theorem rt_30 (em mi ic : Nat) : mRet (DD em mi ic) 30 = some .int := rfl
theorem ml_30 (em mi ic : Nat) : mMaxL (DD em mi ic) 30 = 2 := rfl
theorem sg31_0 (em mi ic : Nat) : mSeg (DD em mi ic) 31 0 = g31_0 := rfl
theorem lv31_0 (em mi ic : Nat) : mLive (DD em mi ic) 31 0 = [1, 1, 0, 0] := rfl
theorem sg31_1 (em mi ic : Nat) : mSeg (DD em mi ic) 31 1 = g31_1 := rfl
theorem lv31_1 (em mi ic : Nat) : mLive (DD em mi ic) 31 1 = [1, 1, 0, 0] := rfl
theorem sg31_2 (em mi ic : Nat) : mSeg (DD em mi ic) 31 2 = g31_2 := rfl
theorem lv31_2 (em mi ic : Nat) : mLive (DD em mi ic) 31 2 = [1, 1, 0, 0] := rfl
theorem sg31_3 (em mi ic : Nat) : mSeg (DD em mi ic) 31 3 = g31_3 := rfl
theorem lv31_3 (em mi ic : Nat) : mLive (DD em mi ic) 31 3 = [1, 1, 1, 1] := rfl
theorem sg31_4 (em mi ic : Nat) : mSeg (DD em mi ic) 31 4 = g31_4 := rfl
theorem lv31_4 (em mi ic : Nat) : mLive (DD em mi ic) 31 4 = [0, 0, 1, 0] := rfl
theorem bc_31 (em mi ic : Nat) : mBc (DD em mi ic) 31 = 1 := rfl
theorem bs_31 (em mi ic : Nat) : mBs (DD em mi ic) 31 = 6 := rfl
theorem rt_31 (em mi ic : Nat) : mRet (DD em mi ic) 31 = some .int := rfl
theorem ml_31 (em mi ic : Nat) : mMaxL (DD em mi ic) 31 = 4 := rfl
theorem sg32_0 (em mi ic : Nat) : mSeg (DD em mi ic) 32 0 = g32_0 := rfl
theorem lv32_0 (em mi ic : Nat) : mLive (DD em mi ic) 32 0 = [1, 1, 0] := rfl
theorem sg32_1 (em mi ic : Nat) : mSeg (DD em mi ic) 32 1 = g32_1 := rfl
theorem lv32_1 (em mi ic : Nat) : mLive (DD em mi ic) 32 1 = [0, 0, 0] := rfl
theorem sg32_2 (em mi ic : Nat) : mSeg (DD em mi ic) 32 2 = g32_2 := rfl
theorem lv32_2 (em mi ic : Nat) : mLive (DD em mi ic) 32 2 = [1, 1, 0] := rfl
theorem sg32_3 (em mi ic : Nat) : mSeg (DD em mi ic) 32 3 = g32_3 := rfl
theorem lv32_3 (em mi ic : Nat) : mLive (DD em mi ic) 32 3 = [0, 0, 0] := rfl
theorem sg32_4 (em mi ic : Nat) : mSeg (DD em mi ic) 32 4 = g32_4 := rfl
theorem lv32_4 (em mi ic : Nat) : mLive (DD em mi ic) 32 4 = [1, 0, 1] := rfl
theorem bc_32 (em mi ic : Nat) : mBc (DD em mi ic) 32 = 1 := rfl
theorem bs_32 (em mi ic : Nat) : mBs (DD em mi ic) 32 = 6 := rfl
theorem rt_32 (em mi ic : Nat) : mRet (DD em mi ic) 32 = some .int := rfl
theorem ml_32 (em mi ic : Nat) : mMaxL (DD em mi ic) 32 = 3 := rfl
theorem sg33_0 (em mi ic : Nat) : mSeg (DD em mi ic) 33 0 = g33_0 := rfl
theorem lv33_0 (em mi ic : Nat) : mLive (DD em mi ic) 33 0 = [1, 1] := rfl
theorem sg33_1 (em mi ic : Nat) : mSeg (DD em mi ic) 33 1 = g33_1 := rfl
theorem lv33_1 (em mi ic : Nat) : mLive (DD em mi ic) 33 1 = [1, 0] := rfl
theorem sg33_2 (em mi ic : Nat) : mSeg (DD em mi ic) 33 2 = g33_2 := rfl
theorem lv33_2 (em mi ic : Nat) : mLive (DD em mi ic) 33 2 = [1, 0] := rfl
theorem sg33_3 (em mi ic : Nat) : mSeg (DD em mi ic) 33 3 = g33_3 := rfl
theorem lv33_3 (em mi ic : Nat) : mLive (DD em mi ic) 33 3 = [1, 0] := rfl
theorem sg33_4 (em mi ic : Nat) : mSeg (DD em mi ic) 33 4 = g33_4 := rfl
theorem lv33_4 (em mi ic : Nat) : mLive (DD em mi ic) 33 4 = [1, 0] := rfl
theorem sg33_5 (em mi ic : Nat) : mSeg (DD em mi ic) 33 5 = g33_5 := rfl
theorem lv33_5 (em mi ic : Nat) : mLive (DD em mi ic) 33 5 = [1, 0] := rfl
theorem sg33_6 (em mi ic : Nat) : mSeg (DD em mi ic) 33 6 = g33_6 := rfl
theorem lv33_6 (em mi ic : Nat) : mLive (DD em mi ic) 33 6 = [1, 0] := rfl
theorem sg33_7 (em mi ic : Nat) : mSeg (DD em mi ic) 33 7 = g33_7 := rfl
theorem lv33_7 (em mi ic : Nat) : mLive (DD em mi ic) 33 7 = [1, 0] := rfl
theorem sg33_8 (em mi ic : Nat) : mSeg (DD em mi ic) 33 8 = g33_8 := rfl
theorem lv33_8 (em mi ic : Nat) : mLive (DD em mi ic) 33 8 = [1, 0] := rfl
theorem sg33_9 (em mi ic : Nat) : mSeg (DD em mi ic) 33 9 = g33_9 := rfl
theorem lv33_9 (em mi ic : Nat) : mLive (DD em mi ic) 33 9 = [1, 0] := rfl
theorem sg33_10 (em mi ic : Nat) : mSeg (DD em mi ic) 33 10 = g33_10 := rfl
theorem lv33_10 (em mi ic : Nat) : mLive (DD em mi ic) 33 10 = [1, 0] := rfl
theorem sg33_11 (em mi ic : Nat) : mSeg (DD em mi ic) 33 11 = g33_11 := rfl
theorem lv33_11 (em mi ic : Nat) : mLive (DD em mi ic) 33 11 = [1, 0] := rfl
theorem sg33_12 (em mi ic : Nat) : mSeg (DD em mi ic) 33 12 = g33_12 := rfl
theorem lv33_12 (em mi ic : Nat) : mLive (DD em mi ic) 33 12 = [1, 0] := rfl
theorem sg33_13 (em mi ic : Nat) : mSeg (DD em mi ic) 33 13 = g33_13 := rfl
theorem lv33_13 (em mi ic : Nat) : mLive (DD em mi ic) 33 13 = [1, 0] := rfl
theorem sg33_14 (em mi ic : Nat) : mSeg (DD em mi ic) 33 14 = g33_14 := rfl
theorem lv33_14 (em mi ic : Nat) : mLive (DD em mi ic) 33 14 = [1, 0] := rfl
theorem sg33_15 (em mi ic : Nat) : mSeg (DD em mi ic) 33 15 = g33_15 := rfl
theorem lv33_15 (em mi ic : Nat) : mLive (DD em mi ic) 33 15 = [1, 0] := rfl
theorem sg33_16 (em mi ic : Nat) : mSeg (DD em mi ic) 33 16 = g33_16 := rfl
theorem lv33_16 (em mi ic : Nat) : mLive (DD em mi ic) 33 16 = [1, 0] := rfl
theorem sg33_17 (em mi ic : Nat) : mSeg (DD em mi ic) 33 17 = g33_17 := rfl
theorem lv33_17 (em mi ic : Nat) : mLive (DD em mi ic) 33 17 = [1, 0] := rfl
theorem sg33_18 (em mi ic : Nat) : mSeg (DD em mi ic) 33 18 = g33_18 := rfl
theorem lv33_18 (em mi ic : Nat) : mLive (DD em mi ic) 33 18 = [1, 0] := rfl
theorem sg33_19 (em mi ic : Nat) : mSeg (DD em mi ic) 33 19 = g33_19 := rfl
theorem lv33_19 (em mi ic : Nat) : mLive (DD em mi ic) 33 19 = [1, 0] := rfl
theorem sg33_20 (em mi ic : Nat) : mSeg (DD em mi ic) 33 20 = g33_20 := rfl
theorem lv33_20 (em mi ic : Nat) : mLive (DD em mi ic) 33 20 = [0, 0] := rfl
theorem bc_33 (em mi ic : Nat) : mBc (DD em mi ic) 33 = 1 := rfl
theorem bs_33 (em mi ic : Nat) : mBs (DD em mi ic) 33 = 6 := rfl
theorem rt_33 (em mi ic : Nat) : mRet (DD em mi ic) 33 = some .int := rfl
theorem ml_33 (em mi ic : Nat) : mMaxL (DD em mi ic) 33 = 2 := rfl
theorem sg34_0 (em mi ic : Nat) : mSeg (DD em mi ic) 34 0 = g34_0 := rfl
theorem lv34_0 (em mi ic : Nat) : mLive (DD em mi ic) 34 0 = [1, 1, 1, 1, 0, 0] := rfl
theorem sg34_1 (em mi ic : Nat) : mSeg (DD em mi ic) 34 1 = g34_1 := rfl
theorem lv34_1 (em mi ic : Nat) : mLive (DD em mi ic) 34 1 = [0, 0, 0, 0, 0, 0] := rfl
theorem sg34_2 (em mi ic : Nat) : mSeg (DD em mi ic) 34 2 = g34_2 := rfl
theorem lv34_2 (em mi ic : Nat) : mLive (DD em mi ic) 34 2 = [1, 1, 1, 1, 0, 0] := rfl
theorem sg34_3 (em mi ic : Nat) : mSeg (DD em mi ic) 34 3 = g34_3 := rfl
theorem lv34_3 (em mi ic : Nat) : mLive (DD em mi ic) 34 3 = [1, 1, 1, 1, 0, 0] := rfl
theorem sg34_4 (em mi ic : Nat) : mSeg (DD em mi ic) 34 4 = g34_4 := rfl
theorem lv34_4 (em mi ic : Nat) : mLive (DD em mi ic) 34 4 = [1, 1, 1, 1, 1, 0] := rfl
theorem sg34_5 (em mi ic : Nat) : mSeg (DD em mi ic) 34 5 = g34_5 := rfl
theorem lv34_5 (em mi ic : Nat) : mLive (DD em mi ic) 34 5 = [1, 0, 0, 0, 1, 1] := rfl
theorem bc_34 (em mi ic : Nat) : mBc (DD em mi ic) 34 = 3 := rfl
theorem bs_34 (em mi ic : Nat) : mBs (DD em mi ic) 34 = 26 := rfl
theorem rt_34 (em mi ic : Nat) : mRet (DD em mi ic) 34 = some .int := rfl
theorem ml_34 (em mi ic : Nat) : mMaxL (DD em mi ic) 34 = 6 := rfl
theorem sg35_0 (em mi ic : Nat) : mSeg (DD em mi ic) 35 0 = g35_0 := rfl
theorem lv35_0 (em mi ic : Nat) : mLive (DD em mi ic) 35 0 = [1, 1, 1, 0, 0] := rfl
theorem sg35_1 (em mi ic : Nat) : mSeg (DD em mi ic) 35 1 = g35_1 := rfl
theorem lv35_1 (em mi ic : Nat) : mLive (DD em mi ic) 35 1 = [0, 0, 0, 0, 0] := rfl
theorem sg35_2 (em mi ic : Nat) : mSeg (DD em mi ic) 35 2 = g35_2 := rfl
theorem lv35_2 (em mi ic : Nat) : mLive (DD em mi ic) 35 2 = [1, 1, 1, 0, 0] := rfl
theorem sg35_3 (em mi ic : Nat) : mSeg (DD em mi ic) 35 3 = g35_3 := rfl
theorem lv35_3 (em mi ic : Nat) : mLive (DD em mi ic) 35 3 = [1, 1, 1, 0, 0] := rfl
theorem bc_35 (em mi ic : Nat) : mBc (DD em mi ic) 35 = 1 := rfl
theorem bs_35 (em mi ic : Nat) : mBs (DD em mi ic) 35 = 6 := rfl
theorem rt_35 (em mi ic : Nat) : mRet (DD em mi ic) 35 = some .int := rfl
theorem ml_35 (em mi ic : Nat) : mMaxL (DD em mi ic) 35 = 5 := rfl
theorem sg36_0 (em mi ic : Nat) : mSeg (DD em mi ic) 36 0 = g36_0 := rfl
theorem lv36_0 (em mi ic : Nat) : mLive (DD em mi ic) 36 0 = [1, 1, 1, 0] := rfl
theorem sg36_1 (em mi ic : Nat) : mSeg (DD em mi ic) 36 1 = g36_1 := rfl
theorem lv36_1 (em mi ic : Nat) : mLive (DD em mi ic) 36 1 = [0, 0, 0, 0] := rfl
theorem sg36_2 (em mi ic : Nat) : mSeg (DD em mi ic) 36 2 = g36_2 := rfl
theorem lv36_2 (em mi ic : Nat) : mLive (DD em mi ic) 36 2 = [1, 1, 1, 0] := rfl
theorem bc_36 (em mi ic : Nat) : mBc (DD em mi ic) 36 = 1 := rfl
theorem bs_36 (em mi ic : Nat) : mBs (DD em mi ic) 36 = 6 := rfl
theorem rt_36 (em mi ic : Nat) : mRet (DD em mi ic) 36 = some .int := rfl
theorem ml_36 (em mi ic : Nat) : mMaxL (DD em mi ic) 36 = 4 := rfl
theorem sg37_0 (em mi ic : Nat) : mSeg (DD em mi ic) 37 0 = g37_0 := rfl
theorem lv37_0 (em mi ic : Nat) : mLive (DD em mi ic) 37 0 = [1, 1, 0] := rfl
theorem sg37_1 (em mi ic : Nat) : mSeg (DD em mi ic) 37 1 = g37_1 := rfl
theorem lv37_1 (em mi ic : Nat) : mLive (DD em mi ic) 37 1 = [1, 1, 0] := rfl
theorem bc_37 (em mi ic : Nat) : mBc (DD em mi ic) 37 = 1 := rfl
theorem bs_37 (em mi ic : Nat) : mBs (DD em mi ic) 37 = 6 := rfl
theorem rt_37 (em mi ic : Nat) : mRet (DD em mi ic) 37 = some .int := rfl
theorem ml_37 (em mi ic : Nat) : mMaxL (DD em mi ic) 37 = 3 := rfl
theorem sg38_0 (em mi ic : Nat) : mSeg (DD em mi ic) 38 0 = g38_0 := rfl
theorem lv38_0 (em mi ic : Nat) : mLive (DD em mi ic) 38 0 = [1, 1, 1, 0] := rfl
theorem sg38_1 (em mi ic : Nat) : mSeg (DD em mi ic) 38 1 = g38_1 := rfl
theorem lv38_1 (em mi ic : Nat) : mLive (DD em mi ic) 38 1 = [0, 0, 0, 0] := rfl
theorem sg38_2 (em mi ic : Nat) : mSeg (DD em mi ic) 38 2 = g38_2 := rfl
theorem lv38_2 (em mi ic : Nat) : mLive (DD em mi ic) 38 2 = [1, 1, 1, 0] := rfl
theorem sg38_3 (em mi ic : Nat) : mSeg (DD em mi ic) 38 3 = g38_3 := rfl
theorem lv38_3 (em mi ic : Nat) : mLive (DD em mi ic) 38 3 = [1, 1, 1, 1] := rfl
theorem bc_38 (em mi ic : Nat) : mBc (DD em mi ic) 38 = 3 := rfl
theorem bs_38 (em mi ic : Nat) : mBs (DD em mi ic) 38 = 24 := rfl
theorem rt_38 (em mi ic : Nat) : mRet (DD em mi ic) 38 = some .int := rfl
theorem ml_38 (em mi ic : Nat) : mMaxL (DD em mi ic) 38 = 4 := rfl
theorem sg39_0 (em mi ic : Nat) : mSeg (DD em mi ic) 39 0 = g39_0 := rfl
theorem lv39_0 (em mi ic : Nat) : mLive (DD em mi ic) 39 0 = [1, 1] := rfl
theorem sg39_1 (em mi ic : Nat) : mSeg (DD em mi ic) 39 1 = g39_1 := rfl
theorem lv39_1 (em mi ic : Nat) : mLive (DD em mi ic) 39 1 = [1, 1] := rfl
theorem bc_39 (em mi ic : Nat) : mBc (DD em mi ic) 39 = 1 := rfl
theorem bs_39 (em mi ic : Nat) : mBs (DD em mi ic) 39 = 6 := rfl
theorem rt_39 (em mi ic : Nat) : mRet (DD em mi ic) 39 = some .int := rfl
theorem ml_39 (em mi ic : Nat) : mMaxL (DD em mi ic) 39 = 2 := rfl
theorem sg40_0 (em mi ic : Nat) : mSeg (DD em mi ic) 40 0 = g40_0 := rfl
theorem lv40_0 (em mi ic : Nat) : mLive (DD em mi ic) 40 0 = [1, 0, 0] := rfl
theorem sg40_1 (em mi ic : Nat) : mSeg (DD em mi ic) 40 1 = g40_1 := rfl
theorem lv40_1 (em mi ic : Nat) : mLive (DD em mi ic) 40 1 = [1, 1, 1] := rfl
theorem sg40_2 (em mi ic : Nat) : mSeg (DD em mi ic) 40 2 = g40_2 := rfl
theorem lv40_2 (em mi ic : Nat) : mLive (DD em mi ic) 40 2 = [0, 1, 0] := rfl
theorem bc_40 (em mi ic : Nat) : mBc (DD em mi ic) 40 = 0 := rfl
theorem bs_40 (em mi ic : Nat) : mBs (DD em mi ic) 40 = 0 := rfl
theorem rt_40 (em mi ic : Nat) : mRet (DD em mi ic) 40 = some .int := rfl
theorem ml_40 (em mi ic : Nat) : mMaxL (DD em mi ic) 40 = 3 := rfl
theorem sg41_0 (em mi ic : Nat) : mSeg (DD em mi ic) 41 0 = g41_0 := rfl
theorem lv41_0 (em mi ic : Nat) : mLive (DD em mi ic) 41 0 = [1, 1, 0] := rfl
theorem sg41_1 (em mi ic : Nat) : mSeg (DD em mi ic) 41 1 = g41_1 := rfl
theorem lv41_1 (em mi ic : Nat) : mLive (DD em mi ic) 41 1 = [1, 1, 0] := rfl
theorem sg41_2 (em mi ic : Nat) : mSeg (DD em mi ic) 41 2 = g41_2 := rfl
theorem lv41_2 (em mi ic : Nat) : mLive (DD em mi ic) 41 2 = [1, 1, 1] := rfl
theorem bc_41 (em mi ic : Nat) : mBc (DD em mi ic) 41 = 3 := rfl
theorem bs_41 (em mi ic : Nat) : mBs (DD em mi ic) 41 = 24 := rfl
theorem rt_41 (em mi ic : Nat) : mRet (DD em mi ic) 41 = some .int := rfl
theorem ml_41 (em mi ic : Nat) : mMaxL (DD em mi ic) 41 = 3 := rfl
theorem sg42_0 (em mi ic : Nat) : mSeg (DD em mi ic) 42 0 = g42_0 := rfl
theorem lv42_0 (em mi ic : Nat) : mLive (DD em mi ic) 42 0 = [1, 1, 1] := rfl
theorem sg42_1 (em mi ic : Nat) : mSeg (DD em mi ic) 42 1 = g42_1 := rfl
theorem lv42_1 (em mi ic : Nat) : mLive (DD em mi ic) 42 1 = [0, 0, 0] := rfl
theorem sg42_2 (em mi ic : Nat) : mSeg (DD em mi ic) 42 2 = g42_2 := rfl
theorem lv42_2 (em mi ic : Nat) : mLive (DD em mi ic) 42 2 = [1, 1, 1] := rfl
theorem bc_42 (em mi ic : Nat) : mBc (DD em mi ic) 42 = 1 := rfl
theorem bs_42 (em mi ic : Nat) : mBs (DD em mi ic) 42 = 6 := rfl
theorem rt_42 (em mi ic : Nat) : mRet (DD em mi ic) 42 = some .int := rfl
theorem ml_42 (em mi ic : Nat) : mMaxL (DD em mi ic) 42 = 3 := rfl
theorem sg43_0 (em mi ic : Nat) : mSeg (DD em mi ic) 43 0 = g43_0 := rfl
theorem lv43_0 (em mi ic : Nat) : mLive (DD em mi ic) 43 0 = [1] := rfl
theorem bc_43 (em mi ic : Nat) : mBc (DD em mi ic) 43 = 0 := rfl
theorem bs_43 (em mi ic : Nat) : mBs (DD em mi ic) 43 = 0 := rfl
theorem rt_43 (em mi ic : Nat) : mRet (DD em mi ic) 43 = some .int := rfl
theorem ml_43 (em mi ic : Nat) : mMaxL (DD em mi ic) 43 = 1 := rfl
theorem sg44_0 (em mi ic : Nat) : mSeg (DD em mi ic) 44 0 = g44_0 := rfl
theorem lv44_0 (em mi ic : Nat) : mLive (DD em mi ic) 44 0 = [1, 1, 1] := rfl
theorem bc_44 (em mi ic : Nat) : mBc (DD em mi ic) 44 = 0 := rfl
theorem bs_44 (em mi ic : Nat) : mBs (DD em mi ic) 44 = 0 := rfl
theorem rt_44 (em mi ic : Nat) : mRet (DD em mi ic) 44 = some .int := rfl
theorem ml_44 (em mi ic : Nat) : mMaxL (DD em mi ic) 44 = 3 := rfl
theorem sg45_0 (em mi ic : Nat) : mSeg (DD em mi ic) 45 0 = g45_0 := rfl
theorem lv45_0 (em mi ic : Nat) : mLive (DD em mi ic) 45 0 = [1, 1] := rfl
theorem bc_45 (em mi ic : Nat) : mBc (DD em mi ic) 45 = 0 := rfl
theorem bs_45 (em mi ic : Nat) : mBs (DD em mi ic) 45 = 0 := rfl
theorem rt_45 (em mi ic : Nat) : mRet (DD em mi ic) 45 = some .int := rfl
theorem ml_45 (em mi ic : Nat) : mMaxL (DD em mi ic) 45 = 2 := rfl
theorem sg46_0 (em mi ic : Nat) : mSeg (DD em mi ic) 46 0 = g46_0 := rfl
theorem lv46_0 (em mi ic : Nat) : mLive (DD em mi ic) 46 0 = [1, 1] := rfl
theorem sg46_1 (em mi ic : Nat) : mSeg (DD em mi ic) 46 1 = g46_1 := rfl
theorem lv46_1 (em mi ic : Nat) : mLive (DD em mi ic) 46 1 = [0, 0] := rfl
theorem sg46_2 (em mi ic : Nat) : mSeg (DD em mi ic) 46 2 = g46_2 := rfl
theorem lv46_2 (em mi ic : Nat) : mLive (DD em mi ic) 46 2 = [1, 1] := rfl
theorem bc_46 (em mi ic : Nat) : mBc (DD em mi ic) 46 = 0 := rfl
theorem bs_46 (em mi ic : Nat) : mBs (DD em mi ic) 46 = 0 := rfl
theorem rt_46 (em mi ic : Nat) : mRet (DD em mi ic) 46 = some .boolean := rfl
theorem ml_46 (em mi ic : Nat) : mMaxL (DD em mi ic) 46 = 2 := rfl
theorem sg47_0 (em mi ic : Nat) : mSeg (DD em mi ic) 47 0 = g47_0 := rfl
theorem lv47_0 (em mi ic : Nat) : mLive (DD em mi ic) 47 0 = [1, 1] := rfl
theorem sg47_1 (em mi ic : Nat) : mSeg (DD em mi ic) 47 1 = g47_1 := rfl
theorem lv47_1 (em mi ic : Nat) : mLive (DD em mi ic) 47 1 = [0, 0] := rfl
theorem sg47_2 (em mi ic : Nat) : mSeg (DD em mi ic) 47 2 = g47_2 := rfl
theorem lv47_2 (em mi ic : Nat) : mLive (DD em mi ic) 47 2 = [0, 0] := rfl
theorem bc_47 (em mi ic : Nat) : mBc (DD em mi ic) 47 = 0 := rfl
theorem bs_47 (em mi ic : Nat) : mBs (DD em mi ic) 47 = 0 := rfl
theorem rt_47 (em mi ic : Nat) : mRet (DD em mi ic) 47 = some .boolean := rfl
theorem ml_47 (em mi ic : Nat) : mMaxL (DD em mi ic) 47 = 2 := rfl
theorem sg48_0 (em mi ic : Nat) : mSeg (DD em mi ic) 48 0 = g48_0 := rfl
theorem lv48_0 (em mi ic : Nat) : mLive (DD em mi ic) 48 0 = [1, 0, 0] := rfl
theorem sg48_1 (em mi ic : Nat) : mSeg (DD em mi ic) 48 1 = g48_1 := rfl
theorem lv48_1 (em mi ic : Nat) : mLive (DD em mi ic) 48 1 = [1, 1, 0] := rfl
theorem sg48_2 (em mi ic : Nat) : mSeg (DD em mi ic) 48 2 = g48_2 := rfl
theorem lv48_2 (em mi ic : Nat) : mLive (DD em mi ic) 48 2 = [1, 1, 0] := rfl
theorem sg48_3 (em mi ic : Nat) : mSeg (DD em mi ic) 48 3 = g48_3 := rfl
theorem lv48_3 (em mi ic : Nat) : mLive (DD em mi ic) 48 3 = [0, 0, 0] := rfl
theorem bc_48 (em mi ic : Nat) : mBc (DD em mi ic) 48 = 0 := rfl
theorem bs_48 (em mi ic : Nat) : mBs (DD em mi ic) 48 = 0 := rfl
theorem rt_48 (em mi ic : Nat) : mRet (DD em mi ic) 48 = some .boolean := rfl
theorem ml_48 (em mi ic : Nat) : mMaxL (DD em mi ic) 48 = 3 := rfl
theorem sg49_0 (em mi ic : Nat) : mSeg (DD em mi ic) 49 0 = g49_0 := rfl
theorem lv49_0 (em mi ic : Nat) : mLive (DD em mi ic) 49 0 = [1, 0] := rfl
theorem sg49_1 (em mi ic : Nat) : mSeg (DD em mi ic) 49 1 = g49_1 := rfl
theorem lv49_1 (em mi ic : Nat) : mLive (DD em mi ic) 49 1 = [1, 1] := rfl
theorem sg49_2 (em mi ic : Nat) : mSeg (DD em mi ic) 49 2 = g49_2 := rfl
theorem lv49_2 (em mi ic : Nat) : mLive (DD em mi ic) 49 2 = [0, 0] := rfl
theorem sg49_3 (em mi ic : Nat) : mSeg (DD em mi ic) 49 3 = g49_3 := rfl
theorem lv49_3 (em mi ic : Nat) : mLive (DD em mi ic) 49 3 = [1, 1] := rfl
theorem sg49_4 (em mi ic : Nat) : mSeg (DD em mi ic) 49 4 = g49_4 := rfl
theorem lv49_4 (em mi ic : Nat) : mLive (DD em mi ic) 49 4 = [0, 0] := rfl
theorem bc_49 (em mi ic : Nat) : mBc (DD em mi ic) 49 = 0 := rfl
theorem bs_49 (em mi ic : Nat) : mBs (DD em mi ic) 49 = 0 := rfl
theorem rt_49 (em mi ic : Nat) : mRet (DD em mi ic) 49 = some .boolean := rfl
theorem ml_49 (em mi ic : Nat) : mMaxL (DD em mi ic) 49 = 2 := rfl
theorem sg50_0 (em mi ic : Nat) : mSeg (DD em mi ic) 50 0 = g50_0 := rfl
theorem lv50_0 (em mi ic : Nat) : mLive (DD em mi ic) 50 0 = [1, 0] := rfl
theorem sg50_1 (em mi ic : Nat) : mSeg (DD em mi ic) 50 1 = g50_1 := rfl
theorem lv50_1 (em mi ic : Nat) : mLive (DD em mi ic) 50 1 = [1, 1] := rfl
theorem sg50_2 (em mi ic : Nat) : mSeg (DD em mi ic) 50 2 = g50_2 := rfl
theorem lv50_2 (em mi ic : Nat) : mLive (DD em mi ic) 50 2 = [0, 0] := rfl
theorem bc_50 (em mi ic : Nat) : mBc (DD em mi ic) 50 = 0 := rfl
theorem bs_50 (em mi ic : Nat) : mBs (DD em mi ic) 50 = 0 := rfl
theorem rt_50 (em mi ic : Nat) : mRet (DD em mi ic) 50 = none := rfl
theorem ml_50 (em mi ic : Nat) : mMaxL (DD em mi ic) 50 = 2 := rfl
theorem sg51_0 (em mi ic : Nat) : mSeg (DD em mi ic) 51 0 = g51_0 := rfl
theorem lv51_0 (em mi ic : Nat) : mLive (DD em mi ic) 51 0 = [1, 1, 1, 0, 0, 0] := rfl
theorem sg51_1 (em mi ic : Nat) : mSeg (DD em mi ic) 51 1 = g51_1 := rfl
theorem lv51_1 (em mi ic : Nat) : mLive (DD em mi ic) 51 1 = [1, 1, 0, 0, 0, 0] := rfl
theorem sg51_2 (em mi ic : Nat) : mSeg (DD em mi ic) 51 2 = g51_2 := rfl
theorem lv51_2 (em mi ic : Nat) : mLive (DD em mi ic) 51 2 = [0, 0, 0, 0, 0, 0] := rfl
theorem sg51_3 (em mi ic : Nat) : mSeg (DD em mi ic) 51 3 = g51_3 := rfl
theorem lv51_3 (em mi ic : Nat) : mLive (DD em mi ic) 51 3 = [0, 0, 0, 0, 0, 0] := rfl
theorem sg51_4 (em mi ic : Nat) : mSeg (DD em mi ic) 51 4 = g51_4 := rfl
theorem lv51_4 (em mi ic : Nat) : mLive (DD em mi ic) 51 4 = [1, 1, 1, 0, 0, 0] := rfl
theorem sg51_5 (em mi ic : Nat) : mSeg (DD em mi ic) 51 5 = g51_5 := rfl
theorem lv51_5 (em mi ic : Nat) : mLive (DD em mi ic) 51 5 = [1, 1, 1, 1, 0, 0] := rfl
theorem sg51_6 (em mi ic : Nat) : mSeg (DD em mi ic) 51 6 = g51_6 := rfl
theorem lv51_6 (em mi ic : Nat) : mLive (DD em mi ic) 51 6 = [1, 1, 1, 1, 1, 0] := rfl
theorem sg51_7 (em mi ic : Nat) : mSeg (DD em mi ic) 51 7 = g51_7 := rfl
theorem lv51_7 (em mi ic : Nat) : mLive (DD em mi ic) 51 7 = [1, 1, 1, 1, 1, 0] := rfl
theorem sg51_8 (em mi ic : Nat) : mSeg (DD em mi ic) 51 8 = g51_8 := rfl
theorem lv51_8 (em mi ic : Nat) : mLive (DD em mi ic) 51 8 = [1, 1, 1, 1, 1, 0] := rfl
theorem sg51_9 (em mi ic : Nat) : mSeg (DD em mi ic) 51 9 = g51_9 := rfl
theorem lv51_9 (em mi ic : Nat) : mLive (DD em mi ic) 51 9 = [1, 1, 1, 1, 1, 1] := rfl
theorem sg51_10 (em mi ic : Nat) : mSeg (DD em mi ic) 51 10 = g51_10 := rfl
theorem lv51_10 (em mi ic : Nat) : mLive (DD em mi ic) 51 10 = [1, 1, 1, 1, 1, 0] := rfl
theorem sg51_11 (em mi ic : Nat) : mSeg (DD em mi ic) 51 11 = g51_11 := rfl
theorem lv51_11 (em mi ic : Nat) : mLive (DD em mi ic) 51 11 = [1, 1, 1, 1, 1, 0] := rfl
theorem sg51_12 (em mi ic : Nat) : mSeg (DD em mi ic) 51 12 = g51_12 := rfl
theorem lv51_12 (em mi ic : Nat) : mLive (DD em mi ic) 51 12 = [0, 0, 0, 0, 0, 0] := rfl
theorem bc_51 (em mi ic : Nat) : mBc (DD em mi ic) 51 = 0 := rfl
theorem bs_51 (em mi ic : Nat) : mBs (DD em mi ic) 51 = 0 := rfl
theorem rt_51 (em mi ic : Nat) : mRet (DD em mi ic) 51 = some .boolean := rfl
theorem ml_51 (em mi ic : Nat) : mMaxL (DD em mi ic) 51 = 6 := rfl
theorem sg52_0 (em mi ic : Nat) : mSeg (DD em mi ic) 52 0 = g52_0 := rfl
theorem lv52_0 (em mi ic : Nat) : mLive (DD em mi ic) 52 0 = [1, 0, 0, 0, 0] := rfl
theorem sg52_1 (em mi ic : Nat) : mSeg (DD em mi ic) 52 1 = g52_1 := rfl
theorem lv52_1 (em mi ic : Nat) : mLive (DD em mi ic) 52 1 = [1, 1, 1, 0, 0] := rfl
theorem sg52_2 (em mi ic : Nat) : mSeg (DD em mi ic) 52 2 = g52_2 := rfl
theorem lv52_2 (em mi ic : Nat) : mLive (DD em mi ic) 52 2 = [1, 1, 1, 1, 0] := rfl
theorem sg52_3 (em mi ic : Nat) : mSeg (DD em mi ic) 52 3 = g52_3 := rfl
theorem lv52_3 (em mi ic : Nat) : mLive (DD em mi ic) 52 3 = [1, 1, 1, 1, 0] := rfl
theorem sg52_4 (em mi ic : Nat) : mSeg (DD em mi ic) 52 4 = g52_4 := rfl
theorem lv52_4 (em mi ic : Nat) : mLive (DD em mi ic) 52 4 = [1, 1, 1, 0, 0] := rfl
theorem sg52_5 (em mi ic : Nat) : mSeg (DD em mi ic) 52 5 = g52_5 := rfl
theorem lv52_5 (em mi ic : Nat) : mLive (DD em mi ic) 52 5 = [0, 1, 0, 0, 0] := rfl
theorem bc_52 (em mi ic : Nat) : mBc (DD em mi ic) 52 = 0 := rfl
theorem bs_52 (em mi ic : Nat) : mBs (DD em mi ic) 52 = 0 := rfl
theorem rt_52 (em mi ic : Nat) : mRet (DD em mi ic) 52 = some .int := rfl
theorem ml_52 (em mi ic : Nat) : mMaxL (DD em mi ic) 52 = 5 := rfl
theorem sg53_0 (em mi ic : Nat) : mSeg (DD em mi ic) 53 0 = g53_0 := rfl
theorem lv53_0 (em mi ic : Nat) : mLive (DD em mi ic) 53 0 = [1, 1, 0, 0] := rfl
theorem sg53_1 (em mi ic : Nat) : mSeg (DD em mi ic) 53 1 = g53_1 := rfl
theorem lv53_1 (em mi ic : Nat) : mLive (DD em mi ic) 53 1 = [1, 1, 1, 1] := rfl
theorem sg53_2 (em mi ic : Nat) : mSeg (DD em mi ic) 53 2 = g53_2 := rfl
theorem lv53_2 (em mi ic : Nat) : mLive (DD em mi ic) 53 2 = [1, 1, 1, 1] := rfl
theorem sg53_3 (em mi ic : Nat) : mSeg (DD em mi ic) 53 3 = g53_3 := rfl
theorem lv53_3 (em mi ic : Nat) : mLive (DD em mi ic) 53 3 = [0, 0, 1, 0] := rfl
theorem bc_53 (em mi ic : Nat) : mBc (DD em mi ic) 53 = 0 := rfl
theorem bs_53 (em mi ic : Nat) : mBs (DD em mi ic) 53 = 0 := rfl
theorem rt_53 (em mi ic : Nat) : mRet (DD em mi ic) 53 = some .int := rfl
theorem ml_53 (em mi ic : Nat) : mMaxL (DD em mi ic) 53 = 4 := rfl
theorem sg54_0 (em mi ic : Nat) : mSeg (DD em mi ic) 54 0 = g54_0 := rfl
theorem lv54_0 (em mi ic : Nat) : mLive (DD em mi ic) 54 0 = [1, 1, 0] := rfl
theorem sg54_1 (em mi ic : Nat) : mSeg (DD em mi ic) 54 1 = g54_1 := rfl
theorem lv54_1 (em mi ic : Nat) : mLive (DD em mi ic) 54 1 = [1, 1, 1] := rfl
theorem sg54_2 (em mi ic : Nat) : mSeg (DD em mi ic) 54 2 = g54_2 := rfl
theorem lv54_2 (em mi ic : Nat) : mLive (DD em mi ic) 54 2 = [1, 1, 1] := rfl
theorem sg54_3 (em mi ic : Nat) : mSeg (DD em mi ic) 54 3 = g54_3 := rfl
theorem lv54_3 (em mi ic : Nat) : mLive (DD em mi ic) 54 3 = [0, 0, 0] := rfl
theorem bc_54 (em mi ic : Nat) : mBc (DD em mi ic) 54 = 0 := rfl
theorem bs_54 (em mi ic : Nat) : mBs (DD em mi ic) 54 = 0 := rfl
theorem rt_54 (em mi ic : Nat) : mRet (DD em mi ic) 54 = some .boolean := rfl
theorem ml_54 (em mi ic : Nat) : mMaxL (DD em mi ic) 54 = 3 := rfl
theorem sg55_0 (em mi ic : Nat) : mSeg (DD em mi ic) 55 0 = g55_0 := rfl
theorem lv55_0 (em mi ic : Nat) : mLive (DD em mi ic) 55 0 = [1, 0, 0, 0] := rfl
theorem sg55_1 (em mi ic : Nat) : mSeg (DD em mi ic) 55 1 = g55_1 := rfl
theorem lv55_1 (em mi ic : Nat) : mLive (DD em mi ic) 55 1 = [1, 1, 1, 1] := rfl
theorem sg55_2 (em mi ic : Nat) : mSeg (DD em mi ic) 55 2 = g55_2 := rfl
theorem lv55_2 (em mi ic : Nat) : mLive (DD em mi ic) 55 2 = [1, 1, 1, 0] := rfl
theorem sg55_3 (em mi ic : Nat) : mSeg (DD em mi ic) 55 3 = g55_3 := rfl
theorem lv55_3 (em mi ic : Nat) : mLive (DD em mi ic) 55 3 = [0, 0, 0, 0] := rfl
theorem sg55_4 (em mi ic : Nat) : mSeg (DD em mi ic) 55 4 = g55_4 := rfl
theorem lv55_4 (em mi ic : Nat) : mLive (DD em mi ic) 55 4 = [0, 0, 0, 0] := rfl
theorem bc_55 (em mi ic : Nat) : mBc (DD em mi ic) 55 = 0 := rfl
theorem bs_55 (em mi ic : Nat) : mBs (DD em mi ic) 55 = 0 := rfl
theorem rt_55 (em mi ic : Nat) : mRet (DD em mi ic) 55 = some .boolean := rfl
theorem ml_55 (em mi ic : Nat) : mMaxL (DD em mi ic) 55 = 4 := rfl
theorem sg56_0 (em mi ic : Nat) : mSeg (DD em mi ic) 56 0 = g56_0 := rfl
theorem lv56_0 (em mi ic : Nat) : mLive (DD em mi ic) 56 0 = [1] := rfl
theorem bc_56 (em mi ic : Nat) : mBc (DD em mi ic) 56 = 0 := rfl
theorem bs_56 (em mi ic : Nat) : mBs (DD em mi ic) 56 = 0 := rfl
theorem rt_56 (em mi ic : Nat) : mRet (DD em mi ic) 56 = none := rfl
theorem ml_56 (em mi ic : Nat) : mMaxL (DD em mi ic) 56 = 1 := rfl
theorem sg57_0 (em mi ic : Nat) : mSeg (DD em mi ic) 57 0 = g57_0 := rfl
theorem lv57_0 (em mi ic : Nat) : mLive (DD em mi ic) 57 0 = [1] := rfl
theorem bc_57 (em mi ic : Nat) : mBc (DD em mi ic) 57 = 0 := rfl
theorem bs_57 (em mi ic : Nat) : mBs (DD em mi ic) 57 = 0 := rfl
theorem rt_57 (em mi ic : Nat) : mRet (DD em mi ic) 57 = none := rfl
theorem ml_57 (em mi ic : Nat) : mMaxL (DD em mi ic) 57 = 1 := rfl
theorem sg58_0 (em mi ic : Nat) : mSeg (DD em mi ic) 58 0 = g58_0 := rfl
theorem lv58_0 (em mi ic : Nat) : mLive (DD em mi ic) 58 0 = [1, 1, 1] := rfl
theorem bc_58 (em mi ic : Nat) : mBc (DD em mi ic) 58 = 1 := rfl
theorem bs_58 (em mi ic : Nat) : mBs (DD em mi ic) 58 = 6 := rfl
theorem rt_58 (em mi ic : Nat) : mRet (DD em mi ic) 58 = none := rfl
theorem ml_58 (em mi ic : Nat) : mMaxL (DD em mi ic) 58 = 3 := rfl
theorem sg59_0 (em mi ic : Nat) : mSeg (DD em mi ic) 59 0 = g59_0 := rfl
theorem lv59_0 (em mi ic : Nat) : mLive (DD em mi ic) 59 0 = [1, 1, 1] := rfl
theorem bc_59 (em mi ic : Nat) : mBc (DD em mi ic) 59 = 0 := rfl
theorem bs_59 (em mi ic : Nat) : mBs (DD em mi ic) 59 = 0 := rfl
theorem rt_59 (em mi ic : Nat) : mRet (DD em mi ic) 59 = none := rfl
theorem ml_59 (em mi ic : Nat) : mMaxL (DD em mi ic) 59 = 3 := rfl
theorem sg60_0 (em mi ic : Nat) : mSeg (DD em mi ic) 60 0 = g60_0 := rfl
theorem lv60_0 (em mi ic : Nat) : mLive (DD em mi ic) 60 0 = [1, 1, 1, 1] := rfl
theorem bc_60 (em mi ic : Nat) : mBc (DD em mi ic) 60 = 1 := rfl
theorem bs_60 (em mi ic : Nat) : mBs (DD em mi ic) 60 = 6 := rfl
theorem rt_60 (em mi ic : Nat) : mRet (DD em mi ic) 60 = none := rfl
theorem ml_60 (em mi ic : Nat) : mMaxL (DD em mi ic) 60 = 4 := rfl
theorem sg61_0 (em mi ic : Nat) : mSeg (DD em mi ic) 61 0 = g61_0 := rfl
theorem lv61_0 (em mi ic : Nat) : mLive (DD em mi ic) 61 0 = [1] := rfl
theorem bc_61 (em mi ic : Nat) : mBc (DD em mi ic) 61 = 1 := rfl
theorem bs_61 (em mi ic : Nat) : mBs (DD em mi ic) 61 = 3 := rfl
theorem rt_61 (em mi ic : Nat) : mRet (DD em mi ic) 61 = none := rfl
theorem ml_61 (em mi ic : Nat) : mMaxL (DD em mi ic) 61 = 1 := rfl
theorem sg62_0 (em mi ic : Nat) : mSeg (DD em mi ic) 62 0 = g62_0 := rfl
theorem lv62_0 (em mi ic : Nat) : mLive (DD em mi ic) 62 0 = [1] := rfl
theorem bc_62 (em mi ic : Nat) : mBc (DD em mi ic) 62 = 1 := rfl
theorem bs_62 (em mi ic : Nat) : mBs (DD em mi ic) 62 = 3 := rfl
theorem rt_62 (em mi ic : Nat) : mRet (DD em mi ic) 62 = none := rfl
theorem ml_62 (em mi ic : Nat) : mMaxL (DD em mi ic) 62 = 1 := rfl
theorem sg63_0 (em mi ic : Nat) : mSeg (DD em mi ic) 63 0 = g63_0 := rfl
theorem lv63_0 (em mi ic : Nat) : mLive (DD em mi ic) 63 0 = [1, 1, 1] := rfl
theorem sg63_1 (em mi ic : Nat) : mSeg (DD em mi ic) 63 1 = g63_1 := rfl
theorem lv63_1 (em mi ic : Nat) : mLive (DD em mi ic) 63 1 = [0, 0, 0] := rfl
theorem sg63_2 (em mi ic : Nat) : mSeg (DD em mi ic) 63 2 = g63_2 := rfl
theorem lv63_2 (em mi ic : Nat) : mLive (DD em mi ic) 63 2 = [0, 0, 0] := rfl
theorem bc_63 (em mi ic : Nat) : mBc (DD em mi ic) 63 = 0 := rfl
theorem bs_63 (em mi ic : Nat) : mBs (DD em mi ic) 63 = 0 := rfl
theorem rt_63 (em mi ic : Nat) : mRet (DD em mi ic) 63 = some .boolean := rfl
theorem ml_63 (em mi ic : Nat) : mMaxL (DD em mi ic) 63 = 3 := rfl
theorem sg64_0 (em mi ic : Nat) : mSeg (DD em mi ic) 64 0 = g64_0 := rfl
theorem lv64_0 (em mi ic : Nat) : mLive (DD em mi ic) 64 0 = [1, 1, 1, 1] := rfl
theorem bc_64 (em mi ic : Nat) : mBc (DD em mi ic) 64 = 0 := rfl
theorem bs_64 (em mi ic : Nat) : mBs (DD em mi ic) 64 = 0 := rfl
theorem rt_64 (em mi ic : Nat) : mRet (DD em mi ic) 64 = none := rfl
theorem ml_64 (em mi ic : Nat) : mMaxL (DD em mi ic) 64 = 4 := rfl
theorem sg65_0 (em mi ic : Nat) : mSeg (DD em mi ic) 65 0 = g65_0 := rfl
theorem lv65_0 (em mi ic : Nat) : mLive (DD em mi ic) 65 0 = [1, 1] := rfl
theorem bc_65 (em mi ic : Nat) : mBc (DD em mi ic) 65 = 1 := rfl
theorem bs_65 (em mi ic : Nat) : mBs (DD em mi ic) 65 = 15 := rfl
theorem rt_65 (em mi ic : Nat) : mRet (DD em mi ic) 65 = some .boolean := rfl
theorem ml_65 (em mi ic : Nat) : mMaxL (DD em mi ic) 65 = 2 := rfl
theorem sg66_0 (em mi ic : Nat) : mSeg (DD em mi ic) 66 0 = g66_0 := rfl
theorem lv66_0 (em mi ic : Nat) : mLive (DD em mi ic) 66 0 = [1, 1, 1, 1] := rfl
theorem bc_66 (em mi ic : Nat) : mBc (DD em mi ic) 66 = 0 := rfl
theorem bs_66 (em mi ic : Nat) : mBs (DD em mi ic) 66 = 0 := rfl
theorem rt_66 (em mi ic : Nat) : mRet (DD em mi ic) 66 = none := rfl
theorem ml_66 (em mi ic : Nat) : mMaxL (DD em mi ic) 66 = 4 := rfl
theorem sg67_0 (em mi ic : Nat) : mSeg (DD em mi ic) 67 0 = g67_0 := rfl
theorem lv67_0 (em mi ic : Nat) : mLive (DD em mi ic) 67 0 = [1, 0] := rfl
theorem sg67_1 (em mi ic : Nat) : mSeg (DD em mi ic) 67 1 = g67_1 := rfl
theorem lv67_1 (em mi ic : Nat) : mLive (DD em mi ic) 67 1 = [1, 1] := rfl
theorem sg67_2 (em mi ic : Nat) : mSeg (DD em mi ic) 67 2 = g67_2 := rfl
theorem lv67_2 (em mi ic : Nat) : mLive (DD em mi ic) 67 2 = [1, 0] := rfl
theorem sg67_3 (em mi ic : Nat) : mSeg (DD em mi ic) 67 3 = g67_3 := rfl
theorem lv67_3 (em mi ic : Nat) : mLive (DD em mi ic) 67 3 = [1, 1] := rfl
theorem sg67_4 (em mi ic : Nat) : mSeg (DD em mi ic) 67 4 = g67_4 := rfl
theorem lv67_4 (em mi ic : Nat) : mLive (DD em mi ic) 67 4 = [0, 0] := rfl
theorem bc_67 (em mi ic : Nat) : mBc (DD em mi ic) 67 = 0 := rfl
theorem bs_67 (em mi ic : Nat) : mBs (DD em mi ic) 67 = 0 := rfl
theorem rt_67 (em mi ic : Nat) : mRet (DD em mi ic) 67 = none := rfl
theorem ml_67 (em mi ic : Nat) : mMaxL (DD em mi ic) 67 = 2 := rfl
theorem sg68_0 (em mi ic : Nat) : mSeg (DD em mi ic) 68 0 = g68_0 := rfl
theorem lv68_0 (em mi ic : Nat) : mLive (DD em mi ic) 68 0 = [1, 1] := rfl
theorem bc_68 (em mi ic : Nat) : mBc (DD em mi ic) 68 = 0 := rfl
theorem bs_68 (em mi ic : Nat) : mBs (DD em mi ic) 68 = 0 := rfl
theorem rt_68 (em mi ic : Nat) : mRet (DD em mi ic) 68 = some (.object "java/lang/Object") := rfl
theorem ml_68 (em mi ic : Nat) : mMaxL (DD em mi ic) 68 = 2 := rfl
theorem sg69_0 (em mi ic : Nat) : mSeg (DD em mi ic) 69 0 = g69_0 := rfl
theorem lv69_0 (em mi ic : Nat) : mLive (DD em mi ic) 69 0 = [1, 1, 1, 1, 1] := rfl
theorem bc_69 (em mi ic : Nat) : mBc (DD em mi ic) 69 = 0 := rfl
theorem bs_69 (em mi ic : Nat) : mBs (DD em mi ic) 69 = 0 := rfl
theorem rt_69 (em mi ic : Nat) : mRet (DD em mi ic) 69 = none := rfl
theorem ml_69 (em mi ic : Nat) : mMaxL (DD em mi ic) 69 = 5 := rfl
theorem sg70_0 (em mi ic : Nat) : mSeg (DD em mi ic) 70 0 = g70_0 := rfl
theorem lv70_0 (em mi ic : Nat) : mLive (DD em mi ic) 70 0 = [1, 1] := rfl
theorem sg70_1 (em mi ic : Nat) : mSeg (DD em mi ic) 70 1 = g70_1 := rfl
theorem lv70_1 (em mi ic : Nat) : mLive (DD em mi ic) 70 1 = [0, 0] := rfl
theorem sg70_2 (em mi ic : Nat) : mSeg (DD em mi ic) 70 2 = g70_2 := rfl
theorem lv70_2 (em mi ic : Nat) : mLive (DD em mi ic) 70 2 = [0, 0] := rfl
theorem bc_70 (em mi ic : Nat) : mBc (DD em mi ic) 70 = 0 := rfl
theorem bs_70 (em mi ic : Nat) : mBs (DD em mi ic) 70 = 0 := rfl
theorem rt_70 (em mi ic : Nat) : mRet (DD em mi ic) 70 = some .boolean := rfl
theorem ml_70 (em mi ic : Nat) : mMaxL (DD em mi ic) 70 = 2 := rfl
theorem sg71_0 (em mi ic : Nat) : mSeg (DD em mi ic) 71 0 = g71_0 := rfl
theorem lv71_0 (em mi ic : Nat) : mLive (DD em mi ic) 71 0 = [1, 1] := rfl
theorem sg71_1 (em mi ic : Nat) : mSeg (DD em mi ic) 71 1 = g71_1 := rfl
theorem lv71_1 (em mi ic : Nat) : mLive (DD em mi ic) 71 1 = [1, 1] := rfl
theorem sg71_2 (em mi ic : Nat) : mSeg (DD em mi ic) 71 2 = g71_2 := rfl
theorem lv71_2 (em mi ic : Nat) : mLive (DD em mi ic) 71 2 = [1, 1] := rfl
theorem bc_71 (em mi ic : Nat) : mBc (DD em mi ic) 71 = 0 := rfl
theorem bs_71 (em mi ic : Nat) : mBs (DD em mi ic) 71 = 0 := rfl
theorem rt_71 (em mi ic : Nat) : mRet (DD em mi ic) 71 = some .int := rfl
theorem ml_71 (em mi ic : Nat) : mMaxL (DD em mi ic) 71 = 2 := rfl
theorem sg72_0 (em mi ic : Nat) : mSeg (DD em mi ic) 72 0 = g72_0 := rfl
theorem lv72_0 (em mi ic : Nat) : mLive (DD em mi ic) 72 0 = [1, 1, 0, 0, 0] := rfl
theorem sg72_1 (em mi ic : Nat) : mSeg (DD em mi ic) 72 1 = g72_1 := rfl
theorem lv72_1 (em mi ic : Nat) : mLive (DD em mi ic) 72 1 = [1, 1, 1, 1, 0] := rfl
theorem sg72_2 (em mi ic : Nat) : mSeg (DD em mi ic) 72 2 = g72_2 := rfl
theorem lv72_2 (em mi ic : Nat) : mLive (DD em mi ic) 72 2 = [1, 1, 0, 1, 0] := rfl
theorem sg72_3 (em mi ic : Nat) : mSeg (DD em mi ic) 72 3 = g72_3 := rfl
theorem lv72_3 (em mi ic : Nat) : mLive (DD em mi ic) 72 3 = [1, 1, 0, 1, 0] := rfl
theorem sg72_4 (em mi ic : Nat) : mSeg (DD em mi ic) 72 4 = g72_4 := rfl
theorem lv72_4 (em mi ic : Nat) : mLive (DD em mi ic) 72 4 = [0, 0, 1, 0, 0] := rfl
theorem bc_72 (em mi ic : Nat) : mBc (DD em mi ic) 72 = 0 := rfl
theorem bs_72 (em mi ic : Nat) : mBs (DD em mi ic) 72 = 0 := rfl
theorem rt_72 (em mi ic : Nat) : mRet (DD em mi ic) 72 = some .int := rfl
theorem ml_72 (em mi ic : Nat) : mMaxL (DD em mi ic) 72 = 5 := rfl
theorem sg73_0 (em mi ic : Nat) : mSeg (DD em mi ic) 73 0 = g73_0 := rfl
theorem lv73_0 (em mi ic : Nat) : mLive (DD em mi ic) 73 0 = [1, 1] := rfl
theorem sg73_1 (em mi ic : Nat) : mSeg (DD em mi ic) 73 1 = g73_1 := rfl
theorem lv73_1 (em mi ic : Nat) : mLive (DD em mi ic) 73 1 = [0, 0] := rfl
theorem sg73_2 (em mi ic : Nat) : mSeg (DD em mi ic) 73 2 = g73_2 := rfl
theorem lv73_2 (em mi ic : Nat) : mLive (DD em mi ic) 73 2 = [0, 0] := rfl
theorem bc_73 (em mi ic : Nat) : mBc (DD em mi ic) 73 = 0 := rfl
theorem bs_73 (em mi ic : Nat) : mBs (DD em mi ic) 73 = 0 := rfl
theorem rt_73 (em mi ic : Nat) : mRet (DD em mi ic) 73 = some (.object "Twelvehundred$Hall") := rfl
theorem ml_73 (em mi ic : Nat) : mMaxL (DD em mi ic) 73 = 2 := rfl
theorem sg74_0 (em mi ic : Nat) : mSeg (DD em mi ic) 74 0 = g74_0 := rfl
theorem lv74_0 (em mi ic : Nat) : mLive (DD em mi ic) 74 0 = [1, 1] := rfl
theorem sg74_1 (em mi ic : Nat) : mSeg (DD em mi ic) 74 1 = g74_1 := rfl
theorem lv74_1 (em mi ic : Nat) : mLive (DD em mi ic) 74 1 = [0, 0] := rfl
theorem sg74_2 (em mi ic : Nat) : mSeg (DD em mi ic) 74 2 = g74_2 := rfl
theorem lv74_2 (em mi ic : Nat) : mLive (DD em mi ic) 74 2 = [0, 0] := rfl
theorem bc_74 (em mi ic : Nat) : mBc (DD em mi ic) 74 = 0 := rfl
theorem bs_74 (em mi ic : Nat) : mBs (DD em mi ic) 74 = 0 := rfl
theorem rt_74 (em mi ic : Nat) : mRet (DD em mi ic) 74 = some .boolean := rfl
theorem ml_74 (em mi ic : Nat) : mMaxL (DD em mi ic) 74 = 2 := rfl
theorem sg75_0 (em mi ic : Nat) : mSeg (DD em mi ic) 75 0 = g75_0 := rfl
theorem lv75_0 (em mi ic : Nat) : mLive (DD em mi ic) 75 0 = [1, 1, 0, 0] := rfl
theorem sg75_1 (em mi ic : Nat) : mSeg (DD em mi ic) 75 1 = g75_1 := rfl
theorem lv75_1 (em mi ic : Nat) : mLive (DD em mi ic) 75 1 = [1, 1, 1, 1] := rfl
theorem sg75_2 (em mi ic : Nat) : mSeg (DD em mi ic) 75 2 = g75_2 := rfl
theorem lv75_2 (em mi ic : Nat) : mLive (DD em mi ic) 75 2 = [1, 1, 1, 1] := rfl
theorem sg75_3 (em mi ic : Nat) : mSeg (DD em mi ic) 75 3 = g75_3 := rfl
theorem lv75_3 (em mi ic : Nat) : mLive (DD em mi ic) 75 3 = [0, 0, 1, 0] := rfl
theorem bc_75 (em mi ic : Nat) : mBc (DD em mi ic) 75 = 0 := rfl
theorem bs_75 (em mi ic : Nat) : mBs (DD em mi ic) 75 = 0 := rfl
theorem rt_75 (em mi ic : Nat) : mRet (DD em mi ic) 75 = some .int := rfl
theorem ml_75 (em mi ic : Nat) : mMaxL (DD em mi ic) 75 = 4 := rfl
theorem sg76_0 (em mi ic : Nat) : mSeg (DD em mi ic) 76 0 = g76_0 := rfl
theorem lv76_0 (em mi ic : Nat) : mLive (DD em mi ic) 76 0 = [1, 1] := rfl
theorem sg76_1 (em mi ic : Nat) : mSeg (DD em mi ic) 76 1 = g76_1 := rfl
theorem lv76_1 (em mi ic : Nat) : mLive (DD em mi ic) 76 1 = [0, 1] := rfl
theorem sg76_2 (em mi ic : Nat) : mSeg (DD em mi ic) 76 2 = g76_2 := rfl
theorem lv76_2 (em mi ic : Nat) : mLive (DD em mi ic) 76 2 = [0, 0] := rfl
theorem bc_76 (em mi ic : Nat) : mBc (DD em mi ic) 76 = 0 := rfl
theorem bs_76 (em mi ic : Nat) : mBs (DD em mi ic) 76 = 0 := rfl
theorem rt_76 (em mi ic : Nat) : mRet (DD em mi ic) 76 = some .int := rfl
theorem ml_76 (em mi ic : Nat) : mMaxL (DD em mi ic) 76 = 2 := rfl
theorem sg77_0 (em mi ic : Nat) : mSeg (DD em mi ic) 77 0 = g77_0 := rfl
theorem lv77_0 (em mi ic : Nat) : mLive (DD em mi ic) 77 0 = [1] := rfl
theorem bc_77 (em mi ic : Nat) : mBc (DD em mi ic) 77 = 1 := rfl
theorem bs_77 (em mi ic : Nat) : mBs (DD em mi ic) 77 = 16 := rfl
theorem rt_77 (em mi ic : Nat) : mRet (DD em mi ic) 77 = none := rfl
theorem ml_77 (em mi ic : Nat) : mMaxL (DD em mi ic) 77 = 1 := rfl
theorem sg78_0 (em mi ic : Nat) : mSeg (DD em mi ic) 78 0 = g78_0 := rfl
theorem lv78_0 (em mi ic : Nat) : mLive (DD em mi ic) 78 0 = [1, 1, 0] := rfl
theorem sg78_1 (em mi ic : Nat) : mSeg (DD em mi ic) 78 1 = g78_1 := rfl
theorem lv78_1 (em mi ic : Nat) : mLive (DD em mi ic) 78 1 = [1, 1, 0] := rfl
theorem sg78_2 (em mi ic : Nat) : mSeg (DD em mi ic) 78 2 = g78_2 := rfl
theorem lv78_2 (em mi ic : Nat) : mLive (DD em mi ic) 78 2 = [1, 1, 0] := rfl
theorem sg78_3 (em mi ic : Nat) : mSeg (DD em mi ic) 78 3 = g78_3 := rfl
theorem lv78_3 (em mi ic : Nat) : mLive (DD em mi ic) 78 3 = [0, 0, 1] := rfl
theorem sg78_4 (em mi ic : Nat) : mSeg (DD em mi ic) 78 4 = g78_4 := rfl
theorem lv78_4 (em mi ic : Nat) : mLive (DD em mi ic) 78 4 = [0, 0, 0] := rfl
theorem bc_78 (em mi ic : Nat) : mBc (DD em mi ic) 78 = 0 := rfl
theorem bs_78 (em mi ic : Nat) : mBs (DD em mi ic) 78 = 0 := rfl
theorem rt_78 (em mi ic : Nat) : mRet (DD em mi ic) 78 = some .char := rfl
theorem ml_78 (em mi ic : Nat) : mMaxL (DD em mi ic) 78 = 3 := rfl
theorem sg79_0 (em mi ic : Nat) : mSeg (DD em mi ic) 79 0 = g79_0 := rfl
theorem lv79_0 (em mi ic : Nat) : mLive (DD em mi ic) 79 0 = [1, 1] := rfl
theorem bc_79 (em mi ic : Nat) : mBc (DD em mi ic) 79 = 0 := rfl
theorem bs_79 (em mi ic : Nat) : mBs (DD em mi ic) 79 = 0 := rfl
theorem rt_79 (em mi ic : Nat) : mRet (DD em mi ic) 79 = some (.object "java/lang/StringBuilder") := rfl
theorem ml_79 (em mi ic : Nat) : mMaxL (DD em mi ic) 79 = 2 := rfl
theorem sg80_0 (em mi ic : Nat) : mSeg (DD em mi ic) 80 0 = g80_0 := rfl
theorem lv80_0 (em mi ic : Nat) : mLive (DD em mi ic) 80 0 = [1] := rfl
theorem bc_80 (em mi ic : Nat) : mBc (DD em mi ic) 80 = 2 := rfl
theorem bs_80 (em mi ic : Nat) : mBs (DD em mi ic) 80 = 20 := rfl
theorem rt_80 (em mi ic : Nat) : mRet (DD em mi ic) 80 = some (.object "java/lang/String") := rfl
theorem ml_80 (em mi ic : Nat) : mMaxL (DD em mi ic) 80 = 1 := rfl
theorem sg81_0 (em mi ic : Nat) : mSeg (DD em mi ic) 81 0 = g81_0 := rfl
theorem lv81_0 (em mi ic : Nat) : mLive (DD em mi ic) 81 0 = [1] := rfl
theorem sg81_1 (em mi ic : Nat) : mSeg (DD em mi ic) 81 1 = g81_1 := rfl
theorem lv81_1 (em mi ic : Nat) : mLive (DD em mi ic) 81 1 = [0] := rfl
theorem sg81_2 (em mi ic : Nat) : mSeg (DD em mi ic) 81 2 = g81_2 := rfl
theorem lv81_2 (em mi ic : Nat) : mLive (DD em mi ic) 81 2 = [0] := rfl
theorem bc_81 (em mi ic : Nat) : mBc (DD em mi ic) 81 = 0 := rfl
theorem bs_81 (em mi ic : Nat) : mBs (DD em mi ic) 81 = 0 := rfl
theorem rt_81 (em mi ic : Nat) : mRet (DD em mi ic) 81 = some .byte := rfl
theorem ml_81 (em mi ic : Nat) : mMaxL (DD em mi ic) 81 = 1 := rfl
theorem sg82_0 (em mi ic : Nat) : mSeg (DD em mi ic) 82 0 = g82_0 := rfl
theorem lv82_0 (em mi ic : Nat) : mLive (DD em mi ic) 82 0 = [1, 1] := rfl
theorem sg82_1 (em mi ic : Nat) : mSeg (DD em mi ic) 82 1 = g82_1 := rfl
theorem lv82_1 (em mi ic : Nat) : mLive (DD em mi ic) 82 1 = [0, 0] := rfl
theorem sg82_2 (em mi ic : Nat) : mSeg (DD em mi ic) 82 2 = g82_2 := rfl
theorem lv82_2 (em mi ic : Nat) : mLive (DD em mi ic) 82 2 = [0, 0] := rfl
theorem bc_82 (em mi ic : Nat) : mBc (DD em mi ic) 82 = 0 := rfl
theorem bs_82 (em mi ic : Nat) : mBs (DD em mi ic) 82 = 0 := rfl
theorem rt_82 (em mi ic : Nat) : mRet (DD em mi ic) 82 = some .boolean := rfl
theorem ml_82 (em mi ic : Nat) : mMaxL (DD em mi ic) 82 = 2 := rfl
theorem sg83_0 (em mi ic : Nat) : mSeg (DD em mi ic) 83 0 = g83_0 := rfl
theorem lv83_0 (em mi ic : Nat) : mLive (DD em mi ic) 83 0 = [1, 1, 1, 0] := rfl
theorem sg83_1 (em mi ic : Nat) : mSeg (DD em mi ic) 83 1 = g83_1 := rfl
theorem lv83_1 (em mi ic : Nat) : mLive (DD em mi ic) 83 1 = [1, 1, 1, 1] := rfl
theorem sg83_2 (em mi ic : Nat) : mSeg (DD em mi ic) 83 2 = g83_2 := rfl
theorem lv83_2 (em mi ic : Nat) : mLive (DD em mi ic) 83 2 = [1, 1, 1, 1] := rfl
theorem sg83_3 (em mi ic : Nat) : mSeg (DD em mi ic) 83 3 = g83_3 := rfl
theorem lv83_3 (em mi ic : Nat) : mLive (DD em mi ic) 83 3 = [0, 0, 0, 0] := rfl
theorem bc_83 (em mi ic : Nat) : mBc (DD em mi ic) 83 = 0 := rfl
theorem bs_83 (em mi ic : Nat) : mBs (DD em mi ic) 83 = 0 := rfl
theorem rt_83 (em mi ic : Nat) : mRet (DD em mi ic) 83 = none := rfl
theorem ml_83 (em mi ic : Nat) : mMaxL (DD em mi ic) 83 = 4 := rfl
theorem sg84_0 (em mi ic : Nat) : mSeg (DD em mi ic) 84 0 = g84_0 := rfl
theorem lv84_0 (em mi ic : Nat) : mLive (DD em mi ic) 84 0 = [1] := rfl
theorem bc_84 (em mi ic : Nat) : mBc (DD em mi ic) 84 = 0 := rfl
theorem bs_84 (em mi ic : Nat) : mBs (DD em mi ic) 84 = 0 := rfl
theorem rt_84 (em mi ic : Nat) : mRet (DD em mi ic) 84 = none := rfl
theorem ml_84 (em mi ic : Nat) : mMaxL (DD em mi ic) 84 = 1 := rfl
theorem sg85_0 (em mi ic : Nat) : mSeg (DD em mi ic) 85 0 = g85_0 := rfl
theorem lv85_0 (em mi ic : Nat) : mLive (DD em mi ic) 85 0 = [1, 0, 0, 0] := rfl
theorem sg85_1 (em mi ic : Nat) : mSeg (DD em mi ic) 85 1 = g85_1 := rfl
theorem lv85_1 (em mi ic : Nat) : mLive (DD em mi ic) 85 1 = [1, 1, 1, 0] := rfl
theorem sg85_2 (em mi ic : Nat) : mSeg (DD em mi ic) 85 2 = g85_2 := rfl
theorem lv85_2 (em mi ic : Nat) : mLive (DD em mi ic) 85 2 = [1, 1, 1, 0] := rfl
theorem sg85_3 (em mi ic : Nat) : mSeg (DD em mi ic) 85 3 = g85_3 := rfl
theorem lv85_3 (em mi ic : Nat) : mLive (DD em mi ic) 85 3 = [0, 1, 0, 0] := rfl
theorem bc_85 (em mi ic : Nat) : mBc (DD em mi ic) 85 = 0 := rfl
theorem bs_85 (em mi ic : Nat) : mBs (DD em mi ic) 85 = 0 := rfl
theorem rt_85 (em mi ic : Nat) : mRet (DD em mi ic) 85 = some .int := rfl
theorem ml_85 (em mi ic : Nat) : mMaxL (DD em mi ic) 85 = 4 := rfl
theorem sg86_0 (em mi ic : Nat) : mSeg (DD em mi ic) 86 0 = g86_0 := rfl
theorem lv86_0 (em mi ic : Nat) : mLive (DD em mi ic) 86 0 = [1, 1, 0, 0] := rfl
theorem sg86_1 (em mi ic : Nat) : mSeg (DD em mi ic) 86 1 = g86_1 := rfl
theorem lv86_1 (em mi ic : Nat) : mLive (DD em mi ic) 86 1 = [1, 1, 1, 0] := rfl
theorem sg86_2 (em mi ic : Nat) : mSeg (DD em mi ic) 86 2 = g86_2 := rfl
theorem lv86_2 (em mi ic : Nat) : mLive (DD em mi ic) 86 2 = [1, 1, 1, 0] := rfl
theorem sg86_3 (em mi ic : Nat) : mSeg (DD em mi ic) 86 3 = g86_3 := rfl
theorem lv86_3 (em mi ic : Nat) : mLive (DD em mi ic) 86 3 = [0, 0, 0, 0] := rfl
theorem bc_86 (em mi ic : Nat) : mBc (DD em mi ic) 86 = 0 := rfl
theorem bs_86 (em mi ic : Nat) : mBs (DD em mi ic) 86 = 0 := rfl
theorem rt_86 (em mi ic : Nat) : mRet (DD em mi ic) 86 = none := rfl
theorem ml_86 (em mi ic : Nat) : mMaxL (DD em mi ic) 86 = 4 := rfl
theorem sg87_0 (em mi ic : Nat) : mSeg (DD em mi ic) 87 0 = g87_0 := rfl
theorem lv87_0 (em mi ic : Nat) : mLive (DD em mi ic) 87 0 = [1, 1, 1] := rfl
theorem bc_87 (em mi ic : Nat) : mBc (DD em mi ic) 87 = 0 := rfl
theorem bs_87 (em mi ic : Nat) : mBs (DD em mi ic) 87 = 0 := rfl
theorem rt_87 (em mi ic : Nat) : mRet (DD em mi ic) 87 = none := rfl
theorem ml_87 (em mi ic : Nat) : mMaxL (DD em mi ic) 87 = 3 := rfl
theorem sg88_0 (em mi ic : Nat) : mSeg (DD em mi ic) 88 0 = g88_0 := rfl
theorem lv88_0 (em mi ic : Nat) : mLive (DD em mi ic) 88 0 = [1, 1, 0, 0, 0, 0] := rfl
theorem sg88_1 (em mi ic : Nat) : mSeg (DD em mi ic) 88 1 = g88_1 := rfl
theorem lv88_1 (em mi ic : Nat) : mLive (DD em mi ic) 88 1 = [1, 1, 1, 1, 0, 0] := rfl
theorem sg88_2 (em mi ic : Nat) : mSeg (DD em mi ic) 88 2 = g88_2 := rfl
theorem lv88_2 (em mi ic : Nat) : mLive (DD em mi ic) 88 2 = [1, 1, 1, 1, 0, 0] := rfl
theorem sg88_3 (em mi ic : Nat) : mSeg (DD em mi ic) 88 3 = g88_3 := rfl
theorem lv88_3 (em mi ic : Nat) : mLive (DD em mi ic) 88 3 = [1, 1, 1, 0, 0, 0] := rfl
theorem bc_88 (em mi ic : Nat) : mBc (DD em mi ic) 88 = 0 := rfl
theorem bs_88 (em mi ic : Nat) : mBs (DD em mi ic) 88 = 0 := rfl
theorem rt_88 (em mi ic : Nat) : mRet (DD em mi ic) 88 = some .int := rfl
theorem ml_88 (em mi ic : Nat) : mMaxL (DD em mi ic) 88 = 6 := rfl
theorem sg89_0 (em mi ic : Nat) : mSeg (DD em mi ic) 89 0 = g89_0 := rfl
theorem lv89_0 (em mi ic : Nat) : mLive (DD em mi ic) 89 0 = [1, 0, 0] := rfl
theorem sg89_1 (em mi ic : Nat) : mSeg (DD em mi ic) 89 1 = g89_1 := rfl
theorem lv89_1 (em mi ic : Nat) : mLive (DD em mi ic) 89 1 = [0, 0, 0] := rfl
theorem sg89_2 (em mi ic : Nat) : mSeg (DD em mi ic) 89 2 = g89_2 := rfl
theorem lv89_2 (em mi ic : Nat) : mLive (DD em mi ic) 89 2 = [1, 0, 0] := rfl
theorem sg89_3 (em mi ic : Nat) : mSeg (DD em mi ic) 89 3 = g89_3 := rfl
theorem lv89_3 (em mi ic : Nat) : mLive (DD em mi ic) 89 3 = [0, 1, 1] := rfl
theorem sg89_4 (em mi ic : Nat) : mSeg (DD em mi ic) 89 4 = g89_4 := rfl
theorem lv89_4 (em mi ic : Nat) : mLive (DD em mi ic) 89 4 = [0, 1, 1] := rfl
theorem sg89_5 (em mi ic : Nat) : mSeg (DD em mi ic) 89 5 = g89_5 := rfl
theorem lv89_5 (em mi ic : Nat) : mLive (DD em mi ic) 89 5 = [0, 0, 0] := rfl
theorem bc_89 (em mi ic : Nat) : mBc (DD em mi ic) 89 = 0 := rfl
theorem bs_89 (em mi ic : Nat) : mBs (DD em mi ic) 89 = 0 := rfl
theorem rt_89 (em mi ic : Nat) : mRet (DD em mi ic) 89 = some .boolean := rfl
theorem ml_89 (em mi ic : Nat) : mMaxL (DD em mi ic) 89 = 3 := rfl
theorem sg90_0 (em mi ic : Nat) : mSeg (DD em mi ic) 90 0 = g90_0 := rfl
theorem lv90_0 (em mi ic : Nat) : mLive (DD em mi ic) 90 0 = [1, 1] := rfl
theorem bc_90 (em mi ic : Nat) : mBc (DD em mi ic) 90 = 0 := rfl
theorem bs_90 (em mi ic : Nat) : mBs (DD em mi ic) 90 = 0 := rfl
theorem rt_90 (em mi ic : Nat) : mRet (DD em mi ic) 90 = none := rfl
theorem ml_90 (em mi ic : Nat) : mMaxL (DD em mi ic) 90 = 2 := rfl
theorem sg91_0 (em mi ic : Nat) : mSeg (DD em mi ic) 91 0 = g91_0 := rfl
theorem lv91_0 (em mi ic : Nat) : mLive (DD em mi ic) 91 0 = [1] := rfl
theorem sg91_1 (em mi ic : Nat) : mSeg (DD em mi ic) 91 1 = g91_1 := rfl
theorem lv91_1 (em mi ic : Nat) : mLive (DD em mi ic) 91 1 = [1] := rfl
theorem sg91_2 (em mi ic : Nat) : mSeg (DD em mi ic) 91 2 = g91_2 := rfl
theorem lv91_2 (em mi ic : Nat) : mLive (DD em mi ic) 91 2 = [0] := rfl
theorem bc_91 (em mi ic : Nat) : mBc (DD em mi ic) 91 = 0 := rfl
theorem bs_91 (em mi ic : Nat) : mBs (DD em mi ic) 91 = 0 := rfl
theorem rt_91 (em mi ic : Nat) : mRet (DD em mi ic) 91 = some .int := rfl
theorem ml_91 (em mi ic : Nat) : mMaxL (DD em mi ic) 91 = 1 := rfl
theorem sg92_0 (em mi ic : Nat) : mSeg (DD em mi ic) 92 0 = g92_0 := rfl
theorem lv92_0 (em mi ic : Nat) : mLive (DD em mi ic) 92 0 = [1, 1, 0] := rfl
theorem sg92_1 (em mi ic : Nat) : mSeg (DD em mi ic) 92 1 = g92_1 := rfl
theorem lv92_1 (em mi ic : Nat) : mLive (DD em mi ic) 92 1 = [1, 1, 1] := rfl
theorem sg92_2 (em mi ic : Nat) : mSeg (DD em mi ic) 92 2 = g92_2 := rfl
theorem lv92_2 (em mi ic : Nat) : mLive (DD em mi ic) 92 2 = [1, 1, 1] := rfl
theorem sg92_3 (em mi ic : Nat) : mSeg (DD em mi ic) 92 3 = g92_3 := rfl
theorem lv92_3 (em mi ic : Nat) : mLive (DD em mi ic) 92 3 = [0, 0, 0] := rfl
theorem bc_92 (em mi ic : Nat) : mBc (DD em mi ic) 92 = 0 := rfl
theorem bs_92 (em mi ic : Nat) : mBs (DD em mi ic) 92 = 0 := rfl
theorem rt_92 (em mi ic : Nat) : mRet (DD em mi ic) 92 = some .boolean := rfl
theorem ml_92 (em mi ic : Nat) : mMaxL (DD em mi ic) 92 = 3 := rfl
theorem sg93_0 (em mi ic : Nat) : mSeg (DD em mi ic) 93 0 = g93_0 := rfl
theorem lv93_0 (em mi ic : Nat) : mLive (DD em mi ic) 93 0 = [1, 1, 0, 0, 0, 0] := rfl
theorem sg93_1 (em mi ic : Nat) : mSeg (DD em mi ic) 93 1 = g93_1 := rfl
theorem lv93_1 (em mi ic : Nat) : mLive (DD em mi ic) 93 1 = [1, 0, 1, 1, 0, 0] := rfl
theorem sg93_2 (em mi ic : Nat) : mSeg (DD em mi ic) 93 2 = g93_2 := rfl
theorem lv93_2 (em mi ic : Nat) : mLive (DD em mi ic) 93 2 = [0, 0, 0, 0, 0, 0] := rfl
theorem sg93_3 (em mi ic : Nat) : mSeg (DD em mi ic) 93 3 = g93_3 := rfl
theorem lv93_3 (em mi ic : Nat) : mLive (DD em mi ic) 93 3 = [1, 0, 1, 1, 1, 1] := rfl
theorem sg93_4 (em mi ic : Nat) : mSeg (DD em mi ic) 93 4 = g93_4 := rfl
theorem lv93_4 (em mi ic : Nat) : mLive (DD em mi ic) 93 4 = [1, 0, 1, 1, 0, 1] := rfl
theorem sg93_5 (em mi ic : Nat) : mSeg (DD em mi ic) 93 5 = g93_5 := rfl
theorem lv93_5 (em mi ic : Nat) : mLive (DD em mi ic) 93 5 = [1, 0, 1, 1, 0, 0] := rfl
theorem sg93_6 (em mi ic : Nat) : mSeg (DD em mi ic) 93 6 = g93_6 := rfl
theorem lv93_6 (em mi ic : Nat) : mLive (DD em mi ic) 93 6 = [1, 0, 1, 1, 0, 0] := rfl
theorem sg93_7 (em mi ic : Nat) : mSeg (DD em mi ic) 93 7 = g93_7 := rfl
theorem lv93_7 (em mi ic : Nat) : mLive (DD em mi ic) 93 7 = [0, 0, 1, 0, 0, 0] := rfl
theorem sg93_8 (em mi ic : Nat) : mSeg (DD em mi ic) 93 8 = g93_8 := rfl
theorem lv93_8 (em mi ic : Nat) : mLive (DD em mi ic) 93 8 = [0, 0, 0, 0, 0, 0] := rfl
theorem sg93_9 (em mi ic : Nat) : mSeg (DD em mi ic) 93 9 = g93_9 := rfl
theorem lv93_9 (em mi ic : Nat) : mLive (DD em mi ic) 93 9 = [0, 0, 0, 0, 0, 0] := rfl
theorem bc_93 (em mi ic : Nat) : mBc (DD em mi ic) 93 = 0 := rfl
theorem bs_93 (em mi ic : Nat) : mBs (DD em mi ic) 93 = 0 := rfl
theorem rt_93 (em mi ic : Nat) : mRet (DD em mi ic) 93 = some .boolean := rfl
theorem ml_93 (em mi ic : Nat) : mMaxL (DD em mi ic) 93 = 6 := rfl
theorem sg94_0 (em mi ic : Nat) : mSeg (DD em mi ic) 94 0 = g94_0 := rfl
theorem lv94_0 (em mi ic : Nat) : mLive (DD em mi ic) 94 0 = [1, 1, 0, 0, 0] := rfl
theorem sg94_1 (em mi ic : Nat) : mSeg (DD em mi ic) 94 1 = g94_1 := rfl
theorem lv94_1 (em mi ic : Nat) : mLive (DD em mi ic) 94 1 = [0, 0, 0, 0, 0] := rfl
theorem sg94_2 (em mi ic : Nat) : mSeg (DD em mi ic) 94 2 = g94_2 := rfl
theorem lv94_2 (em mi ic : Nat) : mLive (DD em mi ic) 94 2 = [1, 1, 0, 0, 0] := rfl
theorem sg94_3 (em mi ic : Nat) : mSeg (DD em mi ic) 94 3 = g94_3 := rfl
theorem lv94_3 (em mi ic : Nat) : mLive (DD em mi ic) 94 3 = [1, 1, 1, 1, 0] := rfl
theorem sg94_4 (em mi ic : Nat) : mSeg (DD em mi ic) 94 4 = g94_4 := rfl
theorem lv94_4 (em mi ic : Nat) : mLive (DD em mi ic) 94 4 = [0, 0, 0, 0, 0] := rfl
theorem sg94_5 (em mi ic : Nat) : mSeg (DD em mi ic) 94 5 = g94_5 := rfl
theorem lv94_5 (em mi ic : Nat) : mLive (DD em mi ic) 94 5 = [1, 1, 1, 1, 0] := rfl
theorem sg94_6 (em mi ic : Nat) : mSeg (DD em mi ic) 94 6 = g94_6 := rfl
theorem lv94_6 (em mi ic : Nat) : mLive (DD em mi ic) 94 6 = [0, 0, 0, 0, 0] := rfl
theorem bc_94 (em mi ic : Nat) : mBc (DD em mi ic) 94 = 0 := rfl
theorem bs_94 (em mi ic : Nat) : mBs (DD em mi ic) 94 = 0 := rfl
theorem rt_94 (em mi ic : Nat) : mRet (DD em mi ic) 94 = some .boolean := rfl
theorem ml_94 (em mi ic : Nat) : mMaxL (DD em mi ic) 94 = 5 := rfl
theorem sg95_0 (em mi ic : Nat) : mSeg (DD em mi ic) 95 0 = g95_0 := rfl
theorem lv95_0 (em mi ic : Nat) : mLive (DD em mi ic) 95 0 = [1, 1, 0, 0] := rfl
theorem sg95_1 (em mi ic : Nat) : mSeg (DD em mi ic) 95 1 = g95_1 := rfl
theorem lv95_1 (em mi ic : Nat) : mLive (DD em mi ic) 95 1 = [1, 1, 1, 0] := rfl
theorem sg95_2 (em mi ic : Nat) : mSeg (DD em mi ic) 95 2 = g95_2 := rfl
theorem lv95_2 (em mi ic : Nat) : mLive (DD em mi ic) 95 2 = [1, 1, 1, 0] := rfl
theorem sg95_3 (em mi ic : Nat) : mSeg (DD em mi ic) 95 3 = g95_3 := rfl
theorem lv95_3 (em mi ic : Nat) : mLive (DD em mi ic) 95 3 = [0, 0, 0, 0] := rfl
theorem bc_95 (em mi ic : Nat) : mBc (DD em mi ic) 95 = 0 := rfl
theorem bs_95 (em mi ic : Nat) : mBs (DD em mi ic) 95 = 0 := rfl
theorem rt_95 (em mi ic : Nat) : mRet (DD em mi ic) 95 = some .boolean := rfl
theorem ml_95 (em mi ic : Nat) : mMaxL (DD em mi ic) 95 = 4 := rfl
theorem sg96_0 (em mi ic : Nat) : mSeg (DD em mi ic) 96 0 = g96_0 := rfl
theorem lv96_0 (em mi ic : Nat) : mLive (DD em mi ic) 96 0 = [1, 1, 0, 0] := rfl
theorem sg96_1 (em mi ic : Nat) : mSeg (DD em mi ic) 96 1 = g96_1 := rfl
theorem lv96_1 (em mi ic : Nat) : mLive (DD em mi ic) 96 1 = [1, 1, 1, 0] := rfl
theorem sg96_2 (em mi ic : Nat) : mSeg (DD em mi ic) 96 2 = g96_2 := rfl
theorem lv96_2 (em mi ic : Nat) : mLive (DD em mi ic) 96 2 = [1, 1, 1, 0] := rfl
theorem sg96_3 (em mi ic : Nat) : mSeg (DD em mi ic) 96 3 = g96_3 := rfl
theorem lv96_3 (em mi ic : Nat) : mLive (DD em mi ic) 96 3 = [0, 0, 0, 0] := rfl
theorem bc_96 (em mi ic : Nat) : mBc (DD em mi ic) 96 = 0 := rfl
theorem bs_96 (em mi ic : Nat) : mBs (DD em mi ic) 96 = 0 := rfl
theorem rt_96 (em mi ic : Nat) : mRet (DD em mi ic) 96 = some .boolean := rfl
theorem ml_96 (em mi ic : Nat) : mMaxL (DD em mi ic) 96 = 4 := rfl
theorem sg97_0 (em mi ic : Nat) : mSeg (DD em mi ic) 97 0 = g97_0 := rfl
theorem lv97_0 (em mi ic : Nat) : mLive (DD em mi ic) 97 0 = [1, 1] := rfl
theorem sg97_1 (em mi ic : Nat) : mSeg (DD em mi ic) 97 1 = g97_1 := rfl
theorem lv97_1 (em mi ic : Nat) : mLive (DD em mi ic) 97 1 = [0, 0] := rfl
theorem sg97_2 (em mi ic : Nat) : mSeg (DD em mi ic) 97 2 = g97_2 := rfl
theorem lv97_2 (em mi ic : Nat) : mLive (DD em mi ic) 97 2 = [0, 0] := rfl
theorem bc_97 (em mi ic : Nat) : mBc (DD em mi ic) 97 = 0 := rfl
theorem bs_97 (em mi ic : Nat) : mBs (DD em mi ic) 97 = 0 := rfl
theorem rt_97 (em mi ic : Nat) : mRet (DD em mi ic) 97 = some .boolean := rfl
theorem ml_97 (em mi ic : Nat) : mMaxL (DD em mi ic) 97 = 2 := rfl
theorem sg98_0 (em mi ic : Nat) : mSeg (DD em mi ic) 98 0 = g98_0 := rfl
theorem lv98_0 (em mi ic : Nat) : mLive (DD em mi ic) 98 0 = [1, 1, 1] := rfl
theorem sg98_1 (em mi ic : Nat) : mSeg (DD em mi ic) 98 1 = g98_1 := rfl
theorem lv98_1 (em mi ic : Nat) : mLive (DD em mi ic) 98 1 = [0, 0, 0] := rfl
theorem bc_98 (em mi ic : Nat) : mBc (DD em mi ic) 98 = 0 := rfl
theorem bs_98 (em mi ic : Nat) : mBs (DD em mi ic) 98 = 0 := rfl
theorem rt_98 (em mi ic : Nat) : mRet (DD em mi ic) 98 = none := rfl
theorem ml_98 (em mi ic : Nat) : mMaxL (DD em mi ic) 98 = 3 := rfl
theorem sg99_0 (em mi ic : Nat) : mSeg (DD em mi ic) 99 0 = g99_0 := rfl
theorem lv99_0 (em mi ic : Nat) : mLive (DD em mi ic) 99 0 = [1] := rfl
theorem bc_99 (em mi ic : Nat) : mBc (DD em mi ic) 99 = 0 := rfl
theorem bs_99 (em mi ic : Nat) : mBs (DD em mi ic) 99 = 0 := rfl
theorem rt_99 (em mi ic : Nat) : mRet (DD em mi ic) 99 = none := rfl
theorem ml_99 (em mi ic : Nat) : mMaxL (DD em mi ic) 99 = 1 := rfl
theorem sg100_0 (em mi ic : Nat) : mSeg (DD em mi ic) 100 0 = g100_0 := rfl
theorem lv100_0 (em mi ic : Nat) : mLive (DD em mi ic) 100 0 = [1, 1, 1, 1] := rfl
theorem sg100_1 (em mi ic : Nat) : mSeg (DD em mi ic) 100 1 = g100_1 := rfl
theorem lv100_1 (em mi ic : Nat) : mLive (DD em mi ic) 100 1 = [1, 1, 1, 1] := rfl
theorem bc_100 (em mi ic : Nat) : mBc (DD em mi ic) 100 = 1 := rfl
theorem bs_100 (em mi ic : Nat) : mBs (DD em mi ic) 100 = 15 := rfl
theorem rt_100 (em mi ic : Nat) : mRet (DD em mi ic) 100 = none := rfl
theorem ml_100 (em mi ic : Nat) : mMaxL (DD em mi ic) 100 = 4 := rfl
theorem sg101_0 (em mi ic : Nat) : mSeg (DD em mi ic) 101 0 = g101_0 := rfl
theorem lv101_0 (em mi ic : Nat) : mLive (DD em mi ic) 101 0 = [1, 0, 0, 0] := rfl
theorem sg101_1 (em mi ic : Nat) : mSeg (DD em mi ic) 101 1 = g101_1 := rfl
theorem lv101_1 (em mi ic : Nat) : mLive (DD em mi ic) 101 1 = [1, 1, 0, 0] := rfl
theorem sg101_2 (em mi ic : Nat) : mSeg (DD em mi ic) 101 2 = g101_2 := rfl
theorem lv101_2 (em mi ic : Nat) : mLive (DD em mi ic) 101 2 = [1, 1, 0, 0] := rfl
theorem sg101_3 (em mi ic : Nat) : mSeg (DD em mi ic) 101 3 = g101_3 := rfl
theorem lv101_3 (em mi ic : Nat) : mLive (DD em mi ic) 101 3 = [0, 0, 0, 0] := rfl
theorem bc_101 (em mi ic : Nat) : mBc (DD em mi ic) 101 = 0 := rfl
theorem bs_101 (em mi ic : Nat) : mBs (DD em mi ic) 101 = 0 := rfl
theorem rt_101 (em mi ic : Nat) : mRet (DD em mi ic) 101 = none := rfl
theorem ml_101 (em mi ic : Nat) : mMaxL (DD em mi ic) 101 = 4 := rfl
theorem sg102_0 (em mi ic : Nat) : mSeg (DD em mi ic) 102 0 = g102_0 := rfl
theorem lv102_0 (em mi ic : Nat) : mLive (DD em mi ic) 102 0 = [1, 1] := rfl
theorem bc_102 (em mi ic : Nat) : mBc (DD em mi ic) 102 = 0 := rfl
theorem bs_102 (em mi ic : Nat) : mBs (DD em mi ic) 102 = 0 := rfl
theorem rt_102 (em mi ic : Nat) : mRet (DD em mi ic) 102 = some .int := rfl
theorem ml_102 (em mi ic : Nat) : mMaxL (DD em mi ic) 102 = 2 := rfl
theorem sg103_0 (em mi ic : Nat) : mSeg (DD em mi ic) 103 0 = g103_0 := rfl
theorem lv103_0 (em mi ic : Nat) : mLive (DD em mi ic) 103 0 = [1, 1] := rfl
theorem bc_103 (em mi ic : Nat) : mBc (DD em mi ic) 103 = 0 := rfl
theorem bs_103 (em mi ic : Nat) : mBs (DD em mi ic) 103 = 0 := rfl
theorem rt_103 (em mi ic : Nat) : mRet (DD em mi ic) 103 = some (.object "java/lang/Object") := rfl
theorem ml_103 (em mi ic : Nat) : mMaxL (DD em mi ic) 103 = 2 := rfl
theorem sg104_0 (em mi ic : Nat) : mSeg (DD em mi ic) 104 0 = g104_0 := rfl
theorem lv104_0 (em mi ic : Nat) : mLive (DD em mi ic) 104 0 = [1, 1] := rfl
theorem sg104_1 (em mi ic : Nat) : mSeg (DD em mi ic) 104 1 = g104_1 := rfl
theorem lv104_1 (em mi ic : Nat) : mLive (DD em mi ic) 104 1 = [1, 1] := rfl
theorem sg104_2 (em mi ic : Nat) : mSeg (DD em mi ic) 104 2 = g104_2 := rfl
theorem lv104_2 (em mi ic : Nat) : mLive (DD em mi ic) 104 2 = [0, 0] := rfl
theorem bc_104 (em mi ic : Nat) : mBc (DD em mi ic) 104 = 1 := rfl
theorem bs_104 (em mi ic : Nat) : mBs (DD em mi ic) 104 = 16 := rfl
theorem rt_104 (em mi ic : Nat) : mRet (DD em mi ic) 104 = none := rfl
theorem ml_104 (em mi ic : Nat) : mMaxL (DD em mi ic) 104 = 2 := rfl
theorem sg105_0 (em mi ic : Nat) : mSeg (DD em mi ic) 105 0 = g105_0 := rfl
theorem lv105_0 (em mi ic : Nat) : mLive (DD em mi ic) 105 0 = [1, 1] := rfl
theorem sg105_1 (em mi ic : Nat) : mSeg (DD em mi ic) 105 1 = g105_1 := rfl
theorem lv105_1 (em mi ic : Nat) : mLive (DD em mi ic) 105 1 = [1, 1] := rfl
theorem sg105_2 (em mi ic : Nat) : mSeg (DD em mi ic) 105 2 = g105_2 := rfl
theorem lv105_2 (em mi ic : Nat) : mLive (DD em mi ic) 105 2 = [1, 1] := rfl
theorem sg105_3 (em mi ic : Nat) : mSeg (DD em mi ic) 105 3 = g105_3 := rfl
theorem lv105_3 (em mi ic : Nat) : mLive (DD em mi ic) 105 3 = [1, 0] := rfl
theorem bc_105 (em mi ic : Nat) : mBc (DD em mi ic) 105 = 0 := rfl
theorem bs_105 (em mi ic : Nat) : mBs (DD em mi ic) 105 = 0 := rfl
theorem rt_105 (em mi ic : Nat) : mRet (DD em mi ic) 105 = some (.object "java/lang/AbstractStringBuilder") := rfl
theorem ml_105 (em mi ic : Nat) : mMaxL (DD em mi ic) 105 = 2 := rfl
theorem sg106_0 (em mi ic : Nat) : mSeg (DD em mi ic) 106 0 = g106_0 := rfl
theorem lv106_0 (em mi ic : Nat) : mLive (DD em mi ic) 106 0 = [1, 1] := rfl
theorem bc_106 (em mi ic : Nat) : mBc (DD em mi ic) 106 = 1 := rfl
theorem bs_106 (em mi ic : Nat) : mBs (DD em mi ic) 106 = 16 := rfl
theorem rt_106 (em mi ic : Nat) : mRet (DD em mi ic) 106 = none := rfl
theorem ml_106 (em mi ic : Nat) : mMaxL (DD em mi ic) 106 = 2 := rfl
theorem sg107_0 (em mi ic : Nat) : mSeg (DD em mi ic) 107 0 = g107_0 := rfl
theorem lv107_0 (em mi ic : Nat) : mLive (DD em mi ic) 107 0 = [1, 1, 0, 0, 0] := rfl
theorem sg107_1 (em mi ic : Nat) : mSeg (DD em mi ic) 107 1 = g107_1 := rfl
theorem lv107_1 (em mi ic : Nat) : mLive (DD em mi ic) 107 1 = [0, 0, 1, 1, 1] := rfl
theorem sg107_2 (em mi ic : Nat) : mSeg (DD em mi ic) 107 2 = g107_2 := rfl
theorem lv107_2 (em mi ic : Nat) : mLive (DD em mi ic) 107 2 = [0, 0, 1, 1, 0] := rfl
theorem sg107_3 (em mi ic : Nat) : mSeg (DD em mi ic) 107 3 = g107_3 := rfl
theorem lv107_3 (em mi ic : Nat) : mLive (DD em mi ic) 107 3 = [0, 0, 0, 0, 0] := rfl
theorem sg107_4 (em mi ic : Nat) : mSeg (DD em mi ic) 107 4 = g107_4 := rfl
theorem lv107_4 (em mi ic : Nat) : mLive (DD em mi ic) 107 4 = [0, 0, 0, 0, 0] := rfl
theorem sg107_5 (em mi ic : Nat) : mSeg (DD em mi ic) 107 5 = g107_5 := rfl
theorem lv107_5 (em mi ic : Nat) : mLive (DD em mi ic) 107 5 = [0, 0, 0, 0, 0] := rfl
theorem bc_107 (em mi ic : Nat) : mBc (DD em mi ic) 107 = 0 := rfl
theorem bs_107 (em mi ic : Nat) : mBs (DD em mi ic) 107 = 0 := rfl
theorem rt_107 (em mi ic : Nat) : mRet (DD em mi ic) 107 = some .boolean := rfl
theorem ml_107 (em mi ic : Nat) : mMaxL (DD em mi ic) 107 = 5 := rfl
theorem sg108_0 (em mi ic : Nat) : mSeg (DD em mi ic) 108 0 = g108_0 := rfl
theorem lv108_0 (em mi ic : Nat) : mLive (DD em mi ic) 108 0 = [1, 0, 0, 0] := rfl
theorem sg108_1 (em mi ic : Nat) : mSeg (DD em mi ic) 108 1 = g108_1 := rfl
theorem lv108_1 (em mi ic : Nat) : mLive (DD em mi ic) 108 1 = [1, 1, 1, 0] := rfl
theorem sg108_2 (em mi ic : Nat) : mSeg (DD em mi ic) 108 2 = g108_2 := rfl
theorem lv108_2 (em mi ic : Nat) : mLive (DD em mi ic) 108 2 = [1, 0, 1, 1] := rfl
theorem sg108_3 (em mi ic : Nat) : mSeg (DD em mi ic) 108 3 = g108_3 := rfl
theorem lv108_3 (em mi ic : Nat) : mLive (DD em mi ic) 108 3 = [1, 1, 1, 0] := rfl
theorem sg108_4 (em mi ic : Nat) : mSeg (DD em mi ic) 108 4 = g108_4 := rfl
theorem lv108_4 (em mi ic : Nat) : mLive (DD em mi ic) 108 4 = [0, 1, 0, 0] := rfl
theorem bc_108 (em mi ic : Nat) : mBc (DD em mi ic) 108 = 0 := rfl
theorem bs_108 (em mi ic : Nat) : mBs (DD em mi ic) 108 = 0 := rfl
theorem rt_108 (em mi ic : Nat) : mRet (DD em mi ic) 108 = some (.object "Twelvehundred$Lot") := rfl
theorem ml_108 (em mi ic : Nat) : mMaxL (DD em mi ic) 108 = 4 := rfl
theorem sg109_0 (em mi ic : Nat) : mSeg (DD em mi ic) 109 0 = g109_0 := rfl
theorem lv109_0 (em mi ic : Nat) : mLive (DD em mi ic) 109 0 = [1, 1, 1, 0, 0, 0] := rfl
theorem sg109_1 (em mi ic : Nat) : mSeg (DD em mi ic) 109 1 = g109_1 := rfl
theorem lv109_1 (em mi ic : Nat) : mLive (DD em mi ic) 109 1 = [1, 1, 1, 0, 0, 0] := rfl
theorem sg109_2 (em mi ic : Nat) : mSeg (DD em mi ic) 109 2 = g109_2 := rfl
theorem lv109_2 (em mi ic : Nat) : mLive (DD em mi ic) 109 2 = [1, 0, 1, 1, 1, 1] := rfl
theorem sg109_3 (em mi ic : Nat) : mSeg (DD em mi ic) 109 3 = g109_3 := rfl
theorem lv109_3 (em mi ic : Nat) : mLive (DD em mi ic) 109 3 = [1, 0, 1, 1, 0, 1] := rfl
theorem sg109_4 (em mi ic : Nat) : mSeg (DD em mi ic) 109 4 = g109_4 := rfl
theorem lv109_4 (em mi ic : Nat) : mLive (DD em mi ic) 109 4 = [1, 0, 1, 1, 0, 1] := rfl
theorem sg109_5 (em mi ic : Nat) : mSeg (DD em mi ic) 109 5 = g109_5 := rfl
theorem lv109_5 (em mi ic : Nat) : mLive (DD em mi ic) 109 5 = [1, 0, 0, 1, 1, 0] := rfl
theorem sg109_6 (em mi ic : Nat) : mSeg (DD em mi ic) 109 6 = g109_6 := rfl
theorem lv109_6 (em mi ic : Nat) : mLive (DD em mi ic) 109 6 = [0, 0, 0, 0, 0, 0] := rfl
theorem sg109_7 (em mi ic : Nat) : mSeg (DD em mi ic) 109 7 = g109_7 := rfl
theorem lv109_7 (em mi ic : Nat) : mLive (DD em mi ic) 109 7 = [0, 0, 0, 0, 0, 0] := rfl
theorem bc_109 (em mi ic : Nat) : mBc (DD em mi ic) 109 = 0 := rfl
theorem bs_109 (em mi ic : Nat) : mBs (DD em mi ic) 109 = 0 := rfl
theorem rt_109 (em mi ic : Nat) : mRet (DD em mi ic) 109 = some .boolean := rfl
theorem ml_109 (em mi ic : Nat) : mMaxL (DD em mi ic) 109 = 6 := rfl
theorem sg110_0 (em mi ic : Nat) : mSeg (DD em mi ic) 110 0 = g110_0 := rfl
theorem lv110_0 (em mi ic : Nat) : mLive (DD em mi ic) 110 0 = [1, 1, 1] := rfl
theorem sg110_1 (em mi ic : Nat) : mSeg (DD em mi ic) 110 1 = g110_1 := rfl
theorem lv110_1 (em mi ic : Nat) : mLive (DD em mi ic) 110 1 = [0, 0, 0] := rfl
theorem sg110_2 (em mi ic : Nat) : mSeg (DD em mi ic) 110 2 = g110_2 := rfl
theorem lv110_2 (em mi ic : Nat) : mLive (DD em mi ic) 110 2 = [0, 0, 0] := rfl
theorem bc_110 (em mi ic : Nat) : mBc (DD em mi ic) 110 = 0 := rfl
theorem bs_110 (em mi ic : Nat) : mBs (DD em mi ic) 110 = 0 := rfl
theorem rt_110 (em mi ic : Nat) : mRet (DD em mi ic) 110 = some .boolean := rfl
theorem ml_110 (em mi ic : Nat) : mMaxL (DD em mi ic) 110 = 3 := rfl
theorem sg111_0 (em mi ic : Nat) : mSeg (DD em mi ic) 111 0 = g111_0 := rfl
theorem lv111_0 (em mi ic : Nat) : mLive (DD em mi ic) 111 0 = [1, 1, 1, 0, 0] := rfl
theorem sg111_1 (em mi ic : Nat) : mSeg (DD em mi ic) 111 1 = g111_1 := rfl
theorem lv111_1 (em mi ic : Nat) : mLive (DD em mi ic) 111 1 = [0, 1, 0, 0, 0] := rfl
theorem sg111_2 (em mi ic : Nat) : mSeg (DD em mi ic) 111 2 = g111_2 := rfl
theorem lv111_2 (em mi ic : Nat) : mLive (DD em mi ic) 111 2 = [0, 0, 0, 0, 0] := rfl
theorem sg111_3 (em mi ic : Nat) : mSeg (DD em mi ic) 111 3 = g111_3 := rfl
theorem lv111_3 (em mi ic : Nat) : mLive (DD em mi ic) 111 3 = [0, 0, 0, 0, 0] := rfl
theorem sg111_4 (em mi ic : Nat) : mSeg (DD em mi ic) 111 4 = g111_4 := rfl
theorem lv111_4 (em mi ic : Nat) : mLive (DD em mi ic) 111 4 = [1, 1, 1, 0, 0] := rfl
theorem sg111_5 (em mi ic : Nat) : mSeg (DD em mi ic) 111 5 = g111_5 := rfl
theorem lv111_5 (em mi ic : Nat) : mLive (DD em mi ic) 111 5 = [0, 0, 0, 0, 0] := rfl
theorem sg111_6 (em mi ic : Nat) : mSeg (DD em mi ic) 111 6 = g111_6 := rfl
theorem lv111_6 (em mi ic : Nat) : mLive (DD em mi ic) 111 6 = [0, 1, 1, 0, 0] := rfl
theorem sg111_7 (em mi ic : Nat) : mSeg (DD em mi ic) 111 7 = g111_7 := rfl
theorem lv111_7 (em mi ic : Nat) : mLive (DD em mi ic) 111 7 = [0, 0, 0, 0, 0] := rfl
theorem sg111_8 (em mi ic : Nat) : mSeg (DD em mi ic) 111 8 = g111_8 := rfl
theorem lv111_8 (em mi ic : Nat) : mLive (DD em mi ic) 111 8 = [0, 0, 0, 0, 0] := rfl
theorem bc_111 (em mi ic : Nat) : mBc (DD em mi ic) 111 = 0 := rfl
theorem bs_111 (em mi ic : Nat) : mBs (DD em mi ic) 111 = 0 := rfl
theorem rt_111 (em mi ic : Nat) : mRet (DD em mi ic) 111 = some .boolean := rfl
theorem ml_111 (em mi ic : Nat) : mMaxL (DD em mi ic) 111 = 5 := rfl
theorem sg112_0 (em mi ic : Nat) : mSeg (DD em mi ic) 112 0 = g112_0 := rfl
theorem lv112_0 (em mi ic : Nat) : mLive (DD em mi ic) 112 0 = [1] := rfl
theorem bc_112 (em mi ic : Nat) : mBc (DD em mi ic) 112 = 0 := rfl
theorem bs_112 (em mi ic : Nat) : mBs (DD em mi ic) 112 = 0 := rfl
theorem rt_112 (em mi ic : Nat) : mRet (DD em mi ic) 112 = none := rfl
theorem ml_112 (em mi ic : Nat) : mMaxL (DD em mi ic) 112 = 1 := rfl
theorem sg113_0 (em mi ic : Nat) : mSeg (DD em mi ic) 113 0 = g113_0 := rfl
theorem lv113_0 (em mi ic : Nat) : mLive (DD em mi ic) 113 0 = [1] := rfl
theorem bc_113 (em mi ic : Nat) : mBc (DD em mi ic) 113 = 1 := rfl
theorem bs_113 (em mi ic : Nat) : mBs (DD em mi ic) 113 = 15 := rfl
theorem rt_113 (em mi ic : Nat) : mRet (DD em mi ic) 113 = some (.array (.object "java/lang/Object")) := rfl
theorem ml_113 (em mi ic : Nat) : mMaxL (DD em mi ic) 113 = 1 := rfl
theorem sg114_0 (em mi ic : Nat) : mSeg (DD em mi ic) 114 0 = g114_0 := rfl
theorem lv114_0 (em mi ic : Nat) : mLive (DD em mi ic) 114 0 = [1, 1, 0, 0, 0] := rfl
theorem sg114_1 (em mi ic : Nat) : mSeg (DD em mi ic) 114 1 = g114_1 := rfl
theorem lv114_1 (em mi ic : Nat) : mLive (DD em mi ic) 114 1 = [1, 1, 1, 1, 0] := rfl
theorem sg114_2 (em mi ic : Nat) : mSeg (DD em mi ic) 114 2 = g114_2 := rfl
theorem lv114_2 (em mi ic : Nat) : mLive (DD em mi ic) 114 2 = [1, 1, 1, 1, 0] := rfl
theorem sg114_3 (em mi ic : Nat) : mSeg (DD em mi ic) 114 3 = g114_3 := rfl
theorem lv114_3 (em mi ic : Nat) : mLive (DD em mi ic) 114 3 = [0, 0, 1, 0, 0] := rfl
theorem bc_114 (em mi ic : Nat) : mBc (DD em mi ic) 114 = 0 := rfl
theorem bs_114 (em mi ic : Nat) : mBs (DD em mi ic) 114 = 0 := rfl
theorem rt_114 (em mi ic : Nat) : mRet (DD em mi ic) 114 = some (.object "Twelvehundred$Hall") := rfl
theorem ml_114 (em mi ic : Nat) : mMaxL (DD em mi ic) 114 = 5 := rfl
theorem sg115_0 (em mi ic : Nat) : mSeg (DD em mi ic) 115 0 = g115_0 := rfl
theorem lv115_0 (em mi ic : Nat) : mLive (DD em mi ic) 115 0 = [1, 1, 1, 0] := rfl
theorem sg115_1 (em mi ic : Nat) : mSeg (DD em mi ic) 115 1 = g115_1 := rfl
theorem lv115_1 (em mi ic : Nat) : mLive (DD em mi ic) 115 1 = [1, 1, 1, 0] := rfl
theorem sg115_2 (em mi ic : Nat) : mSeg (DD em mi ic) 115 2 = g115_2 := rfl
theorem lv115_2 (em mi ic : Nat) : mLive (DD em mi ic) 115 2 = [1, 1, 1, 0] := rfl
theorem sg115_3 (em mi ic : Nat) : mSeg (DD em mi ic) 115 3 = g115_3 := rfl
theorem lv115_3 (em mi ic : Nat) : mLive (DD em mi ic) 115 3 = [0, 0, 0, 0] := rfl
theorem bc_115 (em mi ic : Nat) : mBc (DD em mi ic) 115 = 0 := rfl
theorem bs_115 (em mi ic : Nat) : mBs (DD em mi ic) 115 = 0 := rfl
theorem rt_115 (em mi ic : Nat) : mRet (DD em mi ic) 115 = none := rfl
theorem ml_115 (em mi ic : Nat) : mMaxL (DD em mi ic) 115 = 4 := rfl
theorem sg116_0 (em mi ic : Nat) : mSeg (DD em mi ic) 116 0 = g116_0 := rfl
theorem lv116_0 (em mi ic : Nat) : mLive (DD em mi ic) 116 0 = [1, 1, 1] := rfl
theorem sg116_1 (em mi ic : Nat) : mSeg (DD em mi ic) 116 1 = g116_1 := rfl
theorem lv116_1 (em mi ic : Nat) : mLive (DD em mi ic) 116 1 = [1, 1, 1] := rfl
theorem sg116_2 (em mi ic : Nat) : mSeg (DD em mi ic) 116 2 = g116_2 := rfl
theorem lv116_2 (em mi ic : Nat) : mLive (DD em mi ic) 116 2 = [1, 0, 0] := rfl
theorem bc_116 (em mi ic : Nat) : mBc (DD em mi ic) 116 = 0 := rfl
theorem bs_116 (em mi ic : Nat) : mBs (DD em mi ic) 116 = 0 := rfl
theorem rt_116 (em mi ic : Nat) : mRet (DD em mi ic) 116 = some .int := rfl
theorem ml_116 (em mi ic : Nat) : mMaxL (DD em mi ic) 116 = 3 := rfl
theorem sg117_0 (em mi ic : Nat) : mSeg (DD em mi ic) 117 0 = g117_0 := rfl
theorem lv117_0 (em mi ic : Nat) : mLive (DD em mi ic) 117 0 = [1, 1, 0] := rfl
theorem sg117_1 (em mi ic : Nat) : mSeg (DD em mi ic) 117 1 = g117_1 := rfl
theorem lv117_1 (em mi ic : Nat) : mLive (DD em mi ic) 117 1 = [0, 0, 0] := rfl
theorem bc_117 (em mi ic : Nat) : mBc (DD em mi ic) 117 = 0 := rfl
theorem bs_117 (em mi ic : Nat) : mBs (DD em mi ic) 117 = 0 := rfl
theorem rt_117 (em mi ic : Nat) : mRet (DD em mi ic) 117 = none := rfl
theorem ml_117 (em mi ic : Nat) : mMaxL (DD em mi ic) 117 = 3 := rfl
theorem sg118_0 (em mi ic : Nat) : mSeg (DD em mi ic) 118 0 = g118_0 := rfl
theorem lv118_0 (em mi ic : Nat) : mLive (DD em mi ic) 118 0 = [1] := rfl
theorem sg118_1 (em mi ic : Nat) : mSeg (DD em mi ic) 118 1 = g118_1 := rfl
theorem lv118_1 (em mi ic : Nat) : mLive (DD em mi ic) 118 1 = [0] := rfl
theorem sg118_2 (em mi ic : Nat) : mSeg (DD em mi ic) 118 2 = g118_2 := rfl
theorem lv118_2 (em mi ic : Nat) : mLive (DD em mi ic) 118 2 = [0] := rfl
theorem bc_118 (em mi ic : Nat) : mBc (DD em mi ic) 118 = 0 := rfl
theorem bs_118 (em mi ic : Nat) : mBs (DD em mi ic) 118 = 0 := rfl
theorem rt_118 (em mi ic : Nat) : mRet (DD em mi ic) 118 = some .boolean := rfl
theorem ml_118 (em mi ic : Nat) : mMaxL (DD em mi ic) 118 = 1 := rfl
theorem sg119_0 (em mi ic : Nat) : mSeg (DD em mi ic) 119 0 = g119_0 := rfl
theorem lv119_0 (em mi ic : Nat) : mLive (DD em mi ic) 119 0 = [1] := rfl
theorem sg119_1 (em mi ic : Nat) : mSeg (DD em mi ic) 119 1 = g119_1 := rfl
theorem lv119_1 (em mi ic : Nat) : mLive (DD em mi ic) 119 1 = [0] := rfl
theorem sg119_2 (em mi ic : Nat) : mSeg (DD em mi ic) 119 2 = g119_2 := rfl
theorem lv119_2 (em mi ic : Nat) : mLive (DD em mi ic) 119 2 = [0] := rfl
theorem bc_119 (em mi ic : Nat) : mBc (DD em mi ic) 119 = 0 := rfl
theorem bs_119 (em mi ic : Nat) : mBs (DD em mi ic) 119 = 0 := rfl
theorem rt_119 (em mi ic : Nat) : mRet (DD em mi ic) 119 = some .boolean := rfl
theorem ml_119 (em mi ic : Nat) : mMaxL (DD em mi ic) 119 = 1 := rfl
theorem sg120_0 (em mi ic : Nat) : mSeg (DD em mi ic) 120 0 = g120_0 := rfl
theorem lv120_0 (em mi ic : Nat) : mLive (DD em mi ic) 120 0 = [1, 1, 0, 0, 0] := rfl
theorem sg120_1 (em mi ic : Nat) : mSeg (DD em mi ic) 120 1 = g120_1 := rfl
theorem lv120_1 (em mi ic : Nat) : mLive (DD em mi ic) 120 1 = [1, 1, 0, 1, 1] := rfl
theorem sg120_2 (em mi ic : Nat) : mSeg (DD em mi ic) 120 2 = g120_2 := rfl
theorem lv120_2 (em mi ic : Nat) : mLive (DD em mi ic) 120 2 = [1, 0, 0, 1, 1] := rfl
theorem sg120_3 (em mi ic : Nat) : mSeg (DD em mi ic) 120 3 = g120_3 := rfl
theorem lv120_3 (em mi ic : Nat) : mLive (DD em mi ic) 120 3 = [0, 0, 0, 0, 0] := rfl
theorem bc_120 (em mi ic : Nat) : mBc (DD em mi ic) 120 = 1 := rfl
theorem bs_120 (em mi ic : Nat) : mBs (DD em mi ic) 120 = 16 := rfl
theorem rt_120 (em mi ic : Nat) : mRet (DD em mi ic) 120 = none := rfl
theorem ml_120 (em mi ic : Nat) : mMaxL (DD em mi ic) 120 = 5 := rfl
theorem sg121_0 (em mi ic : Nat) : mSeg (DD em mi ic) 121 0 = g121_0 := rfl
theorem lv121_0 (em mi ic : Nat) : mLive (DD em mi ic) 121 0 = [1, 1] := rfl
theorem sg121_1 (em mi ic : Nat) : mSeg (DD em mi ic) 121 1 = g121_1 := rfl
theorem lv121_1 (em mi ic : Nat) : mLive (DD em mi ic) 121 1 = [1, 1] := rfl
theorem sg121_2 (em mi ic : Nat) : mSeg (DD em mi ic) 121 2 = g121_2 := rfl
theorem lv121_2 (em mi ic : Nat) : mLive (DD em mi ic) 121 2 = [0, 0] := rfl
theorem sg121_3 (em mi ic : Nat) : mSeg (DD em mi ic) 121 3 = g121_3 := rfl
theorem lv121_3 (em mi ic : Nat) : mLive (DD em mi ic) 121 3 = [1, 1] := rfl
theorem sg121_4 (em mi ic : Nat) : mSeg (DD em mi ic) 121 4 = g121_4 := rfl
theorem lv121_4 (em mi ic : Nat) : mLive (DD em mi ic) 121 4 = [0, 0] := rfl
theorem sg121_5 (em mi ic : Nat) : mSeg (DD em mi ic) 121 5 = g121_5 := rfl
theorem lv121_5 (em mi ic : Nat) : mLive (DD em mi ic) 121 5 = [0, 0] := rfl
theorem bc_121 (em mi ic : Nat) : mBc (DD em mi ic) 121 = 0 := rfl
theorem bs_121 (em mi ic : Nat) : mBs (DD em mi ic) 121 = 0 := rfl
theorem rt_121 (em mi ic : Nat) : mRet (DD em mi ic) 121 = some .boolean := rfl
theorem ml_121 (em mi ic : Nat) : mMaxL (DD em mi ic) 121 = 2 := rfl
theorem sg122_0 (em mi ic : Nat) : mSeg (DD em mi ic) 122 0 = g122_0 := rfl
theorem lv122_0 (em mi ic : Nat) : mLive (DD em mi ic) 122 0 = [1, 1, 0, 0] := rfl
theorem sg122_1 (em mi ic : Nat) : mSeg (DD em mi ic) 122 1 = g122_1 := rfl
theorem lv122_1 (em mi ic : Nat) : mLive (DD em mi ic) 122 1 = [1, 1, 1, 0] := rfl
theorem sg122_2 (em mi ic : Nat) : mSeg (DD em mi ic) 122 2 = g122_2 := rfl
theorem lv122_2 (em mi ic : Nat) : mLive (DD em mi ic) 122 2 = [1, 1, 0, 0] := rfl
theorem bc_122 (em mi ic : Nat) : mBc (DD em mi ic) 122 = 1 := rfl
theorem bs_122 (em mi ic : Nat) : mBs (DD em mi ic) 122 = 15 := rfl
theorem rt_122 (em mi ic : Nat) : mRet (DD em mi ic) 122 = some (.array (.object "java/lang/Object")) := rfl
theorem ml_122 (em mi ic : Nat) : mMaxL (DD em mi ic) 122 = 4 := rfl
theorem sg123_0 (em mi ic : Nat) : mSeg (DD em mi ic) 123 0 = g123_0 := rfl
theorem lv123_0 (em mi ic : Nat) : mLive (DD em mi ic) 123 0 = [1, 1, 1] := rfl
theorem sg123_1 (em mi ic : Nat) : mSeg (DD em mi ic) 123 1 = g123_1 := rfl
theorem lv123_1 (em mi ic : Nat) : mLive (DD em mi ic) 123 1 = [0, 0, 0] := rfl
theorem sg123_2 (em mi ic : Nat) : mSeg (DD em mi ic) 123 2 = g123_2 := rfl
theorem lv123_2 (em mi ic : Nat) : mLive (DD em mi ic) 123 2 = [0, 0, 0] := rfl
theorem bc_123 (em mi ic : Nat) : mBc (DD em mi ic) 123 = 0 := rfl
theorem bs_123 (em mi ic : Nat) : mBs (DD em mi ic) 123 = 0 := rfl
theorem rt_123 (em mi ic : Nat) : mRet (DD em mi ic) 123 = some .boolean := rfl
theorem ml_123 (em mi ic : Nat) : mMaxL (DD em mi ic) 123 = 3 := rfl
theorem sg124_0 (em mi ic : Nat) : mSeg (DD em mi ic) 124 0 = g124_0 := rfl
theorem lv124_0 (em mi ic : Nat) : mLive (DD em mi ic) 124 0 = [1, 1, 0, 0, 0] := rfl
theorem sg124_1 (em mi ic : Nat) : mSeg (DD em mi ic) 124 1 = g124_1 := rfl
theorem lv124_1 (em mi ic : Nat) : mLive (DD em mi ic) 124 1 = [1, 1, 1, 1, 0] := rfl
theorem sg124_2 (em mi ic : Nat) : mSeg (DD em mi ic) 124 2 = g124_2 := rfl
theorem lv124_2 (em mi ic : Nat) : mLive (DD em mi ic) 124 2 = [1, 1, 0, 1, 1] := rfl
theorem sg124_3 (em mi ic : Nat) : mSeg (DD em mi ic) 124 3 = g124_3 := rfl
theorem lv124_3 (em mi ic : Nat) : mLive (DD em mi ic) 124 3 = [1, 1, 1, 1, 0] := rfl
theorem sg124_4 (em mi ic : Nat) : mSeg (DD em mi ic) 124 4 = g124_4 := rfl
theorem lv124_4 (em mi ic : Nat) : mLive (DD em mi ic) 124 4 = [0, 0, 1, 0, 0] := rfl
theorem bc_124 (em mi ic : Nat) : mBc (DD em mi ic) 124 = 0 := rfl
theorem bs_124 (em mi ic : Nat) : mBs (DD em mi ic) 124 = 0 := rfl
theorem rt_124 (em mi ic : Nat) : mRet (DD em mi ic) 124 = some (.object "Twelvehundred$Household") := rfl
theorem ml_124 (em mi ic : Nat) : mMaxL (DD em mi ic) 124 = 5 := rfl
theorem sg125_0 (em mi ic : Nat) : mSeg (DD em mi ic) 125 0 = g125_0 := rfl
theorem lv125_0 (em mi ic : Nat) : mLive (DD em mi ic) 125 0 = [1] := rfl
theorem bc_125 (em mi ic : Nat) : mBc (DD em mi ic) 125 = 0 := rfl
theorem bs_125 (em mi ic : Nat) : mBs (DD em mi ic) 125 = 0 := rfl
theorem rt_125 (em mi ic : Nat) : mRet (DD em mi ic) 125 = some (.array .byte) := rfl
theorem ml_125 (em mi ic : Nat) : mMaxL (DD em mi ic) 125 = 1 := rfl
theorem sg126_0 (em mi ic : Nat) : mSeg (DD em mi ic) 126 0 = g126_0 := rfl
theorem lv126_0 (em mi ic : Nat) : mLive (DD em mi ic) 126 0 = [1] := rfl
theorem bc_126 (em mi ic : Nat) : mBc (DD em mi ic) 126 = 0 := rfl
theorem bs_126 (em mi ic : Nat) : mBs (DD em mi ic) 126 = 0 := rfl
theorem rt_126 (em mi ic : Nat) : mRet (DD em mi ic) 126 = some .int := rfl
theorem ml_126 (em mi ic : Nat) : mMaxL (DD em mi ic) 126 = 1 := rfl
theorem sg127_0 (em mi ic : Nat) : mSeg (DD em mi ic) 127 0 = g127_0 := rfl
theorem lv127_0 (em mi ic : Nat) : mLive (DD em mi ic) 127 0 = [1, 1, 1] := rfl
theorem sg127_1 (em mi ic : Nat) : mSeg (DD em mi ic) 127 1 = g127_1 := rfl
theorem lv127_1 (em mi ic : Nat) : mLive (DD em mi ic) 127 1 = [1, 1, 1] := rfl
theorem sg127_2 (em mi ic : Nat) : mSeg (DD em mi ic) 127 2 = g127_2 := rfl
theorem lv127_2 (em mi ic : Nat) : mLive (DD em mi ic) 127 2 = [1, 0, 0] := rfl
theorem bc_127 (em mi ic : Nat) : mBc (DD em mi ic) 127 = 1 := rfl
theorem bs_127 (em mi ic : Nat) : mBs (DD em mi ic) 127 = 16 := rfl
theorem rt_127 (em mi ic : Nat) : mRet (DD em mi ic) 127 = some (.array .byte) := rfl
theorem ml_127 (em mi ic : Nat) : mMaxL (DD em mi ic) 127 = 3 := rfl
theorem sg128_0 (em mi ic : Nat) : mSeg (DD em mi ic) 128 0 = g128_0 := rfl
theorem lv128_0 (em mi ic : Nat) : mLive (DD em mi ic) 128 0 = [1, 1, 1, 0] := rfl
theorem sg128_1 (em mi ic : Nat) : mSeg (DD em mi ic) 128 1 = g128_1 := rfl
theorem lv128_1 (em mi ic : Nat) : mLive (DD em mi ic) 128 1 = [1, 1, 0, 0] := rfl
theorem bc_128 (em mi ic : Nat) : mBc (DD em mi ic) 128 = 0 := rfl
theorem bs_128 (em mi ic : Nat) : mBs (DD em mi ic) 128 = 0 := rfl
theorem rt_128 (em mi ic : Nat) : mRet (DD em mi ic) 128 = some .int := rfl
theorem ml_128 (em mi ic : Nat) : mMaxL (DD em mi ic) 128 = 4 := rfl
theorem sg129_0 (em mi ic : Nat) : mSeg (DD em mi ic) 129 0 = g129_0 := rfl
theorem lv129_0 (em mi ic : Nat) : mLive (DD em mi ic) 129 0 = [1, 1] := rfl
theorem bc_129 (em mi ic : Nat) : mBc (DD em mi ic) 129 = 1 := rfl
theorem bs_129 (em mi ic : Nat) : mBs (DD em mi ic) 129 = 15 := rfl
theorem rt_129 (em mi ic : Nat) : mRet (DD em mi ic) 129 = some (.array (.object "java/lang/Object")) := rfl
theorem ml_129 (em mi ic : Nat) : mMaxL (DD em mi ic) 129 = 2 := rfl
theorem sg130_0 (em mi ic : Nat) : mSeg (DD em mi ic) 130 0 = g130_0 := rfl
theorem lv130_0 (em mi ic : Nat) : mLive (DD em mi ic) 130 0 = [1] := rfl
theorem bc_130 (em mi ic : Nat) : mBc (DD em mi ic) 130 = 0 := rfl
theorem bs_130 (em mi ic : Nat) : mBs (DD em mi ic) 130 = 0 := rfl
theorem rt_130 (em mi ic : Nat) : mRet (DD em mi ic) 130 = some .int := rfl
theorem ml_130 (em mi ic : Nat) : mMaxL (DD em mi ic) 130 = 1 := rfl
theorem sg131_0 (em mi ic : Nat) : mSeg (DD em mi ic) 131 0 = g131_0 := rfl
theorem lv131_0 (em mi ic : Nat) : mLive (DD em mi ic) 131 0 = [1, 1, 1, 0, 0] := rfl
theorem bc_131 (em mi ic : Nat) : mBc (DD em mi ic) 131 = 1 := rfl
theorem bs_131 (em mi ic : Nat) : mBs (DD em mi ic) 131 = 16 := rfl
theorem rt_131 (em mi ic : Nat) : mRet (DD em mi ic) 131 = some (.array .byte) := rfl
theorem ml_131 (em mi ic : Nat) : mMaxL (DD em mi ic) 131 = 5 := rfl
theorem sg132_0 (em mi ic : Nat) : mSeg (DD em mi ic) 132 0 = g132_0 := rfl
theorem lv132_0 (em mi ic : Nat) : mLive (DD em mi ic) 132 0 = [1, 1, 1, 0] := rfl
theorem sg132_1 (em mi ic : Nat) : mSeg (DD em mi ic) 132 1 = g132_1 := rfl
theorem lv132_1 (em mi ic : Nat) : mLive (DD em mi ic) 132 1 = [0, 0, 1, 0] := rfl
theorem sg132_2 (em mi ic : Nat) : mSeg (DD em mi ic) 132 2 = g132_2 := rfl
theorem lv132_2 (em mi ic : Nat) : mLive (DD em mi ic) 132 2 = [1, 1, 0, 0] := rfl
theorem bc_132 (em mi ic : Nat) : mBc (DD em mi ic) 132 = 1 := rfl
theorem bs_132 (em mi ic : Nat) : mBs (DD em mi ic) 132 = 15 := rfl
theorem rt_132 (em mi ic : Nat) : mRet (DD em mi ic) 132 = some (.array (.object "java/lang/Object")) := rfl
theorem ml_132 (em mi ic : Nat) : mMaxL (DD em mi ic) 132 = 4 := rfl
theorem sg133_0 (em mi ic : Nat) : mSeg (DD em mi ic) 133 0 = g133_0 := rfl
theorem lv133_0 (em mi ic : Nat) : mLive (DD em mi ic) 133 0 = [1, 1] := rfl
theorem sg133_1 (em mi ic : Nat) : mSeg (DD em mi ic) 133 1 = g133_1 := rfl
theorem lv133_1 (em mi ic : Nat) : mLive (DD em mi ic) 133 1 = [0, 0] := rfl
theorem bc_133 (em mi ic : Nat) : mBc (DD em mi ic) 133 = 0 := rfl
theorem bs_133 (em mi ic : Nat) : mBs (DD em mi ic) 133 = 0 := rfl
theorem rt_133 (em mi ic : Nat) : mRet (DD em mi ic) 133 = none := rfl
theorem ml_133 (em mi ic : Nat) : mMaxL (DD em mi ic) 133 = 2 := rfl
theorem df_0_0 (em mi ic : Nat) : (DD em mi ic).2.1 0 0 = .array .byte := rfl
theorem df_0_1 (em mi ic : Nat) : (DD em mi ic).2.1 0 1 = .byte := rfl
theorem df_1_0 (em mi ic : Nat) : (DD em mi ic).2.1 1 0 = .array .byte := rfl
theorem df_1_1 (em mi ic : Nat) : (DD em mi ic).2.1 1 1 = .byte := rfl
theorem df_1_3 (em mi ic : Nat) : (DD em mi ic).2.1 1 3 = .int := rfl
theorem df_2_0 (em mi ic : Nat) : (DD em mi ic).2.1 2 0 = .int := rfl
theorem df_2_1 (em mi ic : Nat) : (DD em mi ic).2.1 2 1 = .array (.object "java/lang/Object") := rfl
theorem df_2_2 (em mi ic : Nat) : (DD em mi ic).2.1 2 2 = .int := rfl
theorem df_3_0 (em mi ic : Nat) : (DD em mi ic).2.1 3 0 = .object "java/util/ArrayList" := rfl
theorem df_3_1 (em mi ic : Nat) : (DD em mi ic).2.1 3 1 = .object "java/util/ArrayList" := rfl
theorem df_3_2 (em mi ic : Nat) : (DD em mi ic).2.1 3 2 = .object "Twelvehundred$Placing" := rfl
theorem df_3_3 (em mi ic : Nat) : (DD em mi ic).2.1 3 3 = .array .int := rfl
theorem df_3_4 (em mi ic : Nat) : (DD em mi ic).2.1 3 4 = .int := rfl
theorem df_4_0 (em mi ic : Nat) : (DD em mi ic).2.1 4 0 = .object "java/util/ArrayList" := rfl
theorem df_4_1 (em mi ic : Nat) : (DD em mi ic).2.1 4 1 = .int := rfl
theorem df_5_0 (em mi ic : Nat) : (DD em mi ic).2.1 5 0 = .int := rfl
theorem df_5_1 (em mi ic : Nat) : (DD em mi ic).2.1 5 1 = .int := rfl
theorem df_5_2 (em mi ic : Nat) : (DD em mi ic).2.1 5 2 = .int := rfl
theorem df_6_0 (em mi ic : Nat) : (DD em mi ic).2.1 6 0 = .int := rfl
theorem df_6_1 (em mi ic : Nat) : (DD em mi ic).2.1 6 1 = .object "Twelvehundred$Street" := rfl
theorem df_6_2 (em mi ic : Nat) : (DD em mi ic).2.1 6 2 = .int := rfl
theorem df_6_3 (em mi ic : Nat) : (DD em mi ic).2.1 6 3 = .boolean := rfl
theorem df_6_4 (em mi ic : Nat) : (DD em mi ic).2.1 6 4 = .int := rfl
theorem df_7_0 (em mi ic : Nat) : (DD em mi ic).2.1 7 0 = .object "java/util/ArrayList" := rfl
theorem df_7_1 (em mi ic : Nat) : (DD em mi ic).2.1 7 1 = .int := rfl
theorem df_7_2 (em mi ic : Nat) : (DD em mi ic).2.1 7 2 = .int := rfl
theorem df_7_3 (em mi ic : Nat) : (DD em mi ic).2.1 7 3 = .int := rfl
theorem df_8_0 (em mi ic : Nat) : (DD em mi ic).2.1 8 0 = .int := rfl
theorem df_8_1 (em mi ic : Nat) : (DD em mi ic).2.1 8 1 = .boolean := rfl
theorem df_8_2 (em mi ic : Nat) : (DD em mi ic).2.1 8 2 = .int := rfl
theorem df_9_0 (em mi ic : Nat) : (DD em mi ic).2.1 9 0 = .int := rfl
theorem df_9_1 (em mi ic : Nat) : (DD em mi ic).2.1 9 1 = .int := rfl
theorem df_9_2 (em mi ic : Nat) : (DD em mi ic).2.1 9 2 = .int := rfl
theorem df_10_0 (em mi ic : Nat) : (DD em mi ic).2.1 10 0 = .object "java/util/ArrayList" := rfl
theorem df_10_1 (em mi ic : Nat) : (DD em mi ic).2.1 10 1 = .object "java/util/ArrayList" := rfl
theorem df_10_2 (em mi ic : Nat) : (DD em mi ic).2.1 10 2 = .array (.object "Twelvehundred$Hall") := rfl
theorem df_11_0 (em mi ic : Nat) : (DD em mi ic).2.1 11 0 = .object "Twelvehundred$River" := rfl
theorem df_11_1 (em mi ic : Nat) : (DD em mi ic).2.1 11 1 = .object "java/util/ArrayList" := rfl
theorem df_11_2 (em mi ic : Nat) : (DD em mi ic).2.1 11 2 = .int := rfl
theorem df_11_3 (em mi ic : Nat) : (DD em mi ic).2.1 11 3 = .int := rfl
theorem df_12_0 (em mi ic : Nat) : (DD em mi ic).2.1 12 0 = .int := rfl
theorem df_12_1 (em mi ic : Nat) : (DD em mi ic).2.1 12 1 = .int := rfl
theorem df_12_2 (em mi ic : Nat) : (DD em mi ic).2.1 12 2 = .int := rfl
theorem df_13_0 (em mi ic : Nat) : (DD em mi ic).2.1 13 0 = .int := rfl
theorem df_13_1 (em mi ic : Nat) : (DD em mi ic).2.1 13 1 = .int := rfl
theorem df_13_2 (em mi ic : Nat) : (DD em mi ic).2.1 13 2 = .int := rfl
theorem df_14_0 (em mi ic : Nat) : (DD em mi ic).2.1 14 0 = .object "Twelvehundred$River" := rfl
theorem df_14_1 (em mi ic : Nat) : (DD em mi ic).2.1 14 1 = .object "java/util/ArrayList" := rfl
theorem df_14_2 (em mi ic : Nat) : (DD em mi ic).2.1 14 2 = .object "java/util/ArrayList" := rfl
theorem df_14_3 (em mi ic : Nat) : (DD em mi ic).2.1 14 3 = .object "java/util/ArrayList" := rfl
theorem df_14_4 (em mi ic : Nat) : (DD em mi ic).2.1 14 4 = .object "Twelvehundred$Rescue" := rfl
theorem df_14_5 (em mi ic : Nat) : (DD em mi ic).2.1 14 5 = .object "Twelvehundred$Placing" := rfl
theorem df_14_6 (em mi ic : Nat) : (DD em mi ic).2.1 14 6 = .object "Twelvehundred$Asking" := rfl
theorem df_14_7 (em mi ic : Nat) : (DD em mi ic).2.1 14 7 = .object "Twelvehundred$Placing" := rfl
theorem df_14_8 (em mi ic : Nat) : (DD em mi ic).2.1 14 8 = .object "Twelvehundred$Larder" := rfl
theorem df_14_9 (em mi ic : Nat) : (DD em mi ic).2.1 14 9 = .object "Twelvehundred$Bulletin" := rfl
theorem dd_0 (em mi ic : Nat) : (DD em mi ic).2.2.1 0 = [.null, .int 0, .int 0, .int 0] := rfl
theorem dd_1 (em mi ic : Nat) : (DD em mi ic).2.2.1 1 = [.null, .int 0, .int 0, .int 0] := rfl
theorem dd_2 (em mi ic : Nat) : (DD em mi ic).2.2.1 2 = [.int 0, .null, .int 0] := rfl
theorem dd_3 (em mi ic : Nat) : (DD em mi ic).2.2.1 3 = [.null, .null, .null, .null, .int 0] := rfl
theorem dd_4 (em mi ic : Nat) : (DD em mi ic).2.2.1 4 = [.null, .int 0] := rfl
theorem dd_5 (em mi ic : Nat) : (DD em mi ic).2.2.1 5 = [.int 0, .int 0, .int 0] := rfl
theorem dd_6 (em mi ic : Nat) : (DD em mi ic).2.2.1 6 = [.int 0, .null, .int 0, .int 0, .int 0] := rfl
theorem dd_7 (em mi ic : Nat) : (DD em mi ic).2.2.1 7 = [.null, .int 0, .int 0, .int 0] := rfl
theorem dd_8 (em mi ic : Nat) : (DD em mi ic).2.2.1 8 = [.int 0, .int 0, .int 0] := rfl
theorem dd_9 (em mi ic : Nat) : (DD em mi ic).2.2.1 9 = [.int 0, .int 0, .int 0] := rfl
theorem dd_10 (em mi ic : Nat) : (DD em mi ic).2.2.1 10 = [.null, .null, .null] := rfl
theorem dd_11 (em mi ic : Nat) : (DD em mi ic).2.2.1 11 = [.null, .null, .int 0, .int 0] := rfl
theorem dd_12 (em mi ic : Nat) : (DD em mi ic).2.2.1 12 = [.int 0, .int 0, .int 0] := rfl
theorem dd_13 (em mi ic : Nat) : (DD em mi ic).2.2.1 13 = [.int 0, .int 0, .int 0] := rfl
theorem dd_14 (em mi ic : Nat) : (DD em mi ic).2.2.1 14 = [.null, .null, .null, .null, .null, .null, .null, .null, .null, .null] := rfl
theorem st_0 (em mi ic : Nat) : (DD em mi ic).2.2.2.2.2.2 0 = .ref em := rfl
theorem st_1 (em mi ic : Nat) : (DD em mi ic).2.2.2.2.2.2 1 = .int 1 := rfl
theorem st_2 (em mi ic : Nat) : (DD em mi ic).2.2.2.2.2.2 2 = .int 127 := rfl
theorem st_3 (em mi ic : Nat) : (DD em mi ic).2.2.2.2.2.2 3 = .ref ic := rfl
theorem st_100 (em mi ic : Nat) : (DD em mi ic).2.2.2.2.2.2 100 = .ref mi := rfl
