set_option maxRecDepth 20000 in
theorem tw_0 : Jvm.Cond.selects "Twelvehundred" (⟨"Twelvehundred", "signOf", "(LTwelvehundred$Household;)C"⟩ : MethodName) (⟨"Twelvehundred", "signOf", "(LTwelvehundred$Household;)C"⟩ : MethodName) ∈ Tgl := inT_0 0 (by decide +kernel) (by decide +kernel)
set_option maxRecDepth 20000 in
theorem tw_1 : Jvm.Cond.selects "java/lang/Throwable" (⟨"java/lang/Throwable", "fillInStackTrace", "(I)Ljava/lang/Throwable;"⟩ : MethodName) (⟨"java/lang/Throwable", "fillInStackTrace", "(I)Ljava/lang/Throwable;"⟩ : MethodName) ∈ Tgl := inT_0 1 (by decide +kernel) (by decide +kernel)
set_option maxRecDepth 20000 in
theorem tw_2 : Jvm.Cond.selects "Twelvehundred$Rescue" (⟨"Twelvehundred$Rescue", "canReachAsLateAs", "(LTwelvehundred$Household;I)Z"⟩ : MethodName) (⟨"Twelvehundred$Rescue", "canReachAsLateAs", "(LTwelvehundred$Household;I)Z"⟩ : MethodName) ∈ Tgl := inT_0 2 (by decide +kernel) (by decide +kernel)
set_option maxRecDepth 20000 in
theorem tw_3 : Jvm.Cond.selects "Twelvehundred$Placing" (⟨"Twelvehundred$Placing", "hasEnvyUpTo", "(I)Z"⟩ : MethodName) (⟨"Twelvehundred$Placing", "hasEnvyUpTo", "(I)Z"⟩ : MethodName) ∈ Tgl := inT_0 3 (by decide +kernel) (by decide +kernel)
set_option maxRecDepth 20000 in
theorem tw_4 : Jvm.Cond.selects "Twelvehundred$Placing" (⟨"Twelvehundred$Placing", "couldOust", "(LTwelvehundred$Household;LTwelvehundred$Household;)Z"⟩ : MethodName) (⟨"Twelvehundred$Placing", "couldOust", "(LTwelvehundred$Household;LTwelvehundred$Household;)Z"⟩ : MethodName) ∈ Tgl := inT_0 4 (by decide +kernel) (by decide +kernel)
set_option maxRecDepth 20000 in
theorem tw_5 : Jvm.Cond.selects "Twelvehundred$Placing" (⟨"Twelvehundred$Placing", "wantsEmptyRoom", "(LTwelvehundred$Household;)Z"⟩ : MethodName) (⟨"Twelvehundred$Placing", "wantsEmptyRoom", "(LTwelvehundred$Household;)Z"⟩ : MethodName) ∈ Tgl := inT_0 5 (by decide +kernel) (by decide +kernel)
set_option maxRecDepth 20000 in
theorem tw_6 : Jvm.Cond.selects "Twelvehundred$Placing" (⟨"Twelvehundred$Placing", "isBetterForAny", "(LTwelvehundred$Placing;)Z"⟩ : MethodName) (⟨"Twelvehundred$Placing", "isBetterForAny", "(LTwelvehundred$Placing;)Z"⟩ : MethodName) ∈ Tgl := inT_0 6 (by decide +kernel) (by decide +kernel)
set_option maxRecDepth 20000 in
theorem tw_7 : Jvm.Cond.selects "Twelvehundred$Bulletin" (⟨"Twelvehundred$Bulletin", "join", "(II)V"⟩ : MethodName) (⟨"Twelvehundred$Bulletin", "join", "(II)V"⟩ : MethodName) ∈ Tgl := inT_0 7 (by decide +kernel) (by decide +kernel)
set_option maxRecDepth 20000 in
theorem tw_8 : Jvm.Cond.selects "java/util/ArrayList" (⟨"java/util/ArrayList", "add", "(Ljava/lang/Object;[Ljava/lang/Object;I)V"⟩ : MethodName) (⟨"java/util/ArrayList", "add", "(Ljava/lang/Object;[Ljava/lang/Object;I)V"⟩ : MethodName) ∈ Tgl := inT_0 8 (by decide +kernel) (by decide +kernel)
set_option maxRecDepth 20000 in
theorem tw_9 : Jvm.Cond.selects "java/util/ArrayList" (⟨"java/util/ArrayList", "grow", "()[Ljava/lang/Object;"⟩ : MethodName) (⟨"java/util/ArrayList", "grow", "()[Ljava/lang/Object;"⟩ : MethodName) ∈ Tgl := inT_0 9 (by decide +kernel) (by decide +kernel)
set_option maxRecDepth 20000 in
theorem tw_10 : Jvm.Cond.selects "java/util/ArrayList" (⟨"java/util/ArrayList", "grow", "(I)[Ljava/lang/Object;"⟩ : MethodName) (⟨"java/util/ArrayList", "grow", "(I)[Ljava/lang/Object;"⟩ : MethodName) ∈ Tgl := inT_0 10 (by decide +kernel) (by decide +kernel)
set_option maxRecDepth 20000 in
theorem tw_11 : Jvm.Cond.selects "Twelvehundred$Asking" (⟨"Twelvehundred$Asking", "askNext", "()V"⟩ : MethodName) (⟨"Twelvehundred$Asking", "askNext", "()V"⟩ : MethodName) ∈ Tgl := inT_0 11 (by decide +kernel) (by decide +kernel)
set_option maxRecDepth 20000 in
theorem tw_12 : Jvm.Cond.selects "Twelvehundred$Asking" (⟨"Twelvehundred$Asking", "favouriteNotAsked", "(LTwelvehundred$Household;)LTwelvehundred$Hall;"⟩ : MethodName) (⟨"Twelvehundred$Asking", "favouriteNotAsked", "(LTwelvehundred$Household;)LTwelvehundred$Hall;"⟩ : MethodName) ∈ Tgl := inT_0 12 (by decide +kernel) (by decide +kernel)
set_option maxRecDepth 20000 in
theorem tw_13 : Jvm.Cond.selects "Twelvehundred$Asking" (⟨"Twelvehundred$Asking", "hasAsked", "(LTwelvehundred$Household;LTwelvehundred$Hall;)Z"⟩ : MethodName) (⟨"Twelvehundred$Asking", "hasAsked", "(LTwelvehundred$Household;LTwelvehundred$Hall;)Z"⟩ : MethodName) ∈ Tgl := inT_0 13 (by decide +kernel) (by decide +kernel)
set_option maxRecDepth 20000 in
theorem tw_14 : Jvm.Cond.selects "Twelvehundred$Asking" (⟨"Twelvehundred$Asking", "ask", "(LTwelvehundred$Household;LTwelvehundred$Hall;)V"⟩ : MethodName) (⟨"Twelvehundred$Asking", "ask", "(LTwelvehundred$Household;LTwelvehundred$Hall;)V"⟩ : MethodName) ∈ Tgl := inT_0 14 (by decide +kernel) (by decide +kernel)
set_option maxRecDepth 20000 in
theorem tw_15 : Jvm.Cond.selects "Twelvehundred$Larder" (⟨"Twelvehundred$Larder", "nextToSpoil", "()LTwelvehundred$Lot;"⟩ : MethodName) (⟨"Twelvehundred$Larder", "nextToSpoil", "()LTwelvehundred$Lot;"⟩ : MethodName) ∈ Tgl := inT_0 15 (by decide +kernel) (by decide +kernel)
set_option maxRecDepth 20000 in
theorem tw_16 : Jvm.Cond.selects "TwelvehundredModel" (⟨"TwelvehundredModel", "refuse", "(I)I"⟩ : MethodName) (⟨"TwelvehundredModel", "refuse", "(I)I"⟩ : MethodName) ∈ Tgl := inT_0 16 (by decide +kernel) (by decide +kernel)
set_option maxRecDepth 20000 in
theorem tw_17 : Jvm.Cond.selects "TwelvehundredModel" (⟨"TwelvehundredModel", "isHall", "(I)Z"⟩ : MethodName) (⟨"TwelvehundredModel", "isHall", "(I)Z"⟩ : MethodName) ∈ Tgl := inT_0 17 (by decide +kernel) (by decide +kernel)
set_option maxRecDepth 20000 in
theorem tw_18 : Jvm.Cond.selects "TwelvehundredModel" (⟨"TwelvehundredModel", "isStreet", "(I)Z"⟩ : MethodName) (⟨"TwelvehundredModel", "isStreet", "(I)Z"⟩ : MethodName) ∈ Tgl := inT_0 18 (by decide +kernel) (by decide +kernel)
set_option maxRecDepth 20000 in
theorem tw_19 : Jvm.Cond.selects "TwelvehundredModel" (⟨"TwelvehundredModel", "isFlooded", "(I)Z"⟩ : MethodName) (⟨"TwelvehundredModel", "isFlooded", "(I)Z"⟩ : MethodName) ∈ Tgl := inT_0 19 (by decide +kernel) (by decide +kernel)
set_option maxRecDepth 20000 in
theorem tw_20 : Jvm.Cond.selects "TwelvehundredModel" (⟨"TwelvehundredModel", "isHousehold", "(I)Z"⟩ : MethodName) (⟨"TwelvehundredModel", "isHousehold", "(I)Z"⟩ : MethodName) ∈ Tgl := inT_0 20 (by decide +kernel) (by decide +kernel)
set_option maxRecDepth 20000 in
theorem tw_21 : Jvm.Cond.selects "TwelvehundredModel" (⟨"TwelvehundredModel", "hourGoes", "()I"⟩ : MethodName) (⟨"TwelvehundredModel", "hourGoes", "()I"⟩ : MethodName) ∈ Tgl := inT_0 21 (by decide +kernel) (by decide +kernel)
set_option maxRecDepth 20000 in
theorem tw_22 : Jvm.Cond.selects "TwelvehundredModel" (⟨"TwelvehundredModel", "persons", "()I"⟩ : MethodName) (⟨"TwelvehundredModel", "persons", "()I"⟩ : MethodName) ∈ Tgl := inT_0 22 (by decide +kernel) (by decide +kernel)
set_option maxRecDepth 20000 in
theorem tw_23 : Jvm.Cond.selects "TwelvehundredModel" (⟨"TwelvehundredModel", "ofStreetNow", "(II)I"⟩ : MethodName) (⟨"TwelvehundredModel", "ofStreetNow", "(II)I"⟩ : MethodName) ∈ Tgl := inT_0 23 (by decide +kernel) (by decide +kernel)
set_option maxRecDepth 20000 in
theorem tw_24 : Jvm.Cond.selects "TwelvehundredModel" (⟨"TwelvehundredModel", "limit", "(I)I"⟩ : MethodName) (⟨"TwelvehundredModel", "limit", "(I)I"⟩ : MethodName) ∈ Tgl := inT_0 24 (by decide +kernel) (by decide +kernel)
set_option maxRecDepth 20000 in
theorem tw_25 : Jvm.Cond.selects "TwelvehundredModel" (⟨"TwelvehundredModel", "homes", "(II)I"⟩ : MethodName) (⟨"TwelvehundredModel", "homes", "(II)I"⟩ : MethodName) ∈ Tgl := inT_0 25 (by decide +kernel) (by decide +kernel)
set_option maxRecDepth 20000 in
theorem tw_26 : Jvm.Cond.selects "TwelvehundredModel" (⟨"TwelvehundredModel", "ofHouseholdNow", "(II)I"⟩ : MethodName) (⟨"TwelvehundredModel", "ofHouseholdNow", "(II)I"⟩ : MethodName) ∈ Tgl := inT_0 26 (by decide +kernel) (by decide +kernel)
set_option maxRecDepth 20000 in
theorem tw_27 : Jvm.Cond.selects "TwelvehundredModel" (⟨"TwelvehundredModel", "placing", "()[I"⟩ : MethodName) (⟨"TwelvehundredModel", "placing", "()[I"⟩ : MethodName) ∈ Tgl := inT_0 27 (by decide +kernel) (by decide +kernel)
set_option maxRecDepth 20000 in
theorem tw_28 : Jvm.Cond.selects "TwelvehundredModel" (⟨"TwelvehundredModel", "fetchedSet", "()I"⟩ : MethodName) (⟨"TwelvehundredModel", "fetchedSet", "()I"⟩ : MethodName) ∈ Tgl := inT_0 28 (by decide +kernel) (by decide +kernel)
set_option maxRecDepth 20000 in
theorem tw_29 : Jvm.Cond.selects "TwelvehundredModel" (⟨"TwelvehundredModel", "isBetterLiked", "(II)Z"⟩ : MethodName) (⟨"TwelvehundredModel", "isBetterLiked", "(II)Z"⟩ : MethodName) ∈ Tgl := inT_0 29 (by decide +kernel) (by decide +kernel)
set_option maxRecDepth 20000 in
theorem tw_30 : Jvm.Cond.selects "TwelvehundredModel" (⟨"TwelvehundredModel", "ratherHas", "(III)Z"⟩ : MethodName) (⟨"TwelvehundredModel", "ratherHas", "(III)Z"⟩ : MethodName) ∈ Tgl := inT_0 30 (by decide +kernel) (by decide +kernel)
set_option maxRecDepth 20000 in
theorem tw_31 : Jvm.Cond.selects "TwelvehundredModel" (⟨"TwelvehundredModel", "miles", "(II)I"⟩ : MethodName) (⟨"TwelvehundredModel", "miles", "(II)I"⟩ : MethodName) ∈ Tgl := inT_0 31 (by decide +kernel) (by decide +kernel)
set_option maxRecDepth 20000 in
theorem tw_32 : Jvm.Cond.selects "TwelvehundredModel" (⟨"TwelvehundredModel", "chosenSet", "()I"⟩ : MethodName) (⟨"TwelvehundredModel", "chosenSet", "()I"⟩ : MethodName) ∈ Tgl := inT_0 32 (by decide +kernel) (by decide +kernel)
set_option maxRecDepth 20000 in
theorem tw_33 : Jvm.Cond.selects "TwelvehundredModel" (⟨"TwelvehundredModel", "canNow", "(I)Z"⟩ : MethodName) (⟨"TwelvehundredModel", "canNow", "(I)Z"⟩ : MethodName) ∈ Tgl := inT_0 33 (by decide +kernel) (by decide +kernel)
set_option maxRecDepth 20000 in
theorem tw_34 : Jvm.Cond.selects "TwelvehundredModel" (⟨"TwelvehundredModel", "ofHallNow", "(II)I"⟩ : MethodName) (⟨"TwelvehundredModel", "ofHallNow", "(II)I"⟩ : MethodName) ∈ Tgl := inT_0 34 (by decide +kernel) (by decide +kernel)
set_option maxRecDepth 20000 in
theorem tw_35 : Jvm.Cond.selects "TwelvehundredModel" (⟨"TwelvehundredModel", "having", "([II)I"⟩ : MethodName) (⟨"TwelvehundredModel", "having", "([II)I"⟩ : MethodName) ∈ Tgl := inT_0 35 (by decide +kernel) (by decide +kernel)
set_option maxRecDepth 20000 in
theorem tw_36 : Jvm.Cond.selects "TwelvehundredModel" (⟨"TwelvehundredModel", "peopleOf", "(I)I"⟩ : MethodName) (⟨"TwelvehundredModel", "peopleOf", "(I)I"⟩ : MethodName) ∈ Tgl := inT_0 36 (by decide +kernel) (by decide +kernel)
set_option maxRecDepth 20000 in
theorem tw_37 : Jvm.Cond.selects "TwelvehundredModel" (⟨"TwelvehundredModel", "countyNow", "(I)I"⟩ : MethodName) (⟨"TwelvehundredModel", "countyNow", "(I)I"⟩ : MethodName) ∈ Tgl := inT_0 37 (by decide +kernel) (by decide +kernel)
set_option maxRecDepth 20000 in
theorem tw_38 : Jvm.Cond.selects "TwelvehundredModel" (⟨"TwelvehundredModel", "asked", "([I)I"⟩ : MethodName) (⟨"TwelvehundredModel", "asked", "([I)I"⟩ : MethodName) ∈ Tgl := inT_0 38 (by decide +kernel) (by decide +kernel)
set_option maxRecDepth 20000 in
theorem tw_39 : Jvm.Cond.selects "TwelvehundredModel" (⟨"TwelvehundredModel", "mealsLeft", "()I"⟩ : MethodName) (⟨"TwelvehundredModel", "mealsLeft", "()I"⟩ : MethodName) ∈ Tgl := inT_0 39 (by decide +kernel) (by decide +kernel)
set_option maxRecDepth 20000 in
theorem tw_40 : Jvm.Cond.selects "TwelvehundredModel" (⟨"TwelvehundredModel", "signsNow", "()Ljava/lang/String;"⟩ : MethodName) (⟨"TwelvehundredModel", "signsNow", "()Ljava/lang/String;"⟩ : MethodName) ∈ Tgl := inT_0 40 (by decide +kernel) (by decide +kernel)
set_option maxRecDepth 20000 in
theorem tw_41 : Jvm.Cond.selects "TwelvehundredModel" (⟨"TwelvehundredModel", "isStableNow", "([I)Z"⟩ : MethodName) (⟨"TwelvehundredModel", "isStableNow", "([I)Z"⟩ : MethodName) ∈ Tgl := inT_0 41 (by decide +kernel) (by decide +kernel)
set_option maxRecDepth 20000 in
theorem tw_42 : Jvm.Cond.selects "TwelvehundredModel" (⟨"TwelvehundredModel", "wouldNow", "(II)I"⟩ : MethodName) (⟨"TwelvehundredModel", "wouldNow", "(II)I"⟩ : MethodName) ∈ Tgl := inT_0 42 (by decide +kernel) (by decide +kernel)
set_option maxRecDepth 20000 in
theorem tw_43 : Jvm.Cond.selects "TwelvehundredModel" (⟨"TwelvehundredModel", "isSoundNow", "()Z"⟩ : MethodName) (⟨"TwelvehundredModel", "isSoundNow", "()Z"⟩ : MethodName) ∈ Tgl := inT_0 43 (by decide +kernel) (by decide +kernel)
set_option maxRecDepth 20000 in
theorem tw_44 : Jvm.Cond.selects "TwelvehundredModel" (⟨"TwelvehundredModel", "isBest", "([I[II)Z"⟩ : MethodName) (⟨"TwelvehundredModel", "isBest", "([I[II)Z"⟩ : MethodName) ∈ Tgl := inT_0 44 (by decide +kernel) (by decide +kernel)
set_option maxRecDepth 20000 in
theorem tw_45 : Jvm.Cond.selects "TwelvehundredModel" (⟨"TwelvehundredModel", "add", "(J)V"⟩ : MethodName) (⟨"TwelvehundredModel", "add", "(J)V"⟩ : MethodName) ∈ Tgl := inT_0 45 (by decide +kernel) (by decide +kernel)
set_option maxRecDepth 20000 in
theorem tw_46 : Jvm.Cond.initialized "TwelvehundredLaw" ∈ Tgl := inT_1 0 rfl (by decide +kernel)
set_option maxRecDepth 20000 in
theorem tw_47 : Jvm.Cond.initialized "Twelvehundred" ∈ Tgl := inT_1 1 rfl (by decide +kernel)
set_option maxRecDepth 20000 in
theorem tw_48 : Jvm.Cond.initialized "Twelvehundred$River" ∈ Tgl := inT_1 2 rfl (by decide +kernel)
set_option maxRecDepth 20000 in
theorem tw_49 : Jvm.Cond.initialized "java/util/AbstractCollection" ∈ Tgl := inT_1 3 rfl (by decide +kernel)
set_option maxRecDepth 20000 in
theorem tw_50 : Jvm.Cond.initialized "java/util/AbstractList" ∈ Tgl := inT_1 4 rfl (by decide +kernel)
set_option maxRecDepth 20000 in
theorem tw_51 : Jvm.Cond.initialized "java/util/ArrayList" ∈ Tgl := inT_1 5 rfl (by decide +kernel)
set_option maxRecDepth 20000 in
theorem tw_52 : Jvm.Cond.initialized "Twelvehundred$Placing" ∈ Tgl := inT_1 6 rfl (by decide +kernel)
set_option maxRecDepth 20000 in
theorem tw_53 : Jvm.Cond.initialized "Twelvehundred$Rescue" ∈ Tgl := inT_1 7 rfl (by decide +kernel)
set_option maxRecDepth 20000 in
theorem tw_54 : Jvm.Cond.initialized "Twelvehundred$Asking" ∈ Tgl := inT_1 8 rfl (by decide +kernel)
set_option maxRecDepth 20000 in
theorem tw_55 : Jvm.Cond.initialized "Twelvehundred$Larder" ∈ Tgl := inT_1 9 rfl (by decide +kernel)
set_option maxRecDepth 20000 in
theorem tw_56 : Jvm.Cond.initialized "Twelvehundred$Bulletin" ∈ Tgl := inT_1 10 rfl (by decide +kernel)
set_option maxRecDepth 20000 in
theorem tw_57 : Jvm.Cond.initialized "TwelvehundredModel" ∈ Tgl := inT_1 11 rfl (by decide +kernel)
set_option maxRecDepth 20000 in
theorem tw_58 : Jvm.Cond.initialized "TwelvehundredLaw$Out" ∈ Tgl := inT_1 12 rfl (by decide +kernel)
set_option maxRecDepth 20000 in
theorem tw_59 : Jvm.Cond.initialized "java/lang/Throwable" ∈ Tgl := inT_1 13 rfl (by decide +kernel)
set_option maxRecDepth 20000 in
theorem tw_60 : Jvm.Cond.initialized "java/lang/Exception" ∈ Tgl := inT_1 14 rfl (by decide +kernel)
set_option maxRecDepth 20000 in
theorem tw_61 : Jvm.Cond.initialized "java/lang/RuntimeException" ∈ Tgl := inT_1 15 rfl (by decide +kernel)
set_option maxRecDepth 20000 in
theorem tw_62 : Jvm.Cond.initialized "java/lang/IllegalArgumentException" ∈ Tgl := inT_1 16 rfl (by decide +kernel)
set_option maxRecDepth 20000 in
theorem tw_63 : Jvm.Cond.initialized "java/lang/IllegalStateException" ∈ Tgl := inT_1 17 rfl (by decide +kernel)
set_option maxRecDepth 20000 in
theorem tw_64 : Jvm.Cond.initialized "Twelvehundred$Street" ∈ Tgl := inT_1 18 rfl (by decide +kernel)
set_option maxRecDepth 20000 in
theorem tw_65 : Jvm.Cond.initialized "jdk/internal/util/ArraysSupport" ∈ Tgl := inT_1 19 rfl (by decide +kernel)
set_option maxRecDepth 20000 in
theorem tw_66 : Jvm.Cond.initialized "java/lang/Math" ∈ Tgl := inT_1 20 rfl (by decide +kernel)
set_option maxRecDepth 20000 in
theorem tw_67 : Jvm.Cond.initialized "java/util/Arrays" ∈ Tgl := inT_1 21 rfl (by decide +kernel)
set_option maxRecDepth 20000 in
theorem tw_68 : Jvm.Cond.initialized "java/lang/System" ∈ Tgl := inT_1 22 rfl (by decide +kernel)
set_option maxRecDepth 20000 in
theorem tw_69 : Jvm.Cond.initialized "Twelvehundred$Hall" ∈ Tgl := inT_1 23 rfl (by decide +kernel)
set_option maxRecDepth 20000 in
theorem tw_70 : Jvm.Cond.initialized "java/util/Objects" ∈ Tgl := inT_1 24 rfl (by decide +kernel)
set_option maxRecDepth 20000 in
theorem tw_71 : Jvm.Cond.initialized "jdk/internal/util/Preconditions" ∈ Tgl := inT_1 25 rfl (by decide +kernel)
set_option maxRecDepth 20000 in
theorem tw_72 : Jvm.Cond.initialized "java/lang/Number" ∈ Tgl := inT_1 26 rfl (by decide +kernel)
set_option maxRecDepth 20000 in
theorem tw_73 : Jvm.Cond.initialized "java/lang/Integer" ∈ Tgl := inT_1 27 rfl (by decide +kernel)
set_option maxRecDepth 20000 in
theorem tw_74 : Jvm.Cond.initialized "java/lang/IndexOutOfBoundsException" ∈ Tgl := inT_1 28 rfl (by decide +kernel)
set_option maxRecDepth 20000 in
theorem tw_75 : Jvm.Cond.initialized "Twelvehundred$Household" ∈ Tgl := inT_1 29 rfl (by decide +kernel)
set_option maxRecDepth 20000 in
theorem tw_76 : Jvm.Cond.initialized "TwelvehundredModel$Household" ∈ Tgl := inT_1 30 rfl (by decide +kernel)
set_option maxRecDepth 20000 in
theorem tw_77 : Jvm.Cond.initialized "java/util/ArrayList$Itr" ∈ Tgl := inT_1 31 rfl (by decide +kernel)
set_option maxRecDepth 20000 in
theorem tw_78 : Jvm.Cond.initialized "Twelvehundred$Lot" ∈ Tgl := inT_1 32 rfl (by decide +kernel)
set_option maxRecDepth 20000 in
theorem tw_79 : Jvm.Cond.initialized "Twelvehundred$Listed" ∈ Tgl := inT_1 33 rfl (by decide +kernel)
set_option maxRecDepth 20000 in
theorem tw_81 : Jvm.Cond.initialized "java/lang/AbstractStringBuilder" ∈ Tgl := inT_1 35 rfl (by decide +kernel)
set_option maxRecDepth 20000 in
theorem tw_82 : Jvm.Cond.initialized "java/lang/StringBuilder" ∈ Tgl := inT_1 36 rfl (by decide +kernel)
set_option maxRecDepth 20000 in
theorem tw_83 : Jvm.Cond.initialized "java/lang/String" ∈ Tgl := inT_1 37 rfl (by decide +kernel)
set_option maxRecDepth 20000 in
theorem tw_85 : Jvm.Cond.initialized "java/lang/StringLatin1" ∈ Tgl := inT_1 39 rfl (by decide +kernel)
set_option maxRecDepth 20000 in
theorem tw_86 : Jvm.Cond.classLink "TwelvehundredLaw" 8 "Twelvehundred" ∈ Tgl := inT_1 40 rfl (by decide +kernel)
set_option maxRecDepth 20000 in
theorem tw_87 : Jvm.Cond.instantiable "Twelvehundred" 10 ∈ Tgl := inT_1 41 rfl (by decide +kernel)
set_option maxRecDepth 20000 in
theorem tw_88 : Jvm.Cond.methodLink "TwelvehundredLaw" 87 (⟨"Twelvehundred", "<init>", "()V"⟩ : MethodName) ∈ Tgl := inT_1 42 rfl (by decide +kernel)
set_option maxRecDepth 20000 in
theorem tw_89 : Jvm.Cond.instanceMethod (⟨"Twelvehundred", "<init>", "()V"⟩ : MethodName) ∈ Tgl := inT_1 43 rfl (by decide +kernel)
set_option maxRecDepth 20000 in
theorem tw_90 : Jvm.Cond.code (⟨"Twelvehundred", "<init>", "()V"⟩ : MethodName) prog_1_method_1_code 5 (none) ∈ Tgl := inT_1 44 rfl (by decide +kernel)
set_option maxRecDepth 20000 in
theorem tw_91 : Jvm.Cond.methodLink "Twelvehundred" 1 (⟨"java/lang/Object", "<init>", "()V"⟩ : MethodName) ∈ Tgl := inT_1 45 rfl (by decide +kernel)
set_option maxRecDepth 20000 in
theorem tw_92 : Jvm.Cond.instanceMethod (⟨"java/lang/Object", "<init>", "()V"⟩ : MethodName) ∈ Tgl := inT_1 46 rfl (by decide +kernel)
set_option maxRecDepth 20000 in
theorem tw_93 : Jvm.Cond.code (⟨"java/lang/Object", "<init>", "()V"⟩ : MethodName) object_method_1_code 1 (none) ∈ Tgl := inT_1 47 rfl (by decide +kernel)
set_option maxRecDepth 20000 in
theorem tw_94 : Jvm.Cond.classLink "Twelvehundred" 7 "Twelvehundred$River" ∈ Tgl := inT_1 48 rfl (by decide +kernel)
set_option maxRecDepth 20000 in
theorem tw_95 : Jvm.Cond.instantiable "Twelvehundred$River" 3 ∈ Tgl := inT_1 49 rfl (by decide +kernel)
set_option maxRecDepth 20000 in
theorem tw_97 : Jvm.Cond.instanceMethod (⟨"Twelvehundred$River", "<init>", "()V"⟩ : MethodName) ∈ Tgl := inT_1 51 rfl (by decide +kernel)
set_option maxRecDepth 20000 in
theorem tw_98 : Jvm.Cond.code (⟨"Twelvehundred$River", "<init>", "()V"⟩ : MethodName) prog_11_method_1_code 1 (none) ∈ Tgl := inT_1 52 rfl (by decide +kernel)
set_option maxRecDepth 20000 in
theorem tw_99 : Jvm.Cond.methodLink "Twelvehundred$River" 3 (⟨"java/lang/Object", "<init>", "()V"⟩ : MethodName) ∈ Tgl := inT_1 53 rfl (by decide +kernel)
set_option maxRecDepth 20000 in
theorem tw_100 : Jvm.Cond.fieldLink "Twelvehundred$River" 9 "Twelvehundred$River" "level" "I" ∈ Tgl := inT_1 54 rfl (by decide +kernel)
set_option maxRecDepth 20000 in
theorem tw_102 : Jvm.Cond.fieldLink "Twelvehundred$River" 15 "Twelvehundred$River" "rise" "I" ∈ Tgl := inT_1 56 rfl (by decide +kernel)
set_option maxRecDepth 20000 in
theorem tw_104 : Jvm.Cond.fieldLink "Twelvehundred$River" 18 "Twelvehundred$River" "hour" "I" ∈ Tgl := inT_1 58 rfl (by decide +kernel)
set_option maxRecDepth 20000 in
theorem tw_106 : Jvm.Cond.lays "Twelvehundred$River" "Twelvehundred$River" "level" "I" ∈ Tgl := inT_1 60 rfl (by decide +kernel)
set_option maxRecDepth 20000 in
theorem tw_108 : Jvm.Cond.lays "Twelvehundred$River" "Twelvehundred$River" "rise" "I" ∈ Tgl := inT_1 62 rfl (by decide +kernel)
set_option maxRecDepth 20000 in
theorem tw_110 : Jvm.Cond.lays "Twelvehundred$River" "Twelvehundred$River" "hour" "I" ∈ Tgl := inT_1 64 rfl (by decide +kernel)
set_option maxRecDepth 20000 in
theorem tw_113 : Jvm.Cond.classLink "Twelvehundred" 10 "java/util/ArrayList" ∈ Tgl := inT_1 67 rfl (by decide +kernel)
set_option maxRecDepth 20000 in
theorem tw_114 : Jvm.Cond.instantiable "java/util/ArrayList" 3 ∈ Tgl := inT_1 68 rfl (by decide +kernel)
set_option maxRecDepth 20000 in
theorem tw_115 : Jvm.Cond.methodLink "Twelvehundred" 12 (⟨"java/util/ArrayList", "<init>", "()V"⟩ : MethodName) ∈ Tgl := inT_1 69 rfl (by decide +kernel)
set_option maxRecDepth 20000 in
theorem tw_116 : Jvm.Cond.instanceMethod (⟨"java/util/ArrayList", "<init>", "()V"⟩ : MethodName) ∈ Tgl := inT_1 70 rfl (by decide +kernel)
set_option maxRecDepth 20000 in
theorem tw_117 : Jvm.Cond.code (⟨"java/util/ArrayList", "<init>", "()V"⟩ : MethodName) prog_43_method_2_code 1 (none) ∈ Tgl := inT_1 71 rfl (by decide +kernel)
set_option maxRecDepth 20000 in
theorem tw_118 : Jvm.Cond.methodLink "java/util/ArrayList" 1 (⟨"java/util/AbstractList", "<init>", "()V"⟩ : MethodName) ∈ Tgl := inT_1 72 rfl (by decide +kernel)
set_option maxRecDepth 20000 in
theorem tw_119 : Jvm.Cond.instanceMethod (⟨"java/util/AbstractList", "<init>", "()V"⟩ : MethodName) ∈ Tgl := inT_1 73 rfl (by decide +kernel)
set_option maxRecDepth 20000 in
theorem tw_120 : Jvm.Cond.code (⟨"java/util/AbstractList", "<init>", "()V"⟩ : MethodName) prog_42_method_1_code 1 (none) ∈ Tgl := inT_1 74 rfl (by decide +kernel)
set_option maxRecDepth 20000 in
theorem tw_121 : Jvm.Cond.methodLink "java/util/AbstractList" 1 (⟨"java/util/AbstractCollection", "<init>", "()V"⟩ : MethodName) ∈ Tgl := inT_1 75 rfl (by decide +kernel)
set_option maxRecDepth 20000 in
theorem tw_122 : Jvm.Cond.instanceMethod (⟨"java/util/AbstractCollection", "<init>", "()V"⟩ : MethodName) ∈ Tgl := inT_1 76 rfl (by decide +kernel)
set_option maxRecDepth 20000 in
theorem tw_123 : Jvm.Cond.code (⟨"java/util/AbstractCollection", "<init>", "()V"⟩ : MethodName) prog_41_method_1_code 1 (none) ∈ Tgl := inT_1 77 rfl (by decide +kernel)
set_option maxRecDepth 20000 in
theorem tw_124 : Jvm.Cond.methodLink "java/util/AbstractCollection" 1 (⟨"java/lang/Object", "<init>", "()V"⟩ : MethodName) ∈ Tgl := inT_1 78 rfl (by decide +kernel)
set_option maxRecDepth 20000 in
theorem tw_125 : Jvm.Cond.fieldLink "java/util/ArrayList" 39 "java/util/ArrayList" "DEFAULTCAPACITY_EMPTY_ELEMENTDATA" "[Ljava/lang/Object;" ∈ Tgl := inT_1 79 rfl (by decide +kernel)
set_option maxRecDepth 20000 in
theorem tw_127 : Jvm.Cond.fieldLink "java/util/ArrayList" 9 "java/util/ArrayList" "elementData" "[Ljava/lang/Object;" ∈ Tgl := inT_1 81 rfl (by decide +kernel)
set_option maxRecDepth 20000 in
theorem tw_128 : Jvm.Cond.fieldLink "java/util/ArrayList$Itr" 37 "java/util/ArrayList" "elementData" "[Ljava/lang/Object;" ∈ Tgl := inT_1 82 rfl (by decide +kernel)
set_option maxRecDepth 20000 in
theorem tw_130 : Jvm.Cond.fieldLink "java/util/ArrayList" 48 "java/util/ArrayList" "size" "I" ∈ Tgl := inT_1 84 rfl (by decide +kernel)
set_option maxRecDepth 20000 in
theorem tw_131 : Jvm.Cond.fieldLink "java/util/AbstractList" 7 "java/util/AbstractList" "modCount" "I" ∈ Tgl := inT_1 85 rfl (by decide +kernel)
set_option maxRecDepth 20000 in
theorem tw_132 : Jvm.Cond.fieldLink "java/util/ArrayList$Itr" 17 "java/util/ArrayList" "modCount" "I" ∈ Tgl := inT_1 86 rfl (by decide +kernel)
set_option maxRecDepth 20000 in
theorem tw_133 : Jvm.Cond.sameField "java/util/ArrayList" "java/util/AbstractList" "modCount" "I" ∈ Tgl := inT_1 87 rfl (by decide +kernel)
set_option maxRecDepth 20000 in
theorem tw_134 : Jvm.Cond.fieldLink "java/util/ArrayList" 63 "java/util/ArrayList" "modCount" "I" ∈ Tgl := inT_1 88 rfl (by decide +kernel)
set_option maxRecDepth 20000 in
theorem tw_135 : Jvm.Cond.lays "java/util/ArrayList" "java/util/ArrayList" "elementData" "[Ljava/lang/Object;" ∈ Tgl := inT_1 89 rfl (by decide +kernel)
set_option maxRecDepth 20000 in
theorem tw_137 : Jvm.Cond.lays "java/util/ArrayList" "java/util/ArrayList" "size" "I" ∈ Tgl := inT_1 91 rfl (by decide +kernel)
set_option maxRecDepth 20000 in
theorem tw_139 : Jvm.Cond.lays "java/util/ArrayList" "java/util/AbstractList" "modCount" "I" ∈ Tgl := inT_1 93 rfl (by decide +kernel)
set_option maxRecDepth 20000 in
theorem tw_142 : Jvm.Cond.classLink "Twelvehundred" 13 "Twelvehundred$Placing" ∈ Tgl := inT_1 96 rfl (by decide +kernel)
set_option maxRecDepth 20000 in
theorem tw_143 : Jvm.Cond.instantiable "Twelvehundred$Placing" 3 ∈ Tgl := inT_1 97 rfl (by decide +kernel)
set_option maxRecDepth 20000 in
theorem tw_144 : Jvm.Cond.methodLink "Twelvehundred" 15 (⟨"Twelvehundred$Placing", "<init>", "(Ljava/util/ArrayList;Ljava/util/ArrayList;)V"⟩ : MethodName) ∈ Tgl := inT_1 98 rfl (by decide +kernel)
set_option maxRecDepth 20000 in
theorem tw_145 : Jvm.Cond.instanceMethod (⟨"Twelvehundred$Placing", "<init>", "(Ljava/util/ArrayList;Ljava/util/ArrayList;)V"⟩ : MethodName) ∈ Tgl := inT_1 99 rfl (by decide +kernel)
set_option maxRecDepth 20000 in
theorem tw_146 : Jvm.Cond.code (⟨"Twelvehundred$Placing", "<init>", "(Ljava/util/ArrayList;Ljava/util/ArrayList;)V"⟩ : MethodName) prog_9_method_1_code 3 (none) ∈ Tgl := inT_1 100 rfl (by decide +kernel)
set_option maxRecDepth 20000 in
theorem tw_147 : Jvm.Cond.methodLink "Twelvehundred$Placing" 3 (⟨"java/lang/Object", "<init>", "()V"⟩ : MethodName) ∈ Tgl := inT_1 101 rfl (by decide +kernel)
set_option maxRecDepth 20000 in
theorem tw_148 : Jvm.Cond.classLink "Twelvehundred$Placing" 9 "Twelvehundred$Hall" ∈ Tgl := inT_1 102 rfl (by decide +kernel)
set_option maxRecDepth 20000 in
theorem tw_150 : Jvm.Cond.fieldLink "Twelvehundred$Placing" 17 "Twelvehundred$Placing" "households" "Ljava/util/ArrayList;" ∈ Tgl := inT_1 104 rfl (by decide +kernel)
set_option maxRecDepth 20000 in
theorem tw_151 : Jvm.Cond.fieldLink "Twelvehundred$Placing" 21 "Twelvehundred$Placing" "halls" "Ljava/util/ArrayList;" ∈ Tgl := inT_1 105 rfl (by decide +kernel)
set_option maxRecDepth 20000 in
theorem tw_152 : Jvm.Cond.fieldLink "Twelvehundred$Placing" 11 "Twelvehundred$Placing" "taken" "[LTwelvehundred$Hall;" ∈ Tgl := inT_1 106 rfl (by decide +kernel)
set_option maxRecDepth 20000 in
theorem tw_153 : Jvm.Cond.laysFinal "Twelvehundred$Placing" "Twelvehundred$Placing" "households" "Ljava/util/ArrayList;" ∈ Tgl := inT_1 107 rfl (by decide +kernel)
set_option maxRecDepth 20000 in
theorem tw_155 : Jvm.Cond.laysFinal "Twelvehundred$Placing" "Twelvehundred$Placing" "halls" "Ljava/util/ArrayList;" ∈ Tgl := inT_1 109 rfl (by decide +kernel)
set_option maxRecDepth 20000 in
theorem tw_157 : Jvm.Cond.laysFinal "Twelvehundred$Placing" "Twelvehundred$Placing" "taken" "[LTwelvehundred$Hall;" ∈ Tgl := inT_1 111 rfl (by decide +kernel)
set_option maxRecDepth 20000 in
theorem tw_160 : Jvm.Cond.classLink "Twelvehundred" 34 "Twelvehundred$Rescue" ∈ Tgl := inT_1 114 rfl (by decide +kernel)
set_option maxRecDepth 20000 in
theorem tw_161 : Jvm.Cond.instantiable "Twelvehundred$Rescue" 4 ∈ Tgl := inT_1 115 rfl (by decide +kernel)
set_option maxRecDepth 20000 in
theorem tw_162 : Jvm.Cond.methodLink "Twelvehundred" 36 (⟨"Twelvehundred$Rescue", "<init>", "(LTwelvehundred$River;Ljava/util/ArrayList;)V"⟩ : MethodName) ∈ Tgl := inT_1 116 rfl (by decide +kernel)
set_option maxRecDepth 20000 in
theorem tw_163 : Jvm.Cond.instanceMethod (⟨"Twelvehundred$Rescue", "<init>", "(LTwelvehundred$River;Ljava/util/ArrayList;)V"⟩ : MethodName) ∈ Tgl := inT_1 117 rfl (by decide +kernel)
set_option maxRecDepth 20000 in
theorem tw_164 : Jvm.Cond.code (⟨"Twelvehundred$Rescue", "<init>", "(LTwelvehundred$River;Ljava/util/ArrayList;)V"⟩ : MethodName) prog_10_method_1_code 3 (none) ∈ Tgl := inT_1 118 rfl (by decide +kernel)
set_option maxRecDepth 20000 in
theorem tw_165 : Jvm.Cond.methodLink "Twelvehundred$Rescue" 3 (⟨"java/lang/Object", "<init>", "()V"⟩ : MethodName) ∈ Tgl := inT_1 119 rfl (by decide +kernel)
set_option maxRecDepth 20000 in
theorem tw_166 : Jvm.Cond.fieldLink "Twelvehundred$Rescue" 18 "Twelvehundred$Rescue" "river" "LTwelvehundred$River;" ∈ Tgl := inT_1 120 rfl (by decide +kernel)
set_option maxRecDepth 20000 in
theorem tw_167 : Jvm.Cond.fieldLink "Twelvehundred$Rescue" 22 "Twelvehundred$Rescue" "households" "Ljava/util/ArrayList;" ∈ Tgl := inT_1 121 rfl (by decide +kernel)
set_option maxRecDepth 20000 in
theorem tw_168 : Jvm.Cond.fieldLink "Twelvehundred$Rescue" 9 "Twelvehundred$Rescue" "busCount" "I" ∈ Tgl := inT_1 122 rfl (by decide +kernel)
set_option maxRecDepth 20000 in
theorem tw_170 : Jvm.Cond.fieldLink "Twelvehundred$Rescue" 15 "Twelvehundred$Rescue" "fetchedThisHour" "I" ∈ Tgl := inT_1 124 rfl (by decide +kernel)
set_option maxRecDepth 20000 in
theorem tw_172 : Jvm.Cond.laysFinal "Twelvehundred$Rescue" "Twelvehundred$Rescue" "river" "LTwelvehundred$River;" ∈ Tgl := inT_1 126 rfl (by decide +kernel)
set_option maxRecDepth 20000 in
theorem tw_174 : Jvm.Cond.laysFinal "Twelvehundred$Rescue" "Twelvehundred$Rescue" "households" "Ljava/util/ArrayList;" ∈ Tgl := inT_1 128 rfl (by decide +kernel)
set_option maxRecDepth 20000 in
theorem tw_176 : Jvm.Cond.lays "Twelvehundred$Rescue" "Twelvehundred$Rescue" "busCount" "I" ∈ Tgl := inT_1 130 rfl (by decide +kernel)
set_option maxRecDepth 20000 in
theorem tw_178 : Jvm.Cond.lays "Twelvehundred$Rescue" "Twelvehundred$Rescue" "fetchedThisHour" "I" ∈ Tgl := inT_1 132 rfl (by decide +kernel)
set_option maxRecDepth 20000 in
theorem tw_181 : Jvm.Cond.classLink "Twelvehundred" 47 "Twelvehundred$Asking" ∈ Tgl := inT_1 135 rfl (by decide +kernel)
set_option maxRecDepth 20000 in
theorem tw_182 : Jvm.Cond.instantiable "Twelvehundred$Asking" 5 ∈ Tgl := inT_1 136 rfl (by decide +kernel)
set_option maxRecDepth 20000 in
theorem tw_183 : Jvm.Cond.methodLink "Twelvehundred" 49 (⟨"Twelvehundred$Asking", "<init>", "(Ljava/util/ArrayList;Ljava/util/ArrayList;LTwelvehundred$Placing;)V"⟩ : MethodName) ∈ Tgl := inT_1 137 rfl (by decide +kernel)
set_option maxRecDepth 20000 in
theorem tw_184 : Jvm.Cond.instanceMethod (⟨"Twelvehundred$Asking", "<init>", "(Ljava/util/ArrayList;Ljava/util/ArrayList;LTwelvehundred$Placing;)V"⟩ : MethodName) ∈ Tgl := inT_1 138 rfl (by decide +kernel)
set_option maxRecDepth 20000 in
theorem tw_185 : Jvm.Cond.code (⟨"Twelvehundred$Asking", "<init>", "(Ljava/util/ArrayList;Ljava/util/ArrayList;LTwelvehundred$Placing;)V"⟩ : MethodName) prog_2_method_1_code 4 (none) ∈ Tgl := inT_1 139 rfl (by decide +kernel)
set_option maxRecDepth 20000 in
theorem tw_186 : Jvm.Cond.methodLink "Twelvehundred$Asking" 3 (⟨"java/lang/Object", "<init>", "()V"⟩ : MethodName) ∈ Tgl := inT_1 140 rfl (by decide +kernel)
set_option maxRecDepth 20000 in
theorem tw_187 : Jvm.Cond.fieldLink "Twelvehundred$Asking" 19 "Twelvehundred$Asking" "households" "Ljava/util/ArrayList;" ∈ Tgl := inT_1 141 rfl (by decide +kernel)
set_option maxRecDepth 20000 in
theorem tw_188 : Jvm.Cond.fieldLink "Twelvehundred$Asking" 23 "Twelvehundred$Asking" "halls" "Ljava/util/ArrayList;" ∈ Tgl := inT_1 142 rfl (by decide +kernel)
set_option maxRecDepth 20000 in
theorem tw_189 : Jvm.Cond.fieldLink "Twelvehundred$Asking" 26 "Twelvehundred$Asking" "placing" "LTwelvehundred$Placing;" ∈ Tgl := inT_1 143 rfl (by decide +kernel)
set_option maxRecDepth 20000 in
theorem tw_190 : Jvm.Cond.fieldLink "Twelvehundred$Asking" 9 "Twelvehundred$Asking" "askedBy" "[I" ∈ Tgl := inT_1 144 rfl (by decide +kernel)
set_option maxRecDepth 20000 in
theorem tw_191 : Jvm.Cond.fieldLink "Twelvehundred$Asking" 15 "Twelvehundred$Asking" "askedCount" "I" ∈ Tgl := inT_1 145 rfl (by decide +kernel)
set_option maxRecDepth 20000 in
theorem tw_193 : Jvm.Cond.laysFinal "Twelvehundred$Asking" "Twelvehundred$Asking" "households" "Ljava/util/ArrayList;" ∈ Tgl := inT_1 147 rfl (by decide +kernel)
set_option maxRecDepth 20000 in
theorem tw_195 : Jvm.Cond.laysFinal "Twelvehundred$Asking" "Twelvehundred$Asking" "halls" "Ljava/util/ArrayList;" ∈ Tgl := inT_1 149 rfl (by decide +kernel)
set_option maxRecDepth 20000 in
theorem tw_197 : Jvm.Cond.laysFinal "Twelvehundred$Asking" "Twelvehundred$Asking" "placing" "LTwelvehundred$Placing;" ∈ Tgl := inT_1 151 rfl (by decide +kernel)
set_option maxRecDepth 20000 in
theorem tw_199 : Jvm.Cond.laysFinal "Twelvehundred$Asking" "Twelvehundred$Asking" "askedBy" "[I" ∈ Tgl := inT_1 153 rfl (by decide +kernel)
set_option maxRecDepth 20000 in
theorem tw_201 : Jvm.Cond.lays "Twelvehundred$Asking" "Twelvehundred$Asking" "askedCount" "I" ∈ Tgl := inT_1 155 rfl (by decide +kernel)
set_option maxRecDepth 20000 in
theorem tw_204 : Jvm.Cond.arrayClass .int ∈ Tgl := inT_1 158 rfl (by decide +kernel)
set_option maxRecDepth 20000 in
theorem tw_205 : Jvm.Cond.classLink "Twelvehundred" 59 "Twelvehundred$Larder" ∈ Tgl := inT_1 159 rfl (by decide +kernel)
set_option maxRecDepth 20000 in
theorem tw_206 : Jvm.Cond.instantiable "Twelvehundred$Larder" 4 ∈ Tgl := inT_1 160 rfl (by decide +kernel)
set_option maxRecDepth 20000 in
theorem tw_208 : Jvm.Cond.instanceMethod (⟨"Twelvehundred$Larder", "<init>", "()V"⟩ : MethodName) ∈ Tgl := inT_1 162 rfl (by decide +kernel)
set_option maxRecDepth 20000 in
theorem tw_209 : Jvm.Cond.code (⟨"Twelvehundred$Larder", "<init>", "()V"⟩ : MethodName) prog_6_method_1_code 1 (none) ∈ Tgl := inT_1 163 rfl (by decide +kernel)
set_option maxRecDepth 20000 in
theorem tw_210 : Jvm.Cond.methodLink "Twelvehundred$Larder" 1 (⟨"java/lang/Object", "<init>", "()V"⟩ : MethodName) ∈ Tgl := inT_1 164 rfl (by decide +kernel)
set_option maxRecDepth 20000 in
theorem tw_211 : Jvm.Cond.classLink "Twelvehundred$Larder" 7 "java/util/ArrayList" ∈ Tgl := inT_1 165 rfl (by decide +kernel)
set_option maxRecDepth 20000 in
theorem tw_212 : Jvm.Cond.methodLink "Twelvehundred$Larder" 9 (⟨"java/util/ArrayList", "<init>", "()V"⟩ : MethodName) ∈ Tgl := inT_1 166 rfl (by decide +kernel)
set_option maxRecDepth 20000 in
theorem tw_213 : Jvm.Cond.fieldLink "Twelvehundred$Larder" 10 "Twelvehundred$Larder" "lots" "Ljava/util/ArrayList;" ∈ Tgl := inT_1 167 rfl (by decide +kernel)
set_option maxRecDepth 20000 in
theorem tw_215 : Jvm.Cond.fieldLink "Twelvehundred$Larder" 16 "Twelvehundred$Larder" "given" "I" ∈ Tgl := inT_1 169 rfl (by decide +kernel)
set_option maxRecDepth 20000 in
theorem tw_217 : Jvm.Cond.fieldLink "Twelvehundred$Larder" 20 "Twelvehundred$Larder" "spoilt" "I" ∈ Tgl := inT_1 171 rfl (by decide +kernel)
set_option maxRecDepth 20000 in
theorem tw_219 : Jvm.Cond.fieldLink "Twelvehundred$Larder" 23 "Twelvehundred$Larder" "missing" "I" ∈ Tgl := inT_1 173 rfl (by decide +kernel)
set_option maxRecDepth 20000 in
theorem tw_221 : Jvm.Cond.laysFinal "Twelvehundred$Larder" "Twelvehundred$Larder" "lots" "Ljava/util/ArrayList;" ∈ Tgl := inT_1 175 rfl (by decide +kernel)
set_option maxRecDepth 20000 in
theorem tw_223 : Jvm.Cond.lays "Twelvehundred$Larder" "Twelvehundred$Larder" "given" "I" ∈ Tgl := inT_1 177 rfl (by decide +kernel)
set_option maxRecDepth 20000 in
theorem tw_225 : Jvm.Cond.lays "Twelvehundred$Larder" "Twelvehundred$Larder" "spoilt" "I" ∈ Tgl := inT_1 179 rfl (by decide +kernel)
set_option maxRecDepth 20000 in
theorem tw_227 : Jvm.Cond.lays "Twelvehundred$Larder" "Twelvehundred$Larder" "missing" "I" ∈ Tgl := inT_1 181 rfl (by decide +kernel)
set_option maxRecDepth 20000 in
theorem tw_230 : Jvm.Cond.classLink "Twelvehundred" 66 "Twelvehundred$Bulletin" ∈ Tgl := inT_1 184 rfl (by decide +kernel)
set_option maxRecDepth 20000 in
theorem tw_231 : Jvm.Cond.instantiable "Twelvehundred$Bulletin" 2 ∈ Tgl := inT_1 185 rfl (by decide +kernel)
set_option maxRecDepth 20000 in
theorem tw_233 : Jvm.Cond.instanceMethod (⟨"Twelvehundred$Bulletin", "<init>", "()V"⟩ : MethodName) ∈ Tgl := inT_1 187 rfl (by decide +kernel)
set_option maxRecDepth 20000 in
theorem tw_234 : Jvm.Cond.code (⟨"Twelvehundred$Bulletin", "<init>", "()V"⟩ : MethodName) prog_3_method_1_code 1 (none) ∈ Tgl := inT_1 188 rfl (by decide +kernel)
set_option maxRecDepth 20000 in
theorem tw_235 : Jvm.Cond.methodLink "Twelvehundred$Bulletin" 3 (⟨"java/lang/Object", "<init>", "()V"⟩ : MethodName) ∈ Tgl := inT_1 189 rfl (by decide +kernel)
set_option maxRecDepth 20000 in
theorem tw_236 : Jvm.Cond.classLink "Twelvehundred$Bulletin" 9 "java/util/ArrayList" ∈ Tgl := inT_1 190 rfl (by decide +kernel)
set_option maxRecDepth 20000 in
theorem tw_237 : Jvm.Cond.methodLink "Twelvehundred$Bulletin" 11 (⟨"java/util/ArrayList", "<init>", "()V"⟩ : MethodName) ∈ Tgl := inT_1 191 rfl (by decide +kernel)
set_option maxRecDepth 20000 in
theorem tw_238 : Jvm.Cond.fieldLink "Twelvehundred$Bulletin" 12 "Twelvehundred$Bulletin" "listed" "Ljava/util/ArrayList;" ∈ Tgl := inT_1 192 rfl (by decide +kernel)
set_option maxRecDepth 20000 in
theorem tw_240 : Jvm.Cond.fieldLink "Twelvehundred$Bulletin" 18 "Twelvehundred$Bulletin" "refused" "I" ∈ Tgl := inT_1 194 rfl (by decide +kernel)
set_option maxRecDepth 20000 in
theorem tw_242 : Jvm.Cond.laysFinal "Twelvehundred$Bulletin" "Twelvehundred$Bulletin" "listed" "Ljava/util/ArrayList;" ∈ Tgl := inT_1 196 rfl (by decide +kernel)
set_option maxRecDepth 20000 in
theorem tw_244 : Jvm.Cond.lays "Twelvehundred$Bulletin" "Twelvehundred$Bulletin" "refused" "I" ∈ Tgl := inT_1 198 rfl (by decide +kernel)
set_option maxRecDepth 20000 in
theorem tw_247 : Jvm.Cond.fieldLink "Twelvehundred" 18 "Twelvehundred" "river" "LTwelvehundred$River;" ∈ Tgl := inT_1 201 rfl (by decide +kernel)
set_option maxRecDepth 20000 in
theorem tw_248 : Jvm.Cond.fieldLink "Twelvehundred" 24 "Twelvehundred" "streets" "Ljava/util/ArrayList;" ∈ Tgl := inT_1 202 rfl (by decide +kernel)
set_option maxRecDepth 20000 in
theorem tw_249 : Jvm.Cond.fieldLink "Twelvehundred" 28 "Twelvehundred" "halls" "Ljava/util/ArrayList;" ∈ Tgl := inT_1 203 rfl (by decide +kernel)
set_option maxRecDepth 20000 in
theorem tw_250 : Jvm.Cond.fieldLink "Twelvehundred" 31 "Twelvehundred" "households" "Ljava/util/ArrayList;" ∈ Tgl := inT_1 204 rfl (by decide +kernel)
set_option maxRecDepth 20000 in
theorem tw_251 : Jvm.Cond.fieldLink "Twelvehundred" 39 "Twelvehundred" "rescue" "LTwelvehundred$Rescue;" ∈ Tgl := inT_1 205 rfl (by decide +kernel)
set_option maxRecDepth 20000 in
theorem tw_252 : Jvm.Cond.fieldLink "Twelvehundred" 43 "Twelvehundred" "placing" "LTwelvehundred$Placing;" ∈ Tgl := inT_1 206 rfl (by decide +kernel)
set_option maxRecDepth 20000 in
theorem tw_253 : Jvm.Cond.fieldLink "Twelvehundred" 52 "Twelvehundred" "asking" "LTwelvehundred$Asking;" ∈ Tgl := inT_1 207 rfl (by decide +kernel)
set_option maxRecDepth 20000 in
theorem tw_254 : Jvm.Cond.fieldLink "Twelvehundred" 56 "Twelvehundred" "trial" "LTwelvehundred$Placing;" ∈ Tgl := inT_1 208 rfl (by decide +kernel)
set_option maxRecDepth 20000 in
theorem tw_255 : Jvm.Cond.fieldLink "Twelvehundred" 62 "Twelvehundred" "larder" "LTwelvehundred$Larder;" ∈ Tgl := inT_1 209 rfl (by decide +kernel)
set_option maxRecDepth 20000 in
theorem tw_256 : Jvm.Cond.fieldLink "Twelvehundred" 69 "Twelvehundred" "bulletin" "LTwelvehundred$Bulletin;" ∈ Tgl := inT_1 210 rfl (by decide +kernel)
set_option maxRecDepth 20000 in
theorem tw_257 : Jvm.Cond.laysFinal "Twelvehundred" "Twelvehundred" "river" "LTwelvehundred$River;" ∈ Tgl := inT_1 211 rfl (by decide +kernel)
set_option maxRecDepth 20000 in
theorem tw_259 : Jvm.Cond.laysFinal "Twelvehundred" "Twelvehundred" "streets" "Ljava/util/ArrayList;" ∈ Tgl := inT_1 213 rfl (by decide +kernel)
set_option maxRecDepth 20000 in
theorem tw_261 : Jvm.Cond.laysFinal "Twelvehundred" "Twelvehundred" "halls" "Ljava/util/ArrayList;" ∈ Tgl := inT_1 215 rfl (by decide +kernel)
set_option maxRecDepth 20000 in
theorem tw_263 : Jvm.Cond.laysFinal "Twelvehundred" "Twelvehundred" "households" "Ljava/util/ArrayList;" ∈ Tgl := inT_1 217 rfl (by decide +kernel)
set_option maxRecDepth 20000 in
theorem tw_265 : Jvm.Cond.laysFinal "Twelvehundred" "Twelvehundred" "rescue" "LTwelvehundred$Rescue;" ∈ Tgl := inT_1 219 rfl (by decide +kernel)
set_option maxRecDepth 20000 in
theorem tw_267 : Jvm.Cond.laysFinal "Twelvehundred" "Twelvehundred" "placing" "LTwelvehundred$Placing;" ∈ Tgl := inT_1 221 rfl (by decide +kernel)
set_option maxRecDepth 20000 in
theorem tw_269 : Jvm.Cond.laysFinal "Twelvehundred" "Twelvehundred" "asking" "LTwelvehundred$Asking;" ∈ Tgl := inT_1 223 rfl (by decide +kernel)
set_option maxRecDepth 20000 in
theorem tw_271 : Jvm.Cond.laysFinal "Twelvehundred" "Twelvehundred" "trial" "LTwelvehundred$Placing;" ∈ Tgl := inT_1 225 rfl (by decide +kernel)
set_option maxRecDepth 20000 in
theorem tw_273 : Jvm.Cond.laysFinal "Twelvehundred" "Twelvehundred" "larder" "LTwelvehundred$Larder;" ∈ Tgl := inT_1 227 rfl (by decide +kernel)
set_option maxRecDepth 20000 in
theorem tw_275 : Jvm.Cond.laysFinal "Twelvehundred" "Twelvehundred" "bulletin" "LTwelvehundred$Bulletin;" ∈ Tgl := inT_1 229 rfl (by decide +kernel)
set_option maxRecDepth 20000 in
theorem tw_278 : Jvm.Cond.methodLink "TwelvehundredLaw" 138 (⟨"Twelvehundred", "knock", "()I"⟩ : MethodName) ∈ Tgl := inT_1 232 rfl (by decide +kernel)
set_option maxRecDepth 20000 in
theorem tw_279 : Jvm.Cond.instanceMethod (⟨"Twelvehundred", "knock", "()I"⟩ : MethodName) ∈ Tgl := inT_1 233 rfl (by decide +kernel)
set_option maxRecDepth 20000 in
theorem tw_280 : Jvm.Cond.selects "Twelvehundred" (⟨"Twelvehundred", "knock", "()I"⟩ : MethodName) (⟨"Twelvehundred", "knock", "()I"⟩ : MethodName) ∈ Tgl := inT_1 234 rfl (by decide +kernel)
set_option maxRecDepth 20000 in
theorem tw_281 : Jvm.Cond.code (⟨"Twelvehundred", "knock", "()I"⟩ : MethodName) prog_1_method_14_code 1 (some .int) ∈ Tgl := inT_1 235 rfl (by decide +kernel)
set_option maxRecDepth 20000 in
theorem tw_282 : Jvm.Cond.methodLink "TwelvehundredLaw" 157 (⟨"Twelvehundred", "signs", "()Ljava/lang/String;"⟩ : MethodName) ∈ Tgl := inT_1 236 rfl (by decide +kernel)
set_option maxRecDepth 20000 in
theorem tw_283 : Jvm.Cond.instanceMethod (⟨"Twelvehundred", "signs", "()Ljava/lang/String;"⟩ : MethodName) ∈ Tgl := inT_1 237 rfl (by decide +kernel)
set_option maxRecDepth 20000 in
theorem tw_284 : Jvm.Cond.selects "Twelvehundred" (⟨"Twelvehundred", "signs", "()Ljava/lang/String;"⟩ : MethodName) (⟨"Twelvehundred", "signs", "()Ljava/lang/String;"⟩ : MethodName) ∈ Tgl := inT_1 238 rfl (by decide +kernel)
set_option maxRecDepth 20000 in
theorem tw_285 : Jvm.Cond.code (⟨"Twelvehundred", "signs", "()Ljava/lang/String;"⟩ : MethodName) prog_1_method_20_code 3 (some (.object "java/lang/String")) ∈ Tgl := inT_1 239 rfl (by decide +kernel)
set_option maxRecDepth 20000 in
theorem tw_286 : Jvm.Cond.classLink "Twelvehundred" 313 "java/lang/StringBuilder" ∈ Tgl := inT_2 0 rfl (by decide +kernel)
set_option maxRecDepth 20000 in
theorem tw_287 : Jvm.Cond.instantiable "java/lang/StringBuilder" 4 ∈ Tgl := inT_2 1 rfl (by decide +kernel)
set_option maxRecDepth 20000 in
theorem tw_288 : Jvm.Cond.methodLink "Twelvehundred" 315 (⟨"java/lang/StringBuilder", "<init>", "()V"⟩ : MethodName) ∈ Tgl := inT_2 2 rfl (by decide +kernel)
set_option maxRecDepth 20000 in
theorem tw_289 : Jvm.Cond.instanceMethod (⟨"java/lang/StringBuilder", "<init>", "()V"⟩ : MethodName) ∈ Tgl := inT_2 3 rfl (by decide +kernel)
set_option maxRecDepth 20000 in
theorem tw_290 : Jvm.Cond.code (⟨"java/lang/StringBuilder", "<init>", "()V"⟩ : MethodName) prog_34_method_1_code 1 (none) ∈ Tgl := inT_2 4 rfl (by decide +kernel)
set_option maxRecDepth 20000 in
theorem tw_291 : Jvm.Cond.methodLink "java/lang/StringBuilder" 1 (⟨"java/lang/AbstractStringBuilder", "<init>", "(I)V"⟩ : MethodName) ∈ Tgl := inT_2 5 rfl (by decide +kernel)
set_option maxRecDepth 20000 in
theorem tw_292 : Jvm.Cond.instanceMethod (⟨"java/lang/AbstractStringBuilder", "<init>", "(I)V"⟩ : MethodName) ∈ Tgl := inT_2 6 rfl (by decide +kernel)
set_option maxRecDepth 20000 in
theorem tw_293 : Jvm.Cond.code (⟨"java/lang/AbstractStringBuilder", "<init>", "(I)V"⟩ : MethodName) prog_18_method_2_code 2 (none) ∈ Tgl := inT_2 7 rfl (by decide +kernel)
set_option maxRecDepth 20000 in
theorem tw_294 : Jvm.Cond.methodLink "java/lang/AbstractStringBuilder" 3 (⟨"java/lang/Object", "<init>", "()V"⟩ : MethodName) ∈ Tgl := inT_2 8 rfl (by decide +kernel)
set_option maxRecDepth 20000 in
theorem tw_295 : Jvm.Cond.fieldLink "java/lang/AbstractStringBuilder" 18 "java/lang/String" "COMPACT_STRINGS" "Z" ∈ Tgl := inT_2 9 rfl (by decide +kernel)
set_option maxRecDepth 20000 in
theorem tw_304 : Jvm.Cond.fieldLink "java/lang/AbstractStringBuilder" 15 "java/lang/AbstractStringBuilder" "value" "[B" ∈ Tgl := inT_2 18 rfl (by decide +kernel)
set_option maxRecDepth 20000 in
theorem tw_305 : Jvm.Cond.fieldLink "java/lang/AbstractStringBuilder" 22 "java/lang/AbstractStringBuilder" "coder" "B" ∈ Tgl := inT_2 19 rfl (by decide +kernel)
set_option maxRecDepth 20000 in
theorem tw_306 : Jvm.Cond.fieldLink "java/lang/String" 1048 "java/lang/AbstractStringBuilder" "maybeLatin1" "Z" ∈ Tgl := inT_2 20 rfl (by decide +kernel)
set_option maxRecDepth 20000 in
theorem tw_307 : Jvm.Cond.fieldLink "java/lang/AbstractStringBuilder" 79 "java/lang/AbstractStringBuilder" "count" "I" ∈ Tgl := inT_2 21 rfl (by decide +kernel)
set_option maxRecDepth 20000 in
theorem tw_308 : Jvm.Cond.lays "java/lang/StringBuilder" "java/lang/AbstractStringBuilder" "value" "[B" ∈ Tgl := inT_2 22 rfl (by decide +kernel)
set_option maxRecDepth 20000 in
theorem tw_310 : Jvm.Cond.lays "java/lang/StringBuilder" "java/lang/AbstractStringBuilder" "coder" "B" ∈ Tgl := inT_2 24 rfl (by decide +kernel)
set_option maxRecDepth 20000 in
theorem tw_312 : Jvm.Cond.lays "java/lang/StringBuilder" "java/lang/AbstractStringBuilder" "maybeLatin1" "Z" ∈ Tgl := inT_2 26 rfl (by decide +kernel)
set_option maxRecDepth 20000 in
theorem tw_314 : Jvm.Cond.lays "java/lang/StringBuilder" "java/lang/AbstractStringBuilder" "count" "I" ∈ Tgl := inT_2 28 rfl (by decide +kernel)
set_option maxRecDepth 20000 in
theorem tw_316 : Jvm.Cond.superclass "java/lang/StringBuilder" "java/lang/AbstractStringBuilder" ∈ Tgl := inT_2 30 rfl (by decide +kernel)
set_option maxRecDepth 20000 in
theorem tw_317 : Jvm.Cond.arrayClass .byte ∈ Tgl := inT_2 31 rfl (by decide +kernel)
set_option maxRecDepth 20000 in
theorem tw_318 : Jvm.Cond.methodLink "Twelvehundred" 84 (⟨"java/util/ArrayList", "size", "()I"⟩ : MethodName) ∈ Tgl := inT_2 32 rfl (by decide +kernel)
set_option maxRecDepth 20000 in
theorem tw_319 : Jvm.Cond.instanceMethod (⟨"java/util/ArrayList", "size", "()I"⟩ : MethodName) ∈ Tgl := inT_2 33 rfl (by decide +kernel)
set_option maxRecDepth 20000 in
theorem tw_320 : Jvm.Cond.selects "java/util/ArrayList" (⟨"java/util/ArrayList", "size", "()I"⟩ : MethodName) (⟨"java/util/ArrayList", "size", "()I"⟩ : MethodName) ∈ Tgl := inT_2 34 rfl (by decide +kernel)
set_option maxRecDepth 20000 in
theorem tw_321 : Jvm.Cond.code (⟨"java/util/ArrayList", "size", "()I"⟩ : MethodName) prog_43_method_8_code 1 (some .int) ∈ Tgl := inT_2 35 rfl (by decide +kernel)
set_option maxRecDepth 20000 in
theorem tw_322 : Jvm.Cond.methodLink "Twelvehundred" 119 (⟨"java/util/ArrayList", "get", "(I)Ljava/lang/Object;"⟩ : MethodName) ∈ Tgl := inT_2 36 rfl (by decide +kernel)
set_option maxRecDepth 20000 in
theorem tw_323 : Jvm.Cond.instanceMethod (⟨"java/util/ArrayList", "get", "(I)Ljava/lang/Object;"⟩ : MethodName) ∈ Tgl := inT_2 37 rfl (by decide +kernel)
set_option maxRecDepth 20000 in
theorem tw_324 : Jvm.Cond.selects "java/util/ArrayList" (⟨"java/util/ArrayList", "get", "(I)Ljava/lang/Object;"⟩ : MethodName) (⟨"java/util/ArrayList", "get", "(I)Ljava/lang/Object;"⟩ : MethodName) ∈ Tgl := inT_2 38 rfl (by decide +kernel)
set_option maxRecDepth 20000 in
theorem tw_325 : Jvm.Cond.code (⟨"java/util/ArrayList", "get", "(I)Ljava/lang/Object;"⟩ : MethodName) prog_43_method_20_code 2 (some (.object "java/lang/Object")) ∈ Tgl := inT_2 39 rfl (by decide +kernel)
set_option maxRecDepth 20000 in
theorem tw_326 : Jvm.Cond.methodLink "java/util/ArrayList" 118 (⟨"java/util/Objects", "checkIndex", "(II)I"⟩ : MethodName) ∈ Tgl := inT_2 40 rfl (by decide +kernel)
set_option maxRecDepth 20000 in
theorem tw_327 : Jvm.Cond.static (⟨"java/util/Objects", "checkIndex", "(II)I"⟩ : MethodName) ∈ Tgl := inT_2 41 rfl (by decide +kernel)
set_option maxRecDepth 20000 in
theorem tw_328 : Jvm.Cond.code (⟨"java/util/Objects", "checkIndex", "(II)I"⟩ : MethodName) prog_49_method_17_code 2 (some .int) ∈ Tgl := inT_2 42 rfl (by decide +kernel)
set_option maxRecDepth 20000 in
theorem tw_329 : Jvm.Cond.methodLink "java/util/Objects" 105 (⟨"jdk/internal/util/Preconditions", "checkIndex", "(IILjava/util/function/BiFunction;)I"⟩ : MethodName) ∈ Tgl := inT_2 43 rfl (by decide +kernel)
set_option maxRecDepth 20000 in
theorem tw_330 : Jvm.Cond.static (⟨"jdk/internal/util/Preconditions", "checkIndex", "(IILjava/util/function/BiFunction;)I"⟩ : MethodName) ∈ Tgl := inT_2 44 rfl (by decide +kernel)
set_option maxRecDepth 20000 in
theorem tw_331 : Jvm.Cond.code (⟨"jdk/internal/util/Preconditions", "checkIndex", "(IILjava/util/function/BiFunction;)I"⟩ : MethodName) prog_53_method_11_code 3 (some .int) ∈ Tgl := inT_2 45 rfl (by decide +kernel)
set_option maxRecDepth 20000 in
theorem tw_332 : Jvm.Cond.methodLink "java/util/ArrayList" 123 (⟨"java/util/ArrayList", "elementData", "(I)Ljava/lang/Object;"⟩ : MethodName) ∈ Tgl := inT_2 46 rfl (by decide +kernel)
set_option maxRecDepth 20000 in
theorem tw_333 : Jvm.Cond.instanceMethod (⟨"java/util/ArrayList", "elementData", "(I)Ljava/lang/Object;"⟩ : MethodName) ∈ Tgl := inT_2 47 rfl (by decide +kernel)
set_option maxRecDepth 20000 in
theorem tw_334 : Jvm.Cond.selects "java/util/ArrayList" (⟨"java/util/ArrayList", "elementData", "(I)Ljava/lang/Object;"⟩ : MethodName) (⟨"java/util/ArrayList", "elementData", "(I)Ljava/lang/Object;"⟩ : MethodName) ∈ Tgl := inT_2 48 rfl (by decide +kernel)
set_option maxRecDepth 20000 in
theorem tw_335 : Jvm.Cond.code (⟨"java/util/ArrayList", "elementData", "(I)Ljava/lang/Object;"⟩ : MethodName) prog_43_method_18_code 2 (some (.object "java/lang/Object")) ∈ Tgl := inT_2 49 rfl (by decide +kernel)
set_option maxRecDepth 20000 in
theorem tw_336 : Jvm.Cond.classLink "Twelvehundred" 133 "Twelvehundred$Household" ∈ Tgl := inT_2 50 rfl (by decide +kernel)
set_option maxRecDepth 20000 in
theorem tw_337 : Jvm.Cond.methodLink "Twelvehundred" 316 (⟨"Twelvehundred", "signOf", "(LTwelvehundred$Household;)C"⟩ : MethodName) ∈ Tgl := inT_2 51 rfl (by decide +kernel)
set_option maxRecDepth 20000 in
theorem tw_339 : Jvm.Cond.instanceMethod (⟨"Twelvehundred", "signOf", "(LTwelvehundred$Household;)C"⟩ : MethodName) ∈ Tgl := inT_2 53 rfl (by decide +kernel)
set_option maxRecDepth 20000 in
theorem tw_340 : Jvm.Cond.code (⟨"Twelvehundred", "signOf", "(LTwelvehundred$Household;)C"⟩ : MethodName) prog_1_method_28_code 3 (some .char) ∈ Tgl := inT_2 54 rfl (by decide +kernel)
set_option maxRecDepth 20000 in
theorem tw_341 : Jvm.Cond.methodLink "Twelvehundred" 259 (⟨"Twelvehundred$Placing", "hallOf", "(LTwelvehundred$Household;)LTwelvehundred$Hall;"⟩ : MethodName) ∈ Tgl := inT_2 55 rfl (by decide +kernel)
set_option maxRecDepth 20000 in
theorem tw_342 : Jvm.Cond.instanceMethod (⟨"Twelvehundred$Placing", "hallOf", "(LTwelvehundred$Household;)LTwelvehundred$Hall;"⟩ : MethodName) ∈ Tgl := inT_2 56 rfl (by decide +kernel)
set_option maxRecDepth 20000 in
theorem tw_343 : Jvm.Cond.selects "Twelvehundred$Placing" (⟨"Twelvehundred$Placing", "hallOf", "(LTwelvehundred$Household;)LTwelvehundred$Hall;"⟩ : MethodName) (⟨"Twelvehundred$Placing", "hallOf", "(LTwelvehundred$Household;)LTwelvehundred$Hall;"⟩ : MethodName) ∈ Tgl := inT_2 57 rfl (by decide +kernel)
set_option maxRecDepth 20000 in
theorem tw_344 : Jvm.Cond.code (⟨"Twelvehundred$Placing", "hallOf", "(LTwelvehundred$Household;)LTwelvehundred$Hall;"⟩ : MethodName) prog_9_method_3_code 2 (some (.object "Twelvehundred$Hall")) ∈ Tgl := inT_2 58 rfl (by decide +kernel)
set_option maxRecDepth 20000 in
theorem tw_345 : Jvm.Cond.methodLink "Twelvehundred" 320 (⟨"java/lang/StringBuilder", "append", "(C)Ljava/lang/StringBuilder;"⟩ : MethodName) ∈ Tgl := inT_2 59 rfl (by decide +kernel)
set_option maxRecDepth 20000 in
theorem tw_346 : Jvm.Cond.instanceMethod (⟨"java/lang/StringBuilder", "append", "(C)Ljava/lang/StringBuilder;"⟩ : MethodName) ∈ Tgl := inT_2 60 rfl (by decide +kernel)
set_option maxRecDepth 20000 in
theorem tw_347 : Jvm.Cond.selects "java/lang/StringBuilder" (⟨"java/lang/StringBuilder", "append", "(C)Ljava/lang/StringBuilder;"⟩ : MethodName) (⟨"java/lang/StringBuilder", "append", "(C)Ljava/lang/StringBuilder;"⟩ : MethodName) ∈ Tgl := inT_2 61 rfl (by decide +kernel)
set_option maxRecDepth 20000 in
theorem tw_348 : Jvm.Cond.code (⟨"java/lang/StringBuilder", "append", "(C)Ljava/lang/StringBuilder;"⟩ : MethodName) prog_34_method_14_code 2 (some (.object "java/lang/StringBuilder")) ∈ Tgl := inT_2 62 rfl (by decide +kernel)
set_option maxRecDepth 20000 in
theorem tw_349 : Jvm.Cond.methodLink "java/lang/StringBuilder" 50 (⟨"java/lang/AbstractStringBuilder", "append", "(C)Ljava/lang/AbstractStringBuilder;"⟩ : MethodName) ∈ Tgl := inT_2 63 rfl (by decide +kernel)
set_option maxRecDepth 20000 in
theorem tw_350 : Jvm.Cond.instanceMethod (⟨"java/lang/AbstractStringBuilder", "append", "(C)Ljava/lang/AbstractStringBuilder;"⟩ : MethodName) ∈ Tgl := inT_2 64 rfl (by decide +kernel)
set_option maxRecDepth 20000 in
theorem tw_351 : Jvm.Cond.code (⟨"java/lang/AbstractStringBuilder", "append", "(C)Ljava/lang/AbstractStringBuilder;"⟩ : MethodName) prog_18_method_31_code 2 (some (.object "java/lang/AbstractStringBuilder")) ∈ Tgl := inT_2 65 rfl (by decide +kernel)
set_option maxRecDepth 20000 in
theorem tw_352 : Jvm.Cond.methodLink "java/lang/AbstractStringBuilder" 100 (⟨"java/lang/AbstractStringBuilder", "ensureCapacityInternal", "(I)V"⟩ : MethodName) ∈ Tgl := inT_2 66 rfl (by decide +kernel)
set_option maxRecDepth 20000 in
theorem tw_354 : Jvm.Cond.instanceMethod (⟨"java/lang/AbstractStringBuilder", "ensureCapacityInternal", "(I)V"⟩ : MethodName) ∈ Tgl := inT_2 68 rfl (by decide +kernel)
set_option maxRecDepth 20000 in
theorem tw_355 : Jvm.Cond.code (⟨"java/lang/AbstractStringBuilder", "ensureCapacityInternal", "(I)V"⟩ : MethodName) prog_18_method_9_code 3 (none) ∈ Tgl := inT_2 69 rfl (by decide +kernel)
set_option maxRecDepth 20000 in
theorem tw_361 : Jvm.Cond.static (⟨"jdk/internal/util/ArraysSupport", "newLength", "(III)I"⟩ : MethodName) ∈ Tgl := inT_2 75 rfl (by decide +kernel)
set_option maxRecDepth 20000 in
theorem tw_362 : Jvm.Cond.code (⟨"jdk/internal/util/ArraysSupport", "newLength", "(III)I"⟩ : MethodName) prog_52_method_27_code 4 (some .int) ∈ Tgl := inT_2 76 rfl (by decide +kernel)
set_option maxRecDepth 20000 in
theorem tw_363 : Jvm.Cond.methodLink "jdk/internal/util/ArraysSupport" 194 (⟨"java/lang/Math", "max", "(II)I"⟩ : MethodName) ∈ Tgl := inT_2 77 rfl (by decide +kernel)
set_option maxRecDepth 20000 in
theorem tw_364 : Jvm.Cond.static (⟨"java/lang/Math", "max", "(II)I"⟩ : MethodName) ∈ Tgl := inT_2 78 rfl (by decide +kernel)
set_option maxRecDepth 20000 in
theorem tw_365 : Jvm.Cond.code (⟨"java/lang/Math", "max", "(II)I"⟩ : MethodName) prog_30_method_65_code 2 (some .int) ∈ Tgl := inT_2 79 rfl (by decide +kernel)
set_option maxRecDepth 20000 in
theorem tw_366 : Jvm.Cond.constant "jdk/internal/util/ArraysSupport" 200 (Int32.ofNat 2147483639) ∈ Tgl := inT_2 80 rfl (by decide +kernel)
set_option maxRecDepth 20000 in
theorem tw_376 : Jvm.Cond.native (⟨"java/lang/Object", "clone", "()Ljava/lang/Object;"⟩ : MethodName) ∈ Tgl := inT_2 90 rfl (by decide +kernel)
set_option maxRecDepth 20000 in
theorem tw_377 : Jvm.Cond.instanceMethod (⟨"java/lang/Object", "clone", "()Ljava/lang/Object;"⟩ : MethodName) ∈ Tgl := inT_2 91 rfl (by decide +kernel)
set_option maxRecDepth 20000 in
theorem tw_381 : Jvm.Cond.methodLink "java/util/Arrays" 304 (⟨"java/lang/Math", "min", "(II)I"⟩ : MethodName) ∈ Tgl := inT_2 95 rfl (by decide +kernel)
set_option maxRecDepth 20000 in
theorem tw_382 : Jvm.Cond.static (⟨"java/lang/Math", "min", "(II)I"⟩ : MethodName) ∈ Tgl := inT_2 96 rfl (by decide +kernel)
set_option maxRecDepth 20000 in
theorem tw_383 : Jvm.Cond.code (⟨"java/lang/Math", "min", "(II)I"⟩ : MethodName) prog_30_method_69_code 2 (some .int) ∈ Tgl := inT_2 97 rfl (by decide +kernel)
set_option maxRecDepth 20000 in
theorem tw_384 : Jvm.Cond.methodLink "java/util/Arrays" 150 (⟨"java/lang/System", "arraycopy", "(Ljava/lang/Object;ILjava/lang/Object;II)V"⟩ : MethodName) ∈ Tgl := inT_2 98 rfl (by decide +kernel)
set_option maxRecDepth 20000 in
theorem tw_385 : Jvm.Cond.static (⟨"java/lang/System", "arraycopy", "(Ljava/lang/Object;ILjava/lang/Object;II)V"⟩ : MethodName) ∈ Tgl := inT_2 99 rfl (by decide +kernel)
set_option maxRecDepth 20000 in
theorem tw_386 : Jvm.Cond.native (⟨"java/lang/System", "arraycopy", "(Ljava/lang/Object;ILjava/lang/Object;II)V"⟩ : MethodName) ∈ Tgl := inT_2 100 rfl (by decide +kernel)
set_option maxRecDepth 20000 in
theorem tw_387 : Jvm.Cond.methodLink "java/lang/AbstractStringBuilder" 83 (⟨"java/lang/AbstractStringBuilder", "isLatin1", "()Z"⟩ : MethodName) ∈ Tgl := inT_2 101 rfl (by decide +kernel)
set_option maxRecDepth 20000 in
theorem tw_388 : Jvm.Cond.instanceMethod (⟨"java/lang/AbstractStringBuilder", "isLatin1", "()Z"⟩ : MethodName) ∈ Tgl := inT_2 102 rfl (by decide +kernel)
set_option maxRecDepth 20000 in
theorem tw_389 : Jvm.Cond.sameMethod "java/lang/AbstractStringBuilder" "java/lang/AbstractStringBuilder" "isLatin1" "()Z" ∈ Tgl := inT_2 103 rfl (by decide +kernel)
set_option maxRecDepth 20000 in
theorem tw_390 : Jvm.Cond.selects "java/lang/StringBuilder" (⟨"java/lang/AbstractStringBuilder", "isLatin1", "()Z"⟩ : MethodName) (⟨"java/lang/AbstractStringBuilder", "isLatin1", "()Z"⟩ : MethodName) ∈ Tgl := inT_2 104 rfl (by decide +kernel)
set_option maxRecDepth 20000 in
theorem tw_391 : Jvm.Cond.code (⟨"java/lang/AbstractStringBuilder", "isLatin1", "()Z"⟩ : MethodName) prog_18_method_68_code 1 (some .boolean) ∈ Tgl := inT_2 105 rfl (by decide +kernel)
set_option maxRecDepth 20000 in
theorem tw_392 : Jvm.Cond.methodLink "java/lang/AbstractStringBuilder" 191 (⟨"java/lang/StringLatin1", "canEncode", "(C)Z"⟩ : MethodName) ∈ Tgl := inT_2 106 rfl (by decide +kernel)
set_option maxRecDepth 20000 in
theorem tw_393 : Jvm.Cond.static (⟨"java/lang/StringLatin1", "canEncode", "(C)Z"⟩ : MethodName) ∈ Tgl := inT_2 107 rfl (by decide +kernel)
set_option maxRecDepth 20000 in
theorem tw_394 : Jvm.Cond.code (⟨"java/lang/StringLatin1", "canEncode", "(C)Z"⟩ : MethodName) prog_35_method_3_code 1 (some .boolean) ∈ Tgl := inT_2 108 rfl (by decide +kernel)
set_option maxRecDepth 20000 in
theorem tw_438 : Jvm.Cond.methodLink "Twelvehundred" 324 (⟨"java/lang/StringBuilder", "toString", "()Ljava/lang/String;"⟩ : MethodName) ∈ Tgl := inT_2 152 rfl (by decide +kernel)
set_option maxRecDepth 20000 in
theorem tw_439 : Jvm.Cond.instanceMethod (⟨"java/lang/StringBuilder", "toString", "()Ljava/lang/String;"⟩ : MethodName) ∈ Tgl := inT_2 153 rfl (by decide +kernel)
set_option maxRecDepth 20000 in
theorem tw_440 : Jvm.Cond.selects "java/lang/StringBuilder" (⟨"java/lang/StringBuilder", "toString", "()Ljava/lang/String;"⟩ : MethodName) (⟨"java/lang/StringBuilder", "toString", "()Ljava/lang/String;"⟩ : MethodName) ∈ Tgl := inT_2 154 rfl (by decide +kernel)
set_option maxRecDepth 20000 in
theorem tw_441 : Jvm.Cond.code (⟨"java/lang/StringBuilder", "toString", "()Ljava/lang/String;"⟩ : MethodName) prog_34_method_42_code 1 (some (.object "java/lang/String")) ∈ Tgl := inT_2 155 rfl (by decide +kernel)
set_option maxRecDepth 20000 in
theorem tw_442 : Jvm.Cond.classLink "java/lang/StringBuilder" 18 "java/lang/String" ∈ Tgl := inT_2 156 rfl (by decide +kernel)
set_option maxRecDepth 20000 in
theorem tw_443 : Jvm.Cond.instantiable "java/lang/String" 4 ∈ Tgl := inT_2 157 rfl (by decide +kernel)
set_option maxRecDepth 20000 in
theorem tw_444 : Jvm.Cond.methodLink "java/lang/StringBuilder" 137 (⟨"java/lang/String", "<init>", "(Ljava/lang/StringBuilder;)V"⟩ : MethodName) ∈ Tgl := inT_2 158 rfl (by decide +kernel)
set_option maxRecDepth 20000 in
theorem tw_445 : Jvm.Cond.instanceMethod (⟨"java/lang/String", "<init>", "(Ljava/lang/StringBuilder;)V"⟩ : MethodName) ∈ Tgl := inT_2 159 rfl (by decide +kernel)
set_option maxRecDepth 20000 in
theorem tw_446 : Jvm.Cond.code (⟨"java/lang/String", "<init>", "(Ljava/lang/StringBuilder;)V"⟩ : MethodName) prog_33_method_53_code 2 (none) ∈ Tgl := inT_2 160 rfl (by decide +kernel)
set_option maxRecDepth 20000 in
theorem tw_447 : Jvm.Cond.methodLink "java/lang/String" 489 (⟨"java/lang/String", "<init>", "(Ljava/lang/AbstractStringBuilder;Ljava/lang/Void;)V"⟩ : MethodName) ∈ Tgl := inT_2 161 rfl (by decide +kernel)
set_option maxRecDepth 20000 in
theorem tw_448 : Jvm.Cond.instanceMethod (⟨"java/lang/String", "<init>", "(Ljava/lang/AbstractStringBuilder;Ljava/lang/Void;)V"⟩ : MethodName) ∈ Tgl := inT_2 162 rfl (by decide +kernel)
set_option maxRecDepth 20000 in
theorem tw_449 : Jvm.Cond.code (⟨"java/lang/String", "<init>", "(Ljava/lang/AbstractStringBuilder;Ljava/lang/Void;)V"⟩ : MethodName) prog_33_method_150_code 5 (none) ∈ Tgl := inT_2 163 rfl (by decide +kernel)
set_option maxRecDepth 20000 in
theorem tw_450 : Jvm.Cond.methodLink "java/lang/String" 1 (⟨"java/lang/Object", "<init>", "()V"⟩ : MethodName) ∈ Tgl := inT_2 164 rfl (by decide +kernel)
set_option maxRecDepth 20000 in
theorem tw_451 : Jvm.Cond.methodLink "java/lang/String" 552 (⟨"java/lang/AbstractStringBuilder", "getValue", "()[B"⟩ : MethodName) ∈ Tgl := inT_2 165 rfl (by decide +kernel)
set_option maxRecDepth 20000 in
theorem tw_452 : Jvm.Cond.instanceMethod (⟨"java/lang/AbstractStringBuilder", "getValue", "()[B"⟩ : MethodName) ∈ Tgl := inT_2 166 rfl (by decide +kernel)
set_option maxRecDepth 20000 in
theorem tw_453 : Jvm.Cond.sameMethod "java/lang/AbstractStringBuilder" "java/lang/AbstractStringBuilder" "getValue" "()[B" ∈ Tgl := inT_2 167 rfl (by decide +kernel)
set_option maxRecDepth 20000 in
theorem tw_454 : Jvm.Cond.selects "java/lang/StringBuilder" (⟨"java/lang/AbstractStringBuilder", "getValue", "()[B"⟩ : MethodName) (⟨"java/lang/AbstractStringBuilder", "getValue", "()[B"⟩ : MethodName) ∈ Tgl := inT_2 168 rfl (by decide +kernel)
set_option maxRecDepth 20000 in
theorem tw_455 : Jvm.Cond.code (⟨"java/lang/AbstractStringBuilder", "getValue", "()[B"⟩ : MethodName) prog_18_method_64_code 1 (some (.array .byte)) ∈ Tgl := inT_2 169 rfl (by decide +kernel)
set_option maxRecDepth 20000 in
theorem tw_456 : Jvm.Cond.methodLink "java/lang/String" 549 (⟨"java/lang/AbstractStringBuilder", "length", "()I"⟩ : MethodName) ∈ Tgl := inT_2 170 rfl (by decide +kernel)
set_option maxRecDepth 20000 in
theorem tw_457 : Jvm.Cond.instanceMethod (⟨"java/lang/AbstractStringBuilder", "length", "()I"⟩ : MethodName) ∈ Tgl := inT_2 171 rfl (by decide +kernel)
set_option maxRecDepth 20000 in
theorem tw_458 : Jvm.Cond.sameMethod "java/lang/AbstractStringBuilder" "java/lang/AbstractStringBuilder" "length" "()I" ∈ Tgl := inT_2 172 rfl (by decide +kernel)
set_option maxRecDepth 20000 in
theorem tw_459 : Jvm.Cond.selects "java/lang/StringBuilder" (⟨"java/lang/AbstractStringBuilder", "length", "()I"⟩ : MethodName) (⟨"java/lang/StringBuilder", "length", "()I"⟩ : MethodName) ∈ Tgl := inT_2 173 rfl (by decide +kernel)
set_option maxRecDepth 20000 in
theorem tw_460 : Jvm.Cond.instanceMethod (⟨"java/lang/StringBuilder", "length", "()I"⟩ : MethodName) ∈ Tgl := inT_2 174 rfl (by decide +kernel)
set_option maxRecDepth 20000 in
theorem tw_461 : Jvm.Cond.code (⟨"java/lang/StringBuilder", "length", "()I"⟩ : MethodName) prog_34_method_93_code 1 (some .int) ∈ Tgl := inT_2 175 rfl (by decide +kernel)
set_option maxRecDepth 20000 in
theorem tw_462 : Jvm.Cond.methodLink "java/lang/StringBuilder" 343 (⟨"java/lang/AbstractStringBuilder", "length", "()I"⟩ : MethodName) ∈ Tgl := inT_2 176 rfl (by decide +kernel)
set_option maxRecDepth 20000 in
theorem tw_463 : Jvm.Cond.code (⟨"java/lang/AbstractStringBuilder", "length", "()I"⟩ : MethodName) prog_18_method_6_code 1 (some .int) ∈ Tgl := inT_2 177 rfl (by decide +kernel)
set_option maxRecDepth 20000 in
theorem tw_464 : Jvm.Cond.methodLink "java/lang/String" 1047 (⟨"java/lang/AbstractStringBuilder", "isLatin1", "()Z"⟩ : MethodName) ∈ Tgl := inT_2 178 rfl (by decide +kernel)
set_option maxRecDepth 20000 in
theorem tw_465 : Jvm.Cond.methodLink "java/lang/String" 54 (⟨"java/util/Arrays", "copyOfRange", "([BII)[B"⟩ : MethodName) ∈ Tgl := inT_2 179 rfl (by decide +kernel)
set_option maxRecDepth 20000 in
theorem tw_466 : Jvm.Cond.static (⟨"java/util/Arrays", "copyOfRange", "([BII)[B"⟩ : MethodName) ∈ Tgl := inT_2 180 rfl (by decide +kernel)
set_option maxRecDepth 20000 in
theorem tw_467 : Jvm.Cond.code (⟨"java/util/Arrays", "copyOfRange", "([BII)[B"⟩ : MethodName) prog_45_method_132_code 3 (some (.array .byte)) ∈ Tgl := inT_2 181 rfl (by decide +kernel)
set_option maxRecDepth 20000 in
theorem tw_468 : Jvm.Cond.methodLink "java/util/Arrays" 339 (⟨"java/util/Arrays", "copyOfRangeByte", "([BII)[B"⟩ : MethodName) ∈ Tgl := inT_2 182 rfl (by decide +kernel)
set_option maxRecDepth 20000 in
theorem tw_469 : Jvm.Cond.static (⟨"java/util/Arrays", "copyOfRangeByte", "([BII)[B"⟩ : MethodName) ∈ Tgl := inT_2 183 rfl (by decide +kernel)
set_option maxRecDepth 20000 in
theorem tw_470 : Jvm.Cond.code (⟨"java/util/Arrays", "copyOfRangeByte", "([BII)[B"⟩ : MethodName) prog_45_method_133_code 5 (some (.array .byte)) ∈ Tgl := inT_2 184 rfl (by decide +kernel)
set_option maxRecDepth 20000 in
theorem tw_471 : Jvm.Cond.methodLink "java/util/Arrays" 343 (⟨"java/util/Arrays", "checkLength", "(II)V"⟩ : MethodName) ∈ Tgl := inT_2 185 rfl (by decide +kernel)
set_option maxRecDepth 20000 in
theorem tw_472 : Jvm.Cond.static (⟨"java/util/Arrays", "checkLength", "(II)V"⟩ : MethodName) ∈ Tgl := inT_2 186 rfl (by decide +kernel)
set_option maxRecDepth 20000 in
theorem tw_473 : Jvm.Cond.code (⟨"java/util/Arrays", "checkLength", "(II)V"⟩ : MethodName) prog_45_method_131_code 2 (none) ∈ Tgl := inT_2 187 rfl (by decide +kernel)
set_option maxRecDepth 20000 in
theorem tw_474 : Jvm.Cond.classLink "java/util/Arrays" 43 "java/lang/IllegalArgumentException" ∈ Tgl := inT_2 188 rfl (by decide +kernel)
set_option maxRecDepth 20000 in
theorem tw_475 : Jvm.Cond.instantiable "java/lang/IllegalArgumentException" 6 ∈ Tgl := inT_2 189 rfl (by decide +kernel)
set_option maxRecDepth 20000 in
theorem tw_483 : Jvm.Cond.selects "java/lang/IllegalArgumentException" (⟨"java/lang/Throwable", "fillInStackTrace", "(I)Ljava/lang/Throwable;"⟩ : MethodName) (⟨"java/lang/Throwable", "fillInStackTrace", "(I)Ljava/lang/Throwable;"⟩ : MethodName) ∈ Tgl := inT_2 197 rfl (by decide +kernel)
set_option maxRecDepth 20000 in
theorem tw_484 : Jvm.Cond.selects "java/lang/IllegalArgumentException" (⟨"java/lang/Throwable", "fillInStackTrace", "()Ljava/lang/Throwable;"⟩ : MethodName) (⟨"java/lang/Throwable", "fillInStackTrace", "()Ljava/lang/Throwable;"⟩ : MethodName) ∈ Tgl := inT_2 198 rfl (by decide +kernel)
set_option maxRecDepth 20000 in
theorem tw_485 : Jvm.Cond.lays "java/lang/IllegalArgumentException" "java/lang/Throwable" "cause" "Ljava/lang/Throwable;" ∈ Tgl := inT_2 199 rfl (by decide +kernel)
set_option maxRecDepth 20000 in
theorem tw_486 : Jvm.Cond.lays "java/lang/Throwable" "java/lang/Throwable" "cause" "Ljava/lang/Throwable;" ∈ Tgl := inT_2 200 rfl (by decide +kernel)
set_option maxRecDepth 20000 in
theorem tw_487 : Jvm.Cond.lays "java/lang/IllegalArgumentException" "java/lang/Throwable" "stackTrace" "[Ljava/lang/StackTraceElement;" ∈ Tgl := inT_2 201 rfl (by decide +kernel)
set_option maxRecDepth 20000 in
theorem tw_488 : Jvm.Cond.lays "java/lang/Throwable" "java/lang/Throwable" "stackTrace" "[Ljava/lang/StackTraceElement;" ∈ Tgl := inT_2 202 rfl (by decide +kernel)
set_option maxRecDepth 20000 in
theorem tw_489 : Jvm.Cond.lays "java/lang/IllegalArgumentException" "java/lang/Throwable" "suppressedExceptions" "Ljava/util/List;" ∈ Tgl := inT_2 203 rfl (by decide +kernel)
set_option maxRecDepth 20000 in
theorem tw_490 : Jvm.Cond.lays "java/lang/Throwable" "java/lang/Throwable" "suppressedExceptions" "Ljava/util/List;" ∈ Tgl := inT_2 204 rfl (by decide +kernel)
set_option maxRecDepth 20000 in
theorem tw_491 : Jvm.Cond.lays "java/lang/IllegalArgumentException" "java/lang/Throwable" "detailMessage" "Ljava/lang/String;" ∈ Tgl := inT_2 205 rfl (by decide +kernel)
set_option maxRecDepth 20000 in
theorem tw_492 : Jvm.Cond.lays "java/lang/Throwable" "java/lang/Throwable" "detailMessage" "Ljava/lang/String;" ∈ Tgl := inT_2 206 rfl (by decide +kernel)
set_option maxRecDepth 20000 in
theorem tw_493 : Jvm.Cond.lays "java/lang/IllegalArgumentException" "java/lang/Throwable" "backtrace" "Ljava/lang/Object;" ∈ Tgl := inT_2 207 rfl (by decide +kernel)
set_option maxRecDepth 20000 in
theorem tw_494 : Jvm.Cond.lays "java/lang/Throwable" "java/lang/Throwable" "backtrace" "Ljava/lang/Object;" ∈ Tgl := inT_2 208 rfl (by decide +kernel)
set_option maxRecDepth 20000 in
theorem tw_495 : Jvm.Cond.fieldLink "java/lang/Throwable" 198 "java/lang/Throwable" "backtrace" "Ljava/lang/Object;" ∈ Tgl := inT_2 209 rfl (by decide +kernel)
set_option maxRecDepth 20000 in
theorem tw_496 : Jvm.Cond.superclass "java/lang/Throwable" "java/lang/Object" ∈ Tgl := inT_2 210 rfl (by decide +kernel)
set_option maxRecDepth 20000 in
theorem tw_497 : Jvm.Cond.instanceMethod (⟨"java/lang/Throwable", "<init>", "()V"⟩ : MethodName) ∈ Tgl := inT_2 211 rfl (by decide +kernel)
set_option maxRecDepth 20000 in
theorem tw_498 : Jvm.Cond.code (⟨"java/lang/Throwable", "<init>", "()V"⟩ : MethodName) prog_38_method_1_code 1 (none) ∈ Tgl := inT_2 212 rfl (by decide +kernel)
set_option maxRecDepth 20000 in
theorem tw_499 : Jvm.Cond.methodLink "java/lang/Throwable" 1 (⟨"java/lang/Object", "<init>", "()V"⟩ : MethodName) ∈ Tgl := inT_2 213 rfl (by decide +kernel)
set_option maxRecDepth 20000 in
theorem tw_500 : Jvm.Cond.fieldLink "java/lang/Throwable" 13 "java/lang/Throwable" "UNASSIGNED_STACK" "[Ljava/lang/StackTraceElement;" ∈ Tgl := inT_2 214 rfl (by decide +kernel)
set_option maxRecDepth 20000 in
theorem tw_502 : Jvm.Cond.fieldLink "java/lang/Throwable" 20 "java/lang/Throwable" "SUPPRESSED_SENTINEL" "Ljava/util/List;" ∈ Tgl := inT_2 216 rfl (by decide +kernel)
set_option maxRecDepth 20000 in
theorem tw_504 : Jvm.Cond.methodLink "java/lang/Throwable" 27 (⟨"java/lang/Throwable", "fillInStackTrace", "()Ljava/lang/Throwable;"⟩ : MethodName) ∈ Tgl := inT_2 218 rfl (by decide +kernel)
set_option maxRecDepth 20000 in
theorem tw_505 : Jvm.Cond.instanceMethod (⟨"java/lang/Throwable", "fillInStackTrace", "()Ljava/lang/Throwable;"⟩ : MethodName) ∈ Tgl := inT_2 219 rfl (by decide +kernel)
set_option maxRecDepth 20000 in
theorem tw_506 : Jvm.Cond.sameMethod "java/lang/Throwable" "java/lang/Throwable" "fillInStackTrace" "()Ljava/lang/Throwable;" ∈ Tgl := inT_2 220 rfl (by decide +kernel)
set_option maxRecDepth 20000 in
theorem tw_507 : Jvm.Cond.selects "java/lang/IllegalStateException" (⟨"java/lang/Throwable", "fillInStackTrace", "()Ljava/lang/Throwable;"⟩ : MethodName) (⟨"java/lang/Throwable", "fillInStackTrace", "()Ljava/lang/Throwable;"⟩ : MethodName) ∈ Tgl := inT_2 221 rfl (by decide +kernel)
set_option maxRecDepth 20000 in
theorem tw_508 : Jvm.Cond.selects "java/lang/IndexOutOfBoundsException" (⟨"java/lang/Throwable", "fillInStackTrace", "()Ljava/lang/Throwable;"⟩ : MethodName) (⟨"java/lang/Throwable", "fillInStackTrace", "()Ljava/lang/Throwable;"⟩ : MethodName) ∈ Tgl := inT_2 222 rfl (by decide +kernel)
set_option maxRecDepth 20000 in
theorem tw_510 : Jvm.Cond.methodLink "java/lang/Throwable" 202 (⟨"java/lang/Throwable", "fillInStackTrace", "(I)Ljava/lang/Throwable;"⟩ : MethodName) ∈ Tgl := inT_2 224 rfl (by decide +kernel)
set_option maxRecDepth 20000 in
theorem tw_512 : Jvm.Cond.instanceMethod (⟨"java/lang/Throwable", "fillInStackTrace", "(I)Ljava/lang/Throwable;"⟩ : MethodName) ∈ Tgl := inT_2 226 rfl (by decide +kernel)
set_option maxRecDepth 20000 in
theorem tw_513 : Jvm.Cond.instantiable "java/lang/Throwable" 6 ∈ Tgl := inT_2 227 rfl (by decide +kernel)
set_option maxRecDepth 20000 in
theorem tw_514 : Jvm.Cond.native (⟨"java/lang/Throwable", "fillInStackTrace", "(I)Ljava/lang/Throwable;"⟩ : MethodName) ∈ Tgl := inT_2 228 rfl (by decide +kernel)
set_option maxRecDepth 20000 in
theorem tw_567 : Jvm.Cond.instanceMethod (⟨"java/lang/String", "length", "()I"⟩ : MethodName) ∈ Tgl := inT_3 41 rfl (by decide +kernel)
set_option maxRecDepth 20000 in
theorem tw_568 : Jvm.Cond.selects "java/lang/String" (⟨"java/lang/String", "length", "()I"⟩ : MethodName) (⟨"java/lang/String", "length", "()I"⟩ : MethodName) ∈ Tgl := inT_3 42 rfl (by decide +kernel)
set_option maxRecDepth 20000 in
theorem tw_569 : Jvm.Cond.code (⟨"java/lang/String", "length", "()I"⟩ : MethodName) prog_33_method_54_code 1 (some .int) ∈ Tgl := inT_3 43 rfl (by decide +kernel)
set_option maxRecDepth 20000 in
theorem tw_570 : Jvm.Cond.methodLink "java/lang/String" 335 (⟨"java/lang/String", "coder", "()B"⟩ : MethodName) ∈ Tgl := inT_3 44 rfl (by decide +kernel)
set_option maxRecDepth 20000 in
theorem tw_571 : Jvm.Cond.instanceMethod (⟨"java/lang/String", "coder", "()B"⟩ : MethodName) ∈ Tgl := inT_3 45 rfl (by decide +kernel)
set_option maxRecDepth 20000 in
theorem tw_572 : Jvm.Cond.selects "java/lang/String" (⟨"java/lang/String", "coder", "()B"⟩ : MethodName) (⟨"java/lang/String", "coder", "()B"⟩ : MethodName) ∈ Tgl := inT_3 46 rfl (by decide +kernel)
set_option maxRecDepth 20000 in
theorem tw_573 : Jvm.Cond.code (⟨"java/lang/String", "coder", "()B"⟩ : MethodName) prog_33_method_152_code 1 (some .byte) ∈ Tgl := inT_3 47 rfl (by decide +kernel)
set_option maxRecDepth 20000 in
theorem tw_574 : Jvm.Cond.fieldLink "java/lang/String" 38 "java/lang/String" "COMPACT_STRINGS" "Z" ∈ Tgl := inT_3 48 rfl (by decide +kernel)
set_option maxRecDepth 20000 in
theorem tw_591 : Jvm.Cond.methodLink "java/util/Arrays" 65 (⟨"java/lang/IllegalArgumentException", "<init>", "(Ljava/lang/String;)V"⟩ : MethodName) ∈ Tgl := inT_3 65 rfl (by decide +kernel)
set_option maxRecDepth 20000 in
theorem tw_592 : Jvm.Cond.instanceMethod (⟨"java/lang/IllegalArgumentException", "<init>", "(Ljava/lang/String;)V"⟩ : MethodName) ∈ Tgl := inT_3 66 rfl (by decide +kernel)
set_option maxRecDepth 20000 in
theorem tw_593 : Jvm.Cond.code (⟨"java/lang/IllegalArgumentException", "<init>", "(Ljava/lang/String;)V"⟩ : MethodName) prog_24_method_2_code 2 (none) ∈ Tgl := inT_3 67 rfl (by decide +kernel)
set_option maxRecDepth 20000 in
theorem tw_594 : Jvm.Cond.methodLink "java/lang/IllegalArgumentException" 7 (⟨"java/lang/RuntimeException", "<init>", "(Ljava/lang/String;)V"⟩ : MethodName) ∈ Tgl := inT_3 68 rfl (by decide +kernel)
set_option maxRecDepth 20000 in
theorem tw_595 : Jvm.Cond.instanceMethod (⟨"java/lang/RuntimeException", "<init>", "(Ljava/lang/String;)V"⟩ : MethodName) ∈ Tgl := inT_3 69 rfl (by decide +kernel)
set_option maxRecDepth 20000 in
theorem tw_596 : Jvm.Cond.code (⟨"java/lang/RuntimeException", "<init>", "(Ljava/lang/String;)V"⟩ : MethodName) prog_32_method_2_code 2 (none) ∈ Tgl := inT_3 70 rfl (by decide +kernel)
set_option maxRecDepth 20000 in
theorem tw_597 : Jvm.Cond.methodLink "java/lang/RuntimeException" 7 (⟨"java/lang/Exception", "<init>", "(Ljava/lang/String;)V"⟩ : MethodName) ∈ Tgl := inT_3 71 rfl (by decide +kernel)
set_option maxRecDepth 20000 in
theorem tw_598 : Jvm.Cond.instanceMethod (⟨"java/lang/Exception", "<init>", "(Ljava/lang/String;)V"⟩ : MethodName) ∈ Tgl := inT_3 72 rfl (by decide +kernel)
set_option maxRecDepth 20000 in
theorem tw_599 : Jvm.Cond.code (⟨"java/lang/Exception", "<init>", "(Ljava/lang/String;)V"⟩ : MethodName) prog_23_method_2_code 2 (none) ∈ Tgl := inT_3 73 rfl (by decide +kernel)
set_option maxRecDepth 20000 in
theorem tw_600 : Jvm.Cond.methodLink "java/lang/Exception" 7 (⟨"java/lang/Throwable", "<init>", "(Ljava/lang/String;)V"⟩ : MethodName) ∈ Tgl := inT_3 74 rfl (by decide +kernel)
set_option maxRecDepth 20000 in
theorem tw_601 : Jvm.Cond.instanceMethod (⟨"java/lang/Throwable", "<init>", "(Ljava/lang/String;)V"⟩ : MethodName) ∈ Tgl := inT_3 75 rfl (by decide +kernel)
set_option maxRecDepth 20000 in
theorem tw_602 : Jvm.Cond.code (⟨"java/lang/Throwable", "<init>", "(Ljava/lang/String;)V"⟩ : MethodName) prog_38_method_2_code 2 (none) ∈ Tgl := inT_3 76 rfl (by decide +kernel)
set_option maxRecDepth 20000 in
theorem tw_604 : Jvm.Cond.fieldLink "java/lang/Throwable" 31 "java/lang/Throwable" "detailMessage" "Ljava/lang/String;" ∈ Tgl := inT_3 78 rfl (by decide +kernel)
set_option maxRecDepth 20000 in
theorem tw_605 : Jvm.Cond.fieldLink "java/lang/Throwable" 7 "java/lang/Throwable" "cause" "Ljava/lang/Throwable;" ∈ Tgl := inT_3 79 rfl (by decide +kernel)
set_option maxRecDepth 20000 in
theorem tw_606 : Jvm.Cond.fieldLink "java/lang/Throwable" 17 "java/lang/Throwable" "stackTrace" "[Ljava/lang/StackTraceElement;" ∈ Tgl := inT_3 80 rfl (by decide +kernel)
set_option maxRecDepth 20000 in
theorem tw_607 : Jvm.Cond.fieldLink "java/lang/Throwable" 24 "java/lang/Throwable" "suppressedExceptions" "Ljava/util/List;" ∈ Tgl := inT_3 81 rfl (by decide +kernel)
set_option maxRecDepth 20000 in
theorem tw_612 : Jvm.Cond.lays "java/lang/IllegalArgumentException" "java/lang/Throwable" "depth" "I" ∈ Tgl := inT_3 86 rfl (by decide +kernel)
set_option maxRecDepth 20000 in
theorem tw_615 : Jvm.Cond.superclass "java/lang/IllegalArgumentException" "java/lang/RuntimeException" ∈ Tgl := inT_3 89 rfl (by decide +kernel)
set_option maxRecDepth 20000 in
theorem tw_629 : Jvm.Cond.fieldLink "java/lang/String" 9 "java/lang/String" "value" "[B" ∈ Tgl := inT_3 103 rfl (by decide +kernel)
set_option maxRecDepth 20000 in
theorem tw_630 : Jvm.Cond.fieldLink "java/lang/String" 15 "java/lang/String" "coder" "B" ∈ Tgl := inT_3 104 rfl (by decide +kernel)
set_option maxRecDepth 20000 in
theorem tw_631 : Jvm.Cond.laysFinal "java/lang/String" "java/lang/String" "value" "[B" ∈ Tgl := inT_3 105 rfl (by decide +kernel)
set_option maxRecDepth 20000 in
theorem tw_633 : Jvm.Cond.laysFinal "java/lang/String" "java/lang/String" "coder" "B" ∈ Tgl := inT_3 107 rfl (by decide +kernel)
set_option maxRecDepth 20000 in
theorem tw_635 : Jvm.Cond.lays "java/lang/String" "java/lang/String" "hash" "I" ∈ Tgl := inT_3 109 rfl (by decide +kernel)
set_option maxRecDepth 20000 in
theorem tw_637 : Jvm.Cond.lays "java/lang/String" "java/lang/String" "hashIsZero" "Z" ∈ Tgl := inT_3 111 rfl (by decide +kernel)
set_option maxRecDepth 20000 in
theorem tw_640 : Jvm.Cond.methodLink "TwelvehundredLaw" 171 (⟨"Twelvehundred", "chosen", "()I"⟩ : MethodName) ∈ Tgl := inT_3 114 rfl (by decide +kernel)
set_option maxRecDepth 20000 in
theorem tw_641 : Jvm.Cond.instanceMethod (⟨"Twelvehundred", "chosen", "()I"⟩ : MethodName) ∈ Tgl := inT_3 115 rfl (by decide +kernel)
set_option maxRecDepth 20000 in
theorem tw_642 : Jvm.Cond.selects "Twelvehundred" (⟨"Twelvehundred", "chosen", "()I"⟩ : MethodName) (⟨"Twelvehundred", "chosen", "()I"⟩ : MethodName) ∈ Tgl := inT_3 116 rfl (by decide +kernel)
set_option maxRecDepth 20000 in
theorem tw_643 : Jvm.Cond.code (⟨"Twelvehundred", "chosen", "()I"⟩ : MethodName) prog_1_method_22_code 1 (some .int) ∈ Tgl := inT_3 117 rfl (by decide +kernel)
set_option maxRecDepth 20000 in
theorem tw_644 : Jvm.Cond.methodLink "Twelvehundred" 264 (⟨"Twelvehundred$Rescue", "choice", "()I"⟩ : MethodName) ∈ Tgl := inT_3 118 rfl (by decide +kernel)
set_option maxRecDepth 20000 in
theorem tw_645 : Jvm.Cond.instanceMethod (⟨"Twelvehundred$Rescue", "choice", "()I"⟩ : MethodName) ∈ Tgl := inT_3 119 rfl (by decide +kernel)
set_option maxRecDepth 20000 in
theorem tw_646 : Jvm.Cond.selects "Twelvehundred$Rescue" (⟨"Twelvehundred$Rescue", "choice", "()I"⟩ : MethodName) (⟨"Twelvehundred$Rescue", "choice", "()I"⟩ : MethodName) ∈ Tgl := inT_3 120 rfl (by decide +kernel)
set_option maxRecDepth 20000 in
theorem tw_647 : Jvm.Cond.code (⟨"Twelvehundred$Rescue", "choice", "()I"⟩ : MethodName) prog_10_method_8_code 5 (some .int) ∈ Tgl := inT_3 121 rfl (by decide +kernel)
set_option maxRecDepth 20000 in
theorem tw_648 : Jvm.Cond.methodLink "Twelvehundred$Rescue" 26 (⟨"java/util/ArrayList", "size", "()I"⟩ : MethodName) ∈ Tgl := inT_3 122 rfl (by decide +kernel)
set_option maxRecDepth 20000 in
theorem tw_649 : Jvm.Cond.methodLink "Twelvehundred$Rescue" 32 (⟨"java/util/ArrayList", "get", "(I)Ljava/lang/Object;"⟩ : MethodName) ∈ Tgl := inT_3 123 rfl (by decide +kernel)
set_option maxRecDepth 20000 in
theorem tw_650 : Jvm.Cond.classLink "Twelvehundred$Rescue" 36 "Twelvehundred$Household" ∈ Tgl := inT_3 124 rfl (by decide +kernel)
set_option maxRecDepth 20000 in
theorem tw_651 : Jvm.Cond.methodLink "Twelvehundred$Rescue" 70 (⟨"Twelvehundred$Rescue", "canReach", "(I)Z"⟩ : MethodName) ∈ Tgl := inT_3 125 rfl (by decide +kernel)
set_option maxRecDepth 20000 in
theorem tw_652 : Jvm.Cond.instanceMethod (⟨"Twelvehundred$Rescue", "canReach", "(I)Z"⟩ : MethodName) ∈ Tgl := inT_3 126 rfl (by decide +kernel)
set_option maxRecDepth 20000 in
theorem tw_653 : Jvm.Cond.selects "Twelvehundred$Rescue" (⟨"Twelvehundred$Rescue", "canReach", "(I)Z"⟩ : MethodName) (⟨"Twelvehundred$Rescue", "canReach", "(I)Z"⟩ : MethodName) ∈ Tgl := inT_3 127 rfl (by decide +kernel)
set_option maxRecDepth 20000 in
theorem tw_654 : Jvm.Cond.code (⟨"Twelvehundred$Rescue", "canReach", "(I)Z"⟩ : MethodName) prog_10_method_6_code 3 (some .boolean) ∈ Tgl := inT_3 128 rfl (by decide +kernel)
set_option maxRecDepth 20000 in
theorem tw_656 : Jvm.Cond.static (⟨"Twelvehundred", "hasMember", "(II)Z"⟩ : MethodName) ∈ Tgl := inT_3 130 rfl (by decide +kernel)
set_option maxRecDepth 20000 in
theorem tw_657 : Jvm.Cond.code (⟨"Twelvehundred", "hasMember", "(II)Z"⟩ : MethodName) prog_1_method_31_code 2 (some .boolean) ∈ Tgl := inT_3 131 rfl (by decide +kernel)
set_option maxRecDepth 20000 in
theorem tw_658 : Jvm.Cond.methodLink "Twelvehundred$Rescue" 62 (⟨"Twelvehundred$Rescue", "canReachAsLateAs", "(LTwelvehundred$Household;I)Z"⟩ : MethodName) ∈ Tgl := inT_3 132 rfl (by decide +kernel)
set_option maxRecDepth 20000 in
theorem tw_660 : Jvm.Cond.instanceMethod (⟨"Twelvehundred$Rescue", "canReachAsLateAs", "(LTwelvehundred$Household;I)Z"⟩ : MethodName) ∈ Tgl := inT_3 134 rfl (by decide +kernel)
set_option maxRecDepth 20000 in
theorem tw_661 : Jvm.Cond.code (⟨"Twelvehundred$Rescue", "canReachAsLateAs", "(LTwelvehundred$Household;I)Z"⟩ : MethodName) prog_10_method_7_code 6 (some .boolean) ∈ Tgl := inT_3 135 rfl (by decide +kernel)
set_option maxRecDepth 20000 in
theorem tw_662 : Jvm.Cond.methodLink "Twelvehundred$Rescue" 66 (⟨"Twelvehundred$River", "limitOf", "(LTwelvehundred$Street;)I"⟩ : MethodName) ∈ Tgl := inT_3 136 rfl (by decide +kernel)
set_option maxRecDepth 20000 in
theorem tw_663 : Jvm.Cond.instanceMethod (⟨"Twelvehundred$River", "limitOf", "(LTwelvehundred$Street;)I"⟩ : MethodName) ∈ Tgl := inT_3 137 rfl (by decide +kernel)
set_option maxRecDepth 20000 in
theorem tw_664 : Jvm.Cond.selects "Twelvehundred$River" (⟨"Twelvehundred$River", "limitOf", "(LTwelvehundred$Street;)I"⟩ : MethodName) (⟨"Twelvehundred$River", "limitOf", "(LTwelvehundred$Street;)I"⟩ : MethodName) ∈ Tgl := inT_3 138 rfl (by decide +kernel)
set_option maxRecDepth 20000 in
theorem tw_665 : Jvm.Cond.code (⟨"Twelvehundred$River", "limitOf", "(LTwelvehundred$Street;)I"⟩ : MethodName) prog_11_method_4_code 2 (some .int) ∈ Tgl := inT_3 139 rfl (by decide +kernel)
set_option maxRecDepth 20000 in
theorem tw_666 : Jvm.Cond.methodLink "Twelvehundred$River" 35 (⟨"Twelvehundred$River", "floods", "(LTwelvehundred$Street;)Z"⟩ : MethodName) ∈ Tgl := inT_3 140 rfl (by decide +kernel)
set_option maxRecDepth 20000 in
theorem tw_667 : Jvm.Cond.instanceMethod (⟨"Twelvehundred$River", "floods", "(LTwelvehundred$Street;)Z"⟩ : MethodName) ∈ Tgl := inT_3 141 rfl (by decide +kernel)
set_option maxRecDepth 20000 in
theorem tw_668 : Jvm.Cond.selects "Twelvehundred$River" (⟨"Twelvehundred$River", "floods", "(LTwelvehundred$Street;)Z"⟩ : MethodName) (⟨"Twelvehundred$River", "floods", "(LTwelvehundred$Street;)Z"⟩ : MethodName) ∈ Tgl := inT_3 142 rfl (by decide +kernel)
set_option maxRecDepth 20000 in
theorem tw_669 : Jvm.Cond.code (⟨"Twelvehundred$River", "floods", "(LTwelvehundred$Street;)Z"⟩ : MethodName) prog_11_method_3_code 2 (some .boolean) ∈ Tgl := inT_3 143 rfl (by decide +kernel)
set_option maxRecDepth 20000 in
theorem tw_671 : Jvm.Cond.static (⟨"Twelvehundred", "oneIf", "(Z)I"⟩ : MethodName) ∈ Tgl := inT_3 145 rfl (by decide +kernel)
set_option maxRecDepth 20000 in
theorem tw_672 : Jvm.Cond.code (⟨"Twelvehundred", "oneIf", "(Z)I"⟩ : MethodName) prog_1_method_30_code 1 (some .int) ∈ Tgl := inT_3 146 rfl (by decide +kernel)
set_option maxRecDepth 20000 in
theorem tw_673 : Jvm.Cond.methodLink "Twelvehundred" 278 (⟨"Twelvehundred$Rescue", "peopleOf", "(I)I"⟩ : MethodName) ∈ Tgl := inT_3 147 rfl (by decide +kernel)
set_option maxRecDepth 20000 in
theorem tw_674 : Jvm.Cond.instanceMethod (⟨"Twelvehundred$Rescue", "peopleOf", "(I)I"⟩ : MethodName) ∈ Tgl := inT_3 148 rfl (by decide +kernel)
set_option maxRecDepth 20000 in
theorem tw_675 : Jvm.Cond.selects "Twelvehundred$Rescue" (⟨"Twelvehundred$Rescue", "peopleOf", "(I)I"⟩ : MethodName) (⟨"Twelvehundred$Rescue", "peopleOf", "(I)I"⟩ : MethodName) ∈ Tgl := inT_3 149 rfl (by decide +kernel)
set_option maxRecDepth 20000 in
theorem tw_676 : Jvm.Cond.code (⟨"Twelvehundred$Rescue", "peopleOf", "(I)I"⟩ : MethodName) prog_10_method_5_code 4 (some .int) ∈ Tgl := inT_3 150 rfl (by decide +kernel)
set_option maxRecDepth 20000 in
theorem tw_677 : Jvm.Cond.methodLink "TwelvehundredLaw" 175 (⟨"Twelvehundred", "isStable", "(I)Z"⟩ : MethodName) ∈ Tgl := inT_3 151 rfl (by decide +kernel)
set_option maxRecDepth 20000 in
theorem tw_678 : Jvm.Cond.instanceMethod (⟨"Twelvehundred", "isStable", "(I)Z"⟩ : MethodName) ∈ Tgl := inT_3 152 rfl (by decide +kernel)
set_option maxRecDepth 20000 in
theorem tw_679 : Jvm.Cond.selects "Twelvehundred" (⟨"Twelvehundred", "isStable", "(I)Z"⟩ : MethodName) (⟨"Twelvehundred", "isStable", "(I)Z"⟩ : MethodName) ∈ Tgl := inT_3 153 rfl (by decide +kernel)
set_option maxRecDepth 20000 in
theorem tw_680 : Jvm.Cond.code (⟨"Twelvehundred", "isStable", "(I)Z"⟩ : MethodName) prog_1_method_23_code 2 (some .boolean) ∈ Tgl := inT_3 154 rfl (by decide +kernel)
set_option maxRecDepth 20000 in
theorem tw_681 : Jvm.Cond.methodLink "Twelvehundred" 333 (⟨"Twelvehundred$Placing", "read", "(I)Z"⟩ : MethodName) ∈ Tgl := inT_3 155 rfl (by decide +kernel)
set_option maxRecDepth 20000 in
theorem tw_682 : Jvm.Cond.instanceMethod (⟨"Twelvehundred$Placing", "read", "(I)Z"⟩ : MethodName) ∈ Tgl := inT_3 156 rfl (by decide +kernel)
set_option maxRecDepth 20000 in
theorem tw_683 : Jvm.Cond.selects "Twelvehundred$Placing" (⟨"Twelvehundred$Placing", "read", "(I)Z"⟩ : MethodName) (⟨"Twelvehundred$Placing", "read", "(I)Z"⟩ : MethodName) ∈ Tgl := inT_3 157 rfl (by decide +kernel)
set_option maxRecDepth 20000 in
theorem tw_684 : Jvm.Cond.code (⟨"Twelvehundred$Placing", "read", "(I)Z"⟩ : MethodName) prog_9_method_5_code 6 (some .boolean) ∈ Tgl := inT_3 158 rfl (by decide +kernel)
set_option maxRecDepth 20000 in
theorem tw_685 : Jvm.Cond.methodLink "Twelvehundred$Placing" 30 (⟨"Twelvehundred$Placing", "clear", "()V"⟩ : MethodName) ∈ Tgl := inT_3 159 rfl (by decide +kernel)
set_option maxRecDepth 20000 in
theorem tw_686 : Jvm.Cond.instanceMethod (⟨"Twelvehundred$Placing", "clear", "()V"⟩ : MethodName) ∈ Tgl := inT_3 160 rfl (by decide +kernel)
set_option maxRecDepth 20000 in
theorem tw_687 : Jvm.Cond.selects "Twelvehundred$Placing" (⟨"Twelvehundred$Placing", "clear", "()V"⟩ : MethodName) (⟨"Twelvehundred$Placing", "clear", "()V"⟩ : MethodName) ∈ Tgl := inT_3 161 rfl (by decide +kernel)
set_option maxRecDepth 20000 in
theorem tw_688 : Jvm.Cond.code (⟨"Twelvehundred$Placing", "clear", "()V"⟩ : MethodName) prog_9_method_2_code 2 (none) ∈ Tgl := inT_3 162 rfl (by decide +kernel)
set_option maxRecDepth 20000 in
theorem tw_689 : Jvm.Cond.methodLink "Twelvehundred$Placing" 33 (⟨"java/util/ArrayList", "size", "()I"⟩ : MethodName) ∈ Tgl := inT_3 163 rfl (by decide +kernel)
set_option maxRecDepth 20000 in
theorem tw_690 : Jvm.Cond.methodLink "Twelvehundred$Placing" 39 (⟨"java/util/ArrayList", "get", "(I)Ljava/lang/Object;"⟩ : MethodName) ∈ Tgl := inT_3 164 rfl (by decide +kernel)
set_option maxRecDepth 20000 in
theorem tw_691 : Jvm.Cond.classLink "Twelvehundred$Placing" 25 "Twelvehundred$Household" ∈ Tgl := inT_3 165 rfl (by decide +kernel)
set_option maxRecDepth 20000 in
theorem tw_692 : Jvm.Cond.methodLink "Twelvehundred$Placing" 46 (⟨"Twelvehundred$Placing", "put", "(LTwelvehundred$Household;LTwelvehundred$Hall;)V"⟩ : MethodName) ∈ Tgl := inT_3 166 rfl (by decide +kernel)
set_option maxRecDepth 20000 in
theorem tw_693 : Jvm.Cond.instanceMethod (⟨"Twelvehundred$Placing", "put", "(LTwelvehundred$Household;LTwelvehundred$Hall;)V"⟩ : MethodName) ∈ Tgl := inT_3 167 rfl (by decide +kernel)
set_option maxRecDepth 20000 in
theorem tw_694 : Jvm.Cond.selects "Twelvehundred$Placing" (⟨"Twelvehundred$Placing", "put", "(LTwelvehundred$Household;LTwelvehundred$Hall;)V"⟩ : MethodName) (⟨"Twelvehundred$Placing", "put", "(LTwelvehundred$Household;LTwelvehundred$Hall;)V"⟩ : MethodName) ∈ Tgl := inT_3 168 rfl (by decide +kernel)
set_option maxRecDepth 20000 in
theorem tw_695 : Jvm.Cond.code (⟨"Twelvehundred$Placing", "put", "(LTwelvehundred$Household;LTwelvehundred$Hall;)V"⟩ : MethodName) prog_9_method_4_code 3 (none) ∈ Tgl := inT_3 169 rfl (by decide +kernel)
set_option maxRecDepth 20000 in
theorem tw_696 : Jvm.Cond.methodLink "Twelvehundred" 336 (⟨"Twelvehundred$Placing", "isWithinRooms", "()Z"⟩ : MethodName) ∈ Tgl := inT_3 170 rfl (by decide +kernel)
set_option maxRecDepth 20000 in
theorem tw_697 : Jvm.Cond.instanceMethod (⟨"Twelvehundred$Placing", "isWithinRooms", "()Z"⟩ : MethodName) ∈ Tgl := inT_3 171 rfl (by decide +kernel)
set_option maxRecDepth 20000 in
theorem tw_698 : Jvm.Cond.selects "Twelvehundred$Placing" (⟨"Twelvehundred$Placing", "isWithinRooms", "()Z"⟩ : MethodName) (⟨"Twelvehundred$Placing", "isWithinRooms", "()Z"⟩ : MethodName) ∈ Tgl := inT_3 172 rfl (by decide +kernel)
set_option maxRecDepth 20000 in
theorem tw_699 : Jvm.Cond.code (⟨"Twelvehundred$Placing", "isWithinRooms", "()Z"⟩ : MethodName) prog_9_method_9_code 3 (some .boolean) ∈ Tgl := inT_3 173 rfl (by decide +kernel)
set_option maxRecDepth 20000 in
theorem tw_700 : Jvm.Cond.methodLink "Twelvehundred$Placing" 50 (⟨"Twelvehundred$Placing", "guestsOf", "(LTwelvehundred$Hall;)I"⟩ : MethodName) ∈ Tgl := inT_3 174 rfl (by decide +kernel)
set_option maxRecDepth 20000 in
theorem tw_701 : Jvm.Cond.instanceMethod (⟨"Twelvehundred$Placing", "guestsOf", "(LTwelvehundred$Hall;)I"⟩ : MethodName) ∈ Tgl := inT_3 175 rfl (by decide +kernel)
set_option maxRecDepth 20000 in
theorem tw_702 : Jvm.Cond.selects "Twelvehundred$Placing" (⟨"Twelvehundred$Placing", "guestsOf", "(LTwelvehundred$Hall;)I"⟩ : MethodName) (⟨"Twelvehundred$Placing", "guestsOf", "(LTwelvehundred$Hall;)I"⟩ : MethodName) ∈ Tgl := inT_3 176 rfl (by decide +kernel)
set_option maxRecDepth 20000 in
theorem tw_703 : Jvm.Cond.code (⟨"Twelvehundred$Placing", "guestsOf", "(LTwelvehundred$Hall;)I"⟩ : MethodName) prog_9_method_6_code 4 (some .int) ∈ Tgl := inT_3 177 rfl (by decide +kernel)
set_option maxRecDepth 20000 in
theorem tw_704 : Jvm.Cond.methodLink "Twelvehundred$Placing" 54 (⟨"java/lang/Integer", "bitCount", "(I)I"⟩ : MethodName) ∈ Tgl := inT_3 178 rfl (by decide +kernel)
set_option maxRecDepth 20000 in
theorem tw_705 : Jvm.Cond.static (⟨"java/lang/Integer", "bitCount", "(I)I"⟩ : MethodName) ∈ Tgl := inT_3 179 rfl (by decide +kernel)
set_option maxRecDepth 20000 in
theorem tw_706 : Jvm.Cond.code (⟨"java/lang/Integer", "bitCount", "(I)I"⟩ : MethodName) prog_27_method_49_code 1 (some .int) ∈ Tgl := inT_3 180 rfl (by decide +kernel)
set_option maxRecDepth 20000 in
theorem tw_707 : Jvm.Cond.constant "java/lang/Integer" 265 (Int32.ofNat 1431655765) ∈ Tgl := inT_3 181 rfl (by decide +kernel)
set_option maxRecDepth 20000 in
theorem tw_708 : Jvm.Cond.constant "java/lang/Integer" 266 (Int32.ofNat 858993459) ∈ Tgl := inT_3 182 rfl (by decide +kernel)
set_option maxRecDepth 20000 in
theorem tw_709 : Jvm.Cond.constant "java/lang/Integer" 267 (Int32.ofNat 252645135) ∈ Tgl := inT_3 183 rfl (by decide +kernel)
set_option maxRecDepth 20000 in
theorem tw_710 : Jvm.Cond.methodLink "Twelvehundred" 340 (⟨"Twelvehundred$Placing", "isContested", "()Z"⟩ : MethodName) ∈ Tgl := inT_3 184 rfl (by decide +kernel)
set_option maxRecDepth 20000 in
theorem tw_711 : Jvm.Cond.instanceMethod (⟨"Twelvehundred$Placing", "isContested", "()Z"⟩ : MethodName) ∈ Tgl := inT_3 185 rfl (by decide +kernel)
set_option maxRecDepth 20000 in
theorem tw_712 : Jvm.Cond.selects "Twelvehundred$Placing" (⟨"Twelvehundred$Placing", "isContested", "()Z"⟩ : MethodName) (⟨"Twelvehundred$Placing", "isContested", "()Z"⟩ : MethodName) ∈ Tgl := inT_3 186 rfl (by decide +kernel)
set_option maxRecDepth 20000 in
theorem tw_713 : Jvm.Cond.code (⟨"Twelvehundred$Placing", "isContested", "()Z"⟩ : MethodName) prog_9_method_10_code 2 (some .boolean) ∈ Tgl := inT_3 187 rfl (by decide +kernel)
set_option maxRecDepth 20000 in
theorem tw_714 : Jvm.Cond.methodLink "Twelvehundred$Placing" 71 (⟨"Twelvehundred$Placing", "hasEnvyUpTo", "(I)Z"⟩ : MethodName) ∈ Tgl := inT_3 188 rfl (by decide +kernel)
set_option maxRecDepth 20000 in
theorem tw_716 : Jvm.Cond.instanceMethod (⟨"Twelvehundred$Placing", "hasEnvyUpTo", "(I)Z"⟩ : MethodName) ∈ Tgl := inT_3 190 rfl (by decide +kernel)
set_option maxRecDepth 20000 in
theorem tw_717 : Jvm.Cond.code (⟨"Twelvehundred$Placing", "hasEnvyUpTo", "(I)Z"⟩ : MethodName) prog_9_method_12_code 5 (some .boolean) ∈ Tgl := inT_3 191 rfl (by decide +kernel)
set_option maxRecDepth 20000 in
theorem tw_718 : Jvm.Cond.methodLink "Twelvehundred$Placing" 86 (⟨"Twelvehundred$Placing", "couldOust", "(LTwelvehundred$Household;LTwelvehundred$Household;)Z"⟩ : MethodName) ∈ Tgl := inT_3 192 rfl (by decide +kernel)
set_option maxRecDepth 20000 in
theorem tw_720 : Jvm.Cond.instanceMethod (⟨"Twelvehundred$Placing", "couldOust", "(LTwelvehundred$Household;LTwelvehundred$Household;)Z"⟩ : MethodName) ∈ Tgl := inT_3 194 rfl (by decide +kernel)
set_option maxRecDepth 20000 in
theorem tw_721 : Jvm.Cond.code (⟨"Twelvehundred$Placing", "couldOust", "(LTwelvehundred$Household;LTwelvehundred$Household;)Z"⟩ : MethodName) prog_9_method_13_code 3 (some .boolean) ∈ Tgl := inT_3 195 rfl (by decide +kernel)
set_option maxRecDepth 20000 in
theorem tw_722 : Jvm.Cond.methodLink "Twelvehundred$Placing" 63 (⟨"Twelvehundred$Placing", "hallOf", "(LTwelvehundred$Household;)LTwelvehundred$Hall;"⟩ : MethodName) ∈ Tgl := inT_3 196 rfl (by decide +kernel)
set_option maxRecDepth 20000 in
theorem tw_723 : Jvm.Cond.methodLink "Twelvehundred$Placing" 78 (⟨"Twelvehundred$Household", "wouldRather", "(LTwelvehundred$Hall;LTwelvehundred$Hall;)Z"⟩ : MethodName) ∈ Tgl := inT_3 197 rfl (by decide +kernel)
set_option maxRecDepth 20000 in
theorem tw_724 : Jvm.Cond.instanceMethod (⟨"Twelvehundred$Household", "wouldRather", "(LTwelvehundred$Hall;LTwelvehundred$Hall;)Z"⟩ : MethodName) ∈ Tgl := inT_3 198 rfl (by decide +kernel)
set_option maxRecDepth 20000 in
theorem tw_725 : Jvm.Cond.selects "Twelvehundred$Household" (⟨"Twelvehundred$Household", "wouldRather", "(LTwelvehundred$Hall;LTwelvehundred$Hall;)Z"⟩ : MethodName) (⟨"Twelvehundred$Household", "wouldRather", "(LTwelvehundred$Hall;LTwelvehundred$Hall;)Z"⟩ : MethodName) ∈ Tgl := inT_3 199 rfl (by decide +kernel)
set_option maxRecDepth 20000 in
theorem tw_726 : Jvm.Cond.code (⟨"Twelvehundred$Household", "wouldRather", "(LTwelvehundred$Hall;LTwelvehundred$Hall;)Z"⟩ : MethodName) prog_5_method_2_code 5 (some .boolean) ∈ Tgl := inT_3 200 rfl (by decide +kernel)
set_option maxRecDepth 20000 in
theorem tw_727 : Jvm.Cond.methodLink "Twelvehundred$Household" 37 (⟨"java/lang/Math", "abs", "(I)I"⟩ : MethodName) ∈ Tgl := inT_3 201 rfl (by decide +kernel)
set_option maxRecDepth 20000 in
theorem tw_728 : Jvm.Cond.static (⟨"java/lang/Math", "abs", "(I)I"⟩ : MethodName) ∈ Tgl := inT_3 202 rfl (by decide +kernel)
set_option maxRecDepth 20000 in
theorem tw_729 : Jvm.Cond.code (⟨"java/lang/Math", "abs", "(I)I"⟩ : MethodName) prog_30_method_59_code 1 (some .int) ∈ Tgl := inT_3 203 rfl (by decide +kernel)
set_option maxRecDepth 20000 in
theorem tw_730 : Jvm.Cond.methodLink "Twelvehundred$Placing" 67 (⟨"Twelvehundred$Household", "goesBefore", "(LTwelvehundred$Household;)Z"⟩ : MethodName) ∈ Tgl := inT_3 204 rfl (by decide +kernel)
set_option maxRecDepth 20000 in
theorem tw_731 : Jvm.Cond.instanceMethod (⟨"Twelvehundred$Household", "goesBefore", "(LTwelvehundred$Household;)Z"⟩ : MethodName) ∈ Tgl := inT_3 205 rfl (by decide +kernel)
set_option maxRecDepth 20000 in
theorem tw_732 : Jvm.Cond.selects "Twelvehundred$Household" (⟨"Twelvehundred$Household", "goesBefore", "(LTwelvehundred$Household;)Z"⟩ : MethodName) (⟨"Twelvehundred$Household", "goesBefore", "(LTwelvehundred$Household;)Z"⟩ : MethodName) ∈ Tgl := inT_3 206 rfl (by decide +kernel)
set_option maxRecDepth 20000 in
theorem tw_733 : Jvm.Cond.code (⟨"Twelvehundred$Household", "goesBefore", "(LTwelvehundred$Household;)Z"⟩ : MethodName) prog_5_method_3_code 2 (some .boolean) ∈ Tgl := inT_3 207 rfl (by decide +kernel)
set_option maxRecDepth 20000 in
theorem tw_734 : Jvm.Cond.methodLink "Twelvehundred$Placing" 75 (⟨"Twelvehundred$Placing", "wantsEmptyRoom", "(LTwelvehundred$Household;)Z"⟩ : MethodName) ∈ Tgl := inT_3 208 rfl (by decide +kernel)
set_option maxRecDepth 20000 in
theorem tw_736 : Jvm.Cond.instanceMethod (⟨"Twelvehundred$Placing", "wantsEmptyRoom", "(LTwelvehundred$Household;)Z"⟩ : MethodName) ∈ Tgl := inT_3 210 rfl (by decide +kernel)
set_option maxRecDepth 20000 in
theorem tw_737 : Jvm.Cond.code (⟨"Twelvehundred$Placing", "wantsEmptyRoom", "(LTwelvehundred$Household;)Z"⟩ : MethodName) prog_9_method_11_code 4 (some .boolean) ∈ Tgl := inT_3 211 rfl (by decide +kernel)
set_option maxRecDepth 20000 in
theorem tw_738 : Jvm.Cond.methodLink "Twelvehundred$Placing" 82 (⟨"Twelvehundred$Placing", "hasRoom", "(LTwelvehundred$Hall;)Z"⟩ : MethodName) ∈ Tgl := inT_3 212 rfl (by decide +kernel)
set_option maxRecDepth 20000 in
theorem tw_739 : Jvm.Cond.instanceMethod (⟨"Twelvehundred$Placing", "hasRoom", "(LTwelvehundred$Hall;)Z"⟩ : MethodName) ∈ Tgl := inT_3 213 rfl (by decide +kernel)
set_option maxRecDepth 20000 in
theorem tw_740 : Jvm.Cond.selects "Twelvehundred$Placing" (⟨"Twelvehundred$Placing", "hasRoom", "(LTwelvehundred$Hall;)Z"⟩ : MethodName) (⟨"Twelvehundred$Placing", "hasRoom", "(LTwelvehundred$Hall;)Z"⟩ : MethodName) ∈ Tgl := inT_3 214 rfl (by decide +kernel)
set_option maxRecDepth 20000 in
theorem tw_741 : Jvm.Cond.code (⟨"Twelvehundred$Placing", "hasRoom", "(LTwelvehundred$Hall;)Z"⟩ : MethodName) prog_9_method_7_code 2 (some .boolean) ∈ Tgl := inT_3 215 rfl (by decide +kernel)
set_option maxRecDepth 20000 in
theorem tw_742 : Jvm.Cond.methodLink "TwelvehundredLaw" 185 (⟨"Twelvehundred", "isSound", "()Z"⟩ : MethodName) ∈ Tgl := inT_3 216 rfl (by decide +kernel)
set_option maxRecDepth 20000 in
theorem tw_743 : Jvm.Cond.instanceMethod (⟨"Twelvehundred", "isSound", "()Z"⟩ : MethodName) ∈ Tgl := inT_3 217 rfl (by decide +kernel)
set_option maxRecDepth 20000 in
theorem tw_744 : Jvm.Cond.selects "Twelvehundred" (⟨"Twelvehundred", "isSound", "()Z"⟩ : MethodName) (⟨"Twelvehundred", "isSound", "()Z"⟩ : MethodName) ∈ Tgl := inT_3 218 rfl (by decide +kernel)
set_option maxRecDepth 20000 in
theorem tw_745 : Jvm.Cond.code (⟨"Twelvehundred", "isSound", "()Z"⟩ : MethodName) prog_1_method_26_code 1 (some .boolean) ∈ Tgl := inT_3 219 rfl (by decide +kernel)
set_option maxRecDepth 20000 in
theorem tw_746 : Jvm.Cond.methodLink "Twelvehundred" 354 (⟨"Twelvehundred$Placing", "clear", "()V"⟩ : MethodName) ∈ Tgl := inT_3 220 rfl (by decide +kernel)
set_option maxRecDepth 20000 in
theorem tw_748 : Jvm.Cond.static (⟨"Twelvehundred$Placing", "isBeaten", "(LTwelvehundred$Placing;LTwelvehundred$Placing;I)Z"⟩ : MethodName) ∈ Tgl := inT_3 222 rfl (by decide +kernel)
set_option maxRecDepth 20000 in
theorem tw_749 : Jvm.Cond.code (⟨"Twelvehundred$Placing", "isBeaten", "(LTwelvehundred$Placing;LTwelvehundred$Placing;I)Z"⟩ : MethodName) prog_9_method_15_code 6 (some .boolean) ∈ Tgl := inT_3 223 rfl (by decide +kernel)
set_option maxRecDepth 20000 in
theorem tw_750 : Jvm.Cond.methodLink "Twelvehundred$Placing" 90 (⟨"Twelvehundred$Placing", "isBetterForAny", "(LTwelvehundred$Placing;)Z"⟩ : MethodName) ∈ Tgl := inT_3 224 rfl (by decide +kernel)
set_option maxRecDepth 20000 in
theorem tw_752 : Jvm.Cond.instanceMethod (⟨"Twelvehundred$Placing", "isBetterForAny", "(LTwelvehundred$Placing;)Z"⟩ : MethodName) ∈ Tgl := inT_3 226 rfl (by decide +kernel)
set_option maxRecDepth 20000 in
theorem tw_753 : Jvm.Cond.code (⟨"Twelvehundred$Placing", "isBetterForAny", "(LTwelvehundred$Placing;)Z"⟩ : MethodName) prog_9_method_14_code 4 (some .boolean) ∈ Tgl := inT_3 227 rfl (by decide +kernel)
set_option maxRecDepth 20000 in
theorem tw_754 : Jvm.Cond.methodLink "Twelvehundred$Placing" 94 (⟨"Twelvehundred$Placing", "isContested", "()Z"⟩ : MethodName) ∈ Tgl := inT_3 228 rfl (by decide +kernel)
set_option maxRecDepth 20000 in
theorem tw_755 : Jvm.Cond.methodLink "Twelvehundred$Placing" 98 (⟨"Twelvehundred$Placing", "isBeaten", "(LTwelvehundred$Placing;LTwelvehundred$Placing;I)Z"⟩ : MethodName) ∈ Tgl := inT_3 229 rfl (by decide +kernel)
set_option maxRecDepth 20000 in
theorem tw_756 : Jvm.Cond.methodLink "Twelvehundred" 361 (⟨"Twelvehundred$Rescue", "canReachMoreThan", "(I)Z"⟩ : MethodName) ∈ Tgl := inT_3 230 rfl (by decide +kernel)
set_option maxRecDepth 20000 in
theorem tw_757 : Jvm.Cond.instanceMethod (⟨"Twelvehundred$Rescue", "canReachMoreThan", "(I)Z"⟩ : MethodName) ∈ Tgl := inT_3 231 rfl (by decide +kernel)
set_option maxRecDepth 20000 in
theorem tw_758 : Jvm.Cond.selects "Twelvehundred$Rescue" (⟨"Twelvehundred$Rescue", "canReachMoreThan", "(I)Z"⟩ : MethodName) (⟨"Twelvehundred$Rescue", "canReachMoreThan", "(I)Z"⟩ : MethodName) ∈ Tgl := inT_3 232 rfl (by decide +kernel)
set_option maxRecDepth 20000 in
theorem tw_759 : Jvm.Cond.code (⟨"Twelvehundred$Rescue", "canReachMoreThan", "(I)Z"⟩ : MethodName) prog_10_method_9_code 3 (some .boolean) ∈ Tgl := inT_3 233 rfl (by decide +kernel)
set_option maxRecDepth 20000 in
theorem tw_760 : Jvm.Cond.methodLink "Twelvehundred$Rescue" 74 (⟨"Twelvehundred$Rescue", "peopleOf", "(I)I"⟩ : MethodName) ∈ Tgl := inT_3 234 rfl (by decide +kernel)
set_option maxRecDepth 20000 in
theorem tw_761 : Jvm.Cond.methodLink "Twelvehundred" 364 (⟨"Twelvehundred$Larder", "isBalanced", "()Z"⟩ : MethodName) ∈ Tgl := inT_3 235 rfl (by decide +kernel)
set_option maxRecDepth 20000 in
theorem tw_762 : Jvm.Cond.instanceMethod (⟨"Twelvehundred$Larder", "isBalanced", "()Z"⟩ : MethodName) ∈ Tgl := inT_3 236 rfl (by decide +kernel)
set_option maxRecDepth 20000 in
theorem tw_763 : Jvm.Cond.selects "Twelvehundred$Larder" (⟨"Twelvehundred$Larder", "isBalanced", "()Z"⟩ : MethodName) (⟨"Twelvehundred$Larder", "isBalanced", "()Z"⟩ : MethodName) ∈ Tgl := inT_3 237 rfl (by decide +kernel)
set_option maxRecDepth 20000 in
theorem tw_764 : Jvm.Cond.code (⟨"Twelvehundred$Larder", "isBalanced", "()Z"⟩ : MethodName) prog_6_method_6_code 4 (some .boolean) ∈ Tgl := inT_3 238 rfl (by decide +kernel)
set_option maxRecDepth 20000 in
theorem tw_765 : Jvm.Cond.methodLink "Twelvehundred$Larder" 26 (⟨"java/util/ArrayList", "size", "()I"⟩ : MethodName) ∈ Tgl := inT_3 239 rfl (by decide +kernel)
set_option maxRecDepth 20000 in
theorem tw_766 : Jvm.Cond.methodLink "Twelvehundred$Larder" 45 (⟨"java/util/ArrayList", "get", "(I)Ljava/lang/Object;"⟩ : MethodName) ∈ Tgl := inT_4 0 rfl (by decide +kernel)
set_option maxRecDepth 20000 in
theorem tw_767 : Jvm.Cond.classLink "Twelvehundred$Larder" 35 "Twelvehundred$Lot" ∈ Tgl := inT_4 1 rfl (by decide +kernel)
set_option maxRecDepth 20000 in
theorem tw_768 : Jvm.Cond.methodLink "Twelvehundred" 225 (⟨"Twelvehundred$Bulletin", "persons", "()I"⟩ : MethodName) ∈ Tgl := inT_4 2 rfl (by decide +kernel)
set_option maxRecDepth 20000 in
theorem tw_769 : Jvm.Cond.instanceMethod (⟨"Twelvehundred$Bulletin", "persons", "()I"⟩ : MethodName) ∈ Tgl := inT_4 3 rfl (by decide +kernel)
set_option maxRecDepth 20000 in
theorem tw_770 : Jvm.Cond.selects "Twelvehundred$Bulletin" (⟨"Twelvehundred$Bulletin", "persons", "()I"⟩ : MethodName) (⟨"Twelvehundred$Bulletin", "persons", "()I"⟩ : MethodName) ∈ Tgl := inT_4 4 rfl (by decide +kernel)
set_option maxRecDepth 20000 in
theorem tw_771 : Jvm.Cond.code (⟨"Twelvehundred$Bulletin", "persons", "()I"⟩ : MethodName) prog_3_method_4_code 6 (some .int) ∈ Tgl := inT_4 5 rfl (by decide +kernel)
set_option maxRecDepth 20000 in
theorem tw_772 : Jvm.Cond.methodLink "Twelvehundred$Bulletin" 23 (⟨"java/util/ArrayList", "size", "()I"⟩ : MethodName) ∈ Tgl := inT_4 6 rfl (by decide +kernel)
set_option maxRecDepth 20000 in
theorem tw_773 : Jvm.Cond.methodLink "Twelvehundred$Bulletin" 27 (⟨"java/util/ArrayList", "get", "(I)Ljava/lang/Object;"⟩ : MethodName) ∈ Tgl := inT_4 7 rfl (by decide +kernel)
set_option maxRecDepth 20000 in
theorem tw_774 : Jvm.Cond.classLink "Twelvehundred$Bulletin" 31 "Twelvehundred$Listed" ∈ Tgl := inT_4 8 rfl (by decide +kernel)
set_option maxRecDepth 20000 in
theorem tw_776 : Jvm.Cond.methodLink "Twelvehundred$Bulletin" 44 (⟨"Twelvehundred$Bulletin", "areTogether", "(LTwelvehundred$Listed;LTwelvehundred$Listed;)Z"⟩ : MethodName) ∈ Tgl := inT_4 10 rfl (by decide +kernel)
set_option maxRecDepth 20000 in
theorem tw_777 : Jvm.Cond.static (⟨"Twelvehundred$Bulletin", "areTogether", "(LTwelvehundred$Listed;LTwelvehundred$Listed;)Z"⟩ : MethodName) ∈ Tgl := inT_4 11 rfl (by decide +kernel)
set_option maxRecDepth 20000 in
theorem tw_778 : Jvm.Cond.code (⟨"Twelvehundred$Bulletin", "areTogether", "(LTwelvehundred$Listed;LTwelvehundred$Listed;)Z"⟩ : MethodName) prog_3_method_5_code 2 (some .boolean) ∈ Tgl := inT_4 12 rfl (by decide +kernel)
set_option maxRecDepth 20000 in
theorem tw_779 : Jvm.Cond.methodLink "Twelvehundred$Bulletin" 55 (⟨"Twelvehundred$Bulletin", "isNear", "(II)Z"⟩ : MethodName) ∈ Tgl := inT_4 13 rfl (by decide +kernel)
set_option maxRecDepth 20000 in
theorem tw_780 : Jvm.Cond.static (⟨"Twelvehundred$Bulletin", "isNear", "(II)Z"⟩ : MethodName) ∈ Tgl := inT_4 14 rfl (by decide +kernel)
set_option maxRecDepth 20000 in
theorem tw_781 : Jvm.Cond.code (⟨"Twelvehundred$Bulletin", "isNear", "(II)Z"⟩ : MethodName) prog_3_method_3_code 5 (some .boolean) ∈ Tgl := inT_4 15 rfl (by decide +kernel)
set_option maxRecDepth 20000 in
theorem tw_782 : Jvm.Cond.methodLink "Twelvehundred$Bulletin" 48 (⟨"Twelvehundred$Bulletin", "join", "(II)V"⟩ : MethodName) ∈ Tgl := inT_4 16 rfl (by decide +kernel)
set_option maxRecDepth 20000 in
theorem tw_784 : Jvm.Cond.instanceMethod (⟨"Twelvehundred$Bulletin", "join", "(II)V"⟩ : MethodName) ∈ Tgl := inT_4 18 rfl (by decide +kernel)
set_option maxRecDepth 20000 in
theorem tw_785 : Jvm.Cond.code (⟨"Twelvehundred$Bulletin", "join", "(II)V"⟩ : MethodName) prog_3_method_6_code 4 (none) ∈ Tgl := inT_4 19 rfl (by decide +kernel)
set_option maxRecDepth 20000 in
theorem tw_786 : Jvm.Cond.methodLink "TwelvehundredLaw" 190 (⟨"Twelvehundred", "digest", "()J"⟩ : MethodName) ∈ Tgl := inT_4 20 rfl (by decide +kernel)
set_option maxRecDepth 20000 in
theorem tw_787 : Jvm.Cond.instanceMethod (⟨"Twelvehundred", "digest", "()J"⟩ : MethodName) ∈ Tgl := inT_4 21 rfl (by decide +kernel)
set_option maxRecDepth 20000 in
theorem tw_788 : Jvm.Cond.selects "Twelvehundred" (⟨"Twelvehundred", "digest", "()J"⟩ : MethodName) (⟨"Twelvehundred", "digest", "()J"⟩ : MethodName) ∈ Tgl := inT_4 22 rfl (by decide +kernel)
set_option maxRecDepth 20000 in
theorem tw_789 : Jvm.Cond.code (⟨"Twelvehundred", "digest", "()J"⟩ : MethodName) prog_1_method_27_code 5 (some .long) ∈ Tgl := inT_4 23 rfl (by decide +kernel)
set_option maxRecDepth 20000 in
theorem tw_790 : Jvm.Cond.constantLong "Twelvehundred" 367 (Int64.ofNat 8609) ∈ Tgl := inT_4 24 rfl (by decide +kernel)
set_option maxRecDepth 20000 in
theorem tw_791 : Jvm.Cond.constantLong "Twelvehundred" 369 (Int64.ofNat 31) ∈ Tgl := inT_4 25 rfl (by decide +kernel)
set_option maxRecDepth 20000 in
theorem tw_792 : Jvm.Cond.methodLink "Twelvehundred" 371 (⟨"Twelvehundred", "county", "(I)I"⟩ : MethodName) ∈ Tgl := inT_4 26 rfl (by decide +kernel)
set_option maxRecDepth 20000 in
theorem tw_793 : Jvm.Cond.instanceMethod (⟨"Twelvehundred", "county", "(I)I"⟩ : MethodName) ∈ Tgl := inT_4 27 rfl (by decide +kernel)
set_option maxRecDepth 20000 in
theorem tw_794 : Jvm.Cond.selects "Twelvehundred" (⟨"Twelvehundred", "county", "(I)I"⟩ : MethodName) (⟨"Twelvehundred", "county", "(I)I"⟩ : MethodName) ∈ Tgl := inT_4 28 rfl (by decide +kernel)
set_option maxRecDepth 20000 in
theorem tw_795 : Jvm.Cond.code (⟨"Twelvehundred", "county", "(I)I"⟩ : MethodName) prog_1_method_19_code 2 (some .int) ∈ Tgl := inT_4 29 rfl (by decide +kernel)
set_option maxRecDepth 20000 in
theorem tw_796 : Jvm.Cond.methodLink "Twelvehundred" 293 (⟨"Twelvehundred$Rescue", "countOf", "(I)I"⟩ : MethodName) ∈ Tgl := inT_4 30 rfl (by decide +kernel)
set_option maxRecDepth 20000 in
theorem tw_797 : Jvm.Cond.instanceMethod (⟨"Twelvehundred$Rescue", "countOf", "(I)I"⟩ : MethodName) ∈ Tgl := inT_4 31 rfl (by decide +kernel)
set_option maxRecDepth 20000 in
theorem tw_798 : Jvm.Cond.selects "Twelvehundred$Rescue" (⟨"Twelvehundred$Rescue", "countOf", "(I)I"⟩ : MethodName) (⟨"Twelvehundred$Rescue", "countOf", "(I)I"⟩ : MethodName) ∈ Tgl := inT_4 32 rfl (by decide +kernel)
set_option maxRecDepth 20000 in
theorem tw_799 : Jvm.Cond.code (⟨"Twelvehundred$Rescue", "countOf", "(I)I"⟩ : MethodName) prog_10_method_2_code 4 (some .int) ∈ Tgl := inT_4 33 rfl (by decide +kernel)
set_option maxRecDepth 20000 in
theorem tw_800 : Jvm.Cond.methodLink "Twelvehundred" 299 (⟨"Twelvehundred$Larder", "lastingAt", "(I)I"⟩ : MethodName) ∈ Tgl := inT_4 34 rfl (by decide +kernel)
set_option maxRecDepth 20000 in
theorem tw_801 : Jvm.Cond.instanceMethod (⟨"Twelvehundred$Larder", "lastingAt", "(I)I"⟩ : MethodName) ∈ Tgl := inT_4 35 rfl (by decide +kernel)
set_option maxRecDepth 20000 in
theorem tw_802 : Jvm.Cond.selects "Twelvehundred$Larder" (⟨"Twelvehundred$Larder", "lastingAt", "(I)I"⟩ : MethodName) (⟨"Twelvehundred$Larder", "lastingAt", "(I)I"⟩ : MethodName) ∈ Tgl := inT_4 36 rfl (by decide +kernel)
set_option maxRecDepth 20000 in
theorem tw_803 : Jvm.Cond.code (⟨"Twelvehundred$Larder", "lastingAt", "(I)I"⟩ : MethodName) prog_6_method_5_code 5 (some .int) ∈ Tgl := inT_4 37 rfl (by decide +kernel)
set_option maxRecDepth 20000 in
theorem tw_804 : Jvm.Cond.classLink "Twelvehundred" 77 "java/lang/IllegalArgumentException" ∈ Tgl := inT_4 38 rfl (by decide +kernel)
set_option maxRecDepth 20000 in
theorem tw_806 : Jvm.Cond.methodLink "Twelvehundred" 81 (⟨"java/lang/IllegalArgumentException", "<init>", "(Ljava/lang/String;)V"⟩ : MethodName) ∈ Tgl := inT_4 40 rfl (by decide +kernel)
set_option maxRecDepth 20000 in
theorem tw_807 : Jvm.Cond.methodLink "Twelvehundred" 374 (⟨"Twelvehundred", "ofStreet", "(II)I"⟩ : MethodName) ∈ Tgl := inT_4 41 rfl (by decide +kernel)
set_option maxRecDepth 20000 in
theorem tw_808 : Jvm.Cond.instanceMethod (⟨"Twelvehundred", "ofStreet", "(II)I"⟩ : MethodName) ∈ Tgl := inT_4 42 rfl (by decide +kernel)
set_option maxRecDepth 20000 in
theorem tw_809 : Jvm.Cond.selects "Twelvehundred" (⟨"Twelvehundred", "ofStreet", "(II)I"⟩ : MethodName) (⟨"Twelvehundred", "ofStreet", "(II)I"⟩ : MethodName) ∈ Tgl := inT_4 43 rfl (by decide +kernel)
set_option maxRecDepth 20000 in
theorem tw_810 : Jvm.Cond.code (⟨"Twelvehundred", "ofStreet", "(II)I"⟩ : MethodName) prog_1_method_15_code 4 (some .int) ∈ Tgl := inT_4 44 rfl (by decide +kernel)
set_option maxRecDepth 20000 in
theorem tw_811 : Jvm.Cond.classLink "Twelvehundred" 112 "java/lang/IndexOutOfBoundsException" ∈ Tgl := inT_4 45 rfl (by decide +kernel)
set_option maxRecDepth 20000 in
theorem tw_812 : Jvm.Cond.instantiable "java/lang/IndexOutOfBoundsException" 6 ∈ Tgl := inT_4 46 rfl (by decide +kernel)
set_option maxRecDepth 20000 in
theorem tw_814 : Jvm.Cond.selects "java/lang/IndexOutOfBoundsException" (⟨"java/lang/Throwable", "fillInStackTrace", "(I)Ljava/lang/Throwable;"⟩ : MethodName) (⟨"java/lang/Throwable", "fillInStackTrace", "(I)Ljava/lang/Throwable;"⟩ : MethodName) ∈ Tgl := inT_4 48 rfl (by decide +kernel)
set_option maxRecDepth 20000 in
theorem tw_815 : Jvm.Cond.lays "java/lang/IndexOutOfBoundsException" "java/lang/Throwable" "cause" "Ljava/lang/Throwable;" ∈ Tgl := inT_4 49 rfl (by decide +kernel)
set_option maxRecDepth 20000 in
theorem tw_816 : Jvm.Cond.lays "java/lang/IndexOutOfBoundsException" "java/lang/Throwable" "stackTrace" "[Ljava/lang/StackTraceElement;" ∈ Tgl := inT_4 50 rfl (by decide +kernel)
set_option maxRecDepth 20000 in
theorem tw_817 : Jvm.Cond.lays "java/lang/IndexOutOfBoundsException" "java/lang/Throwable" "suppressedExceptions" "Ljava/util/List;" ∈ Tgl := inT_4 51 rfl (by decide +kernel)
set_option maxRecDepth 20000 in
theorem tw_818 : Jvm.Cond.lays "java/lang/IndexOutOfBoundsException" "java/lang/Throwable" "detailMessage" "Ljava/lang/String;" ∈ Tgl := inT_4 52 rfl (by decide +kernel)
set_option maxRecDepth 20000 in
theorem tw_819 : Jvm.Cond.lays "java/lang/IndexOutOfBoundsException" "java/lang/Throwable" "backtrace" "Ljava/lang/Object;" ∈ Tgl := inT_4 53 rfl (by decide +kernel)
set_option maxRecDepth 20000 in
theorem tw_821 : Jvm.Cond.methodLink "Twelvehundred" 116 (⟨"java/lang/IndexOutOfBoundsException", "<init>", "(Ljava/lang/String;)V"⟩ : MethodName) ∈ Tgl := inT_4 55 rfl (by decide +kernel)
set_option maxRecDepth 20000 in
theorem tw_822 : Jvm.Cond.instanceMethod (⟨"java/lang/IndexOutOfBoundsException", "<init>", "(Ljava/lang/String;)V"⟩ : MethodName) ∈ Tgl := inT_4 56 rfl (by decide +kernel)
set_option maxRecDepth 20000 in
theorem tw_823 : Jvm.Cond.code (⟨"java/lang/IndexOutOfBoundsException", "<init>", "(Ljava/lang/String;)V"⟩ : MethodName) prog_26_method_2_code 2 (none) ∈ Tgl := inT_4 57 rfl (by decide +kernel)
set_option maxRecDepth 20000 in
theorem tw_824 : Jvm.Cond.methodLink "java/lang/IndexOutOfBoundsException" 7 (⟨"java/lang/RuntimeException", "<init>", "(Ljava/lang/String;)V"⟩ : MethodName) ∈ Tgl := inT_4 58 rfl (by decide +kernel)
set_option maxRecDepth 20000 in
theorem tw_825 : Jvm.Cond.lays "java/lang/IndexOutOfBoundsException" "java/lang/Throwable" "depth" "I" ∈ Tgl := inT_4 59 rfl (by decide +kernel)
set_option maxRecDepth 20000 in
theorem tw_826 : Jvm.Cond.superclass "java/lang/IndexOutOfBoundsException" "java/lang/RuntimeException" ∈ Tgl := inT_4 60 rfl (by decide +kernel)
set_option maxRecDepth 20000 in
theorem tw_827 : Jvm.Cond.classLink "Twelvehundred" 93 "Twelvehundred$Street" ∈ Tgl := inT_4 61 rfl (by decide +kernel)
set_option maxRecDepth 20000 in
theorem tw_828 : Jvm.Cond.methodLink "Twelvehundred" 142 (⟨"Twelvehundred$River", "floods", "(LTwelvehundred$Street;)Z"⟩ : MethodName) ∈ Tgl := inT_4 62 rfl (by decide +kernel)
set_option maxRecDepth 20000 in
theorem tw_829 : Jvm.Cond.methodLink "Twelvehundred" 237 (⟨"Twelvehundred", "oneIf", "(Z)I"⟩ : MethodName) ∈ Tgl := inT_4 63 rfl (by decide +kernel)
set_option maxRecDepth 20000 in
theorem tw_830 : Jvm.Cond.methodLink "Twelvehundred" 241 (⟨"Twelvehundred$River", "limitOf", "(LTwelvehundred$Street;)I"⟩ : MethodName) ∈ Tgl := inT_4 64 rfl (by decide +kernel)
set_option maxRecDepth 20000 in
theorem tw_831 : Jvm.Cond.methodLink "Twelvehundred" 245 (⟨"Twelvehundred$Rescue", "atHomeIn", "(LTwelvehundred$Street;)I"⟩ : MethodName) ∈ Tgl := inT_4 65 rfl (by decide +kernel)
set_option maxRecDepth 20000 in
theorem tw_832 : Jvm.Cond.instanceMethod (⟨"Twelvehundred$Rescue", "atHomeIn", "(LTwelvehundred$Street;)I"⟩ : MethodName) ∈ Tgl := inT_4 66 rfl (by decide +kernel)
set_option maxRecDepth 20000 in
theorem tw_833 : Jvm.Cond.selects "Twelvehundred$Rescue" (⟨"Twelvehundred$Rescue", "atHomeIn", "(LTwelvehundred$Street;)I"⟩ : MethodName) (⟨"Twelvehundred$Rescue", "atHomeIn", "(LTwelvehundred$Street;)I"⟩ : MethodName) ∈ Tgl := inT_4 67 rfl (by decide +kernel)
set_option maxRecDepth 20000 in
theorem tw_834 : Jvm.Cond.code (⟨"Twelvehundred$Rescue", "atHomeIn", "(LTwelvehundred$Street;)I"⟩ : MethodName) prog_10_method_3_code 5 (some .int) ∈ Tgl := inT_4 68 rfl (by decide +kernel)
set_option maxRecDepth 20000 in
theorem tw_836 : Jvm.Cond.methodLink "Twelvehundred" 377 (⟨"Twelvehundred", "ofHousehold", "(II)I"⟩ : MethodName) ∈ Tgl := inT_4 70 rfl (by decide +kernel)
set_option maxRecDepth 20000 in
theorem tw_837 : Jvm.Cond.instanceMethod (⟨"Twelvehundred", "ofHousehold", "(II)I"⟩ : MethodName) ∈ Tgl := inT_4 71 rfl (by decide +kernel)
set_option maxRecDepth 20000 in
theorem tw_838 : Jvm.Cond.selects "Twelvehundred" (⟨"Twelvehundred", "ofHousehold", "(II)I"⟩ : MethodName) (⟨"Twelvehundred", "ofHousehold", "(II)I"⟩ : MethodName) ∈ Tgl := inT_4 72 rfl (by decide +kernel)
set_option maxRecDepth 20000 in
theorem tw_839 : Jvm.Cond.code (⟨"Twelvehundred", "ofHousehold", "(II)I"⟩ : MethodName) prog_1_method_16_code 5 (some .int) ∈ Tgl := inT_4 73 rfl (by decide +kernel)
set_option maxRecDepth 20000 in
theorem tw_841 : Jvm.Cond.methodLink "Twelvehundred" 267 (⟨"Twelvehundred", "hasMember", "(II)Z"⟩ : MethodName) ∈ Tgl := inT_4 75 rfl (by decide +kernel)
set_option maxRecDepth 20000 in
theorem tw_843 : Jvm.Cond.methodLink "Twelvehundred" 380 (⟨"Twelvehundred", "ofHall", "(II)I"⟩ : MethodName) ∈ Tgl := inT_4 77 rfl (by decide +kernel)
set_option maxRecDepth 20000 in
theorem tw_844 : Jvm.Cond.instanceMethod (⟨"Twelvehundred", "ofHall", "(II)I"⟩ : MethodName) ∈ Tgl := inT_4 78 rfl (by decide +kernel)
set_option maxRecDepth 20000 in
theorem tw_845 : Jvm.Cond.selects "Twelvehundred" (⟨"Twelvehundred", "ofHall", "(II)I"⟩ : MethodName) (⟨"Twelvehundred", "ofHall", "(II)I"⟩ : MethodName) ∈ Tgl := inT_4 79 rfl (by decide +kernel)
set_option maxRecDepth 20000 in
theorem tw_846 : Jvm.Cond.code (⟨"Twelvehundred", "ofHall", "(II)I"⟩ : MethodName) prog_1_method_17_code 4 (some .int) ∈ Tgl := inT_4 80 rfl (by decide +kernel)
set_option maxRecDepth 20000 in
theorem tw_848 : Jvm.Cond.classLink "Twelvehundred" 106 "Twelvehundred$Hall" ∈ Tgl := inT_4 82 rfl (by decide +kernel)
set_option maxRecDepth 20000 in
theorem tw_849 : Jvm.Cond.methodLink "Twelvehundred" 274 (⟨"Twelvehundred$Placing", "guestsOf", "(LTwelvehundred$Hall;)I"⟩ : MethodName) ∈ Tgl := inT_4 83 rfl (by decide +kernel)
set_option maxRecDepth 20000 in
theorem tw_851 : Jvm.Cond.methodLink "Twelvehundred" 383 (⟨"Twelvehundred", "ofLot", "(II)I"⟩ : MethodName) ∈ Tgl := inT_4 85 rfl (by decide +kernel)
set_option maxRecDepth 20000 in
theorem tw_852 : Jvm.Cond.instanceMethod (⟨"Twelvehundred", "ofLot", "(II)I"⟩ : MethodName) ∈ Tgl := inT_4 86 rfl (by decide +kernel)
set_option maxRecDepth 20000 in
theorem tw_853 : Jvm.Cond.selects "Twelvehundred" (⟨"Twelvehundred", "ofLot", "(II)I"⟩ : MethodName) (⟨"Twelvehundred", "ofLot", "(II)I"⟩ : MethodName) ∈ Tgl := inT_4 87 rfl (by decide +kernel)
set_option maxRecDepth 20000 in
theorem tw_854 : Jvm.Cond.code (⟨"Twelvehundred", "ofLot", "(II)I"⟩ : MethodName) prog_1_method_18_code 4 (some .int) ∈ Tgl := inT_4 88 rfl (by decide +kernel)
set_option maxRecDepth 20000 in
theorem tw_856 : Jvm.Cond.classLink "Twelvehundred" 193 "Twelvehundred$Lot" ∈ Tgl := inT_4 90 rfl (by decide +kernel)
set_option maxRecDepth 20000 in
theorem tw_858 : Jvm.Cond.methodLink "Twelvehundred" 386 (⟨"Twelvehundred", "chosen", "()I"⟩ : MethodName) ∈ Tgl := inT_4 92 rfl (by decide +kernel)
set_option maxRecDepth 20000 in
theorem tw_859 : Jvm.Cond.methodLink "Twelvehundred" 389 (⟨"Twelvehundred", "would", "(II)I"⟩ : MethodName) ∈ Tgl := inT_4 93 rfl (by decide +kernel)
set_option maxRecDepth 20000 in
theorem tw_860 : Jvm.Cond.instanceMethod (⟨"Twelvehundred", "would", "(II)I"⟩ : MethodName) ∈ Tgl := inT_4 94 rfl (by decide +kernel)
set_option maxRecDepth 20000 in
theorem tw_861 : Jvm.Cond.selects "Twelvehundred" (⟨"Twelvehundred", "would", "(II)I"⟩ : MethodName) (⟨"Twelvehundred", "would", "(II)I"⟩ : MethodName) ∈ Tgl := inT_4 95 rfl (by decide +kernel)
set_option maxRecDepth 20000 in
theorem tw_862 : Jvm.Cond.code (⟨"Twelvehundred", "would", "(II)I"⟩ : MethodName) prog_1_method_24_code 3 (some .int) ∈ Tgl := inT_4 96 rfl (by decide +kernel)
set_option maxRecDepth 20000 in
theorem tw_863 : Jvm.Cond.methodLink "Twelvehundred" 73 (⟨"Twelvehundred", "isWithin", "(III)Z"⟩ : MethodName) ∈ Tgl := inT_4 97 rfl (by decide +kernel)
set_option maxRecDepth 20000 in
theorem tw_864 : Jvm.Cond.static (⟨"Twelvehundred", "isWithin", "(III)Z"⟩ : MethodName) ∈ Tgl := inT_4 98 rfl (by decide +kernel)
set_option maxRecDepth 20000 in
theorem tw_865 : Jvm.Cond.code (⟨"Twelvehundred", "isWithin", "(III)Z"⟩ : MethodName) prog_1_method_29_code 3 (some .boolean) ∈ Tgl := inT_4 99 rfl (by decide +kernel)
set_option maxRecDepth 20000 in
theorem tw_867 : Jvm.Cond.methodLink "Twelvehundred" 343 (⟨"java/lang/Math", "min", "(II)I"⟩ : MethodName) ∈ Tgl := inT_4 101 rfl (by decide +kernel)
set_option maxRecDepth 20000 in
theorem tw_868 : Jvm.Cond.methodLink "Twelvehundred" 392 (⟨"Twelvehundred", "signs", "()Ljava/lang/String;"⟩ : MethodName) ∈ Tgl := inT_4 102 rfl (by decide +kernel)
set_option maxRecDepth 20000 in
theorem tw_869 : Jvm.Cond.methodLink "Twelvehundred" 395 (⟨"java/lang/String", "length", "()I"⟩ : MethodName) ∈ Tgl := inT_4 103 rfl (by decide +kernel)
set_option maxRecDepth 20000 in
theorem tw_870 : Jvm.Cond.methodLink "Twelvehundred" 400 (⟨"Twelvehundred", "isSound", "()Z"⟩ : MethodName) ∈ Tgl := inT_4 104 rfl (by decide +kernel)
set_option maxRecDepth 20000 in
theorem tw_871 : Jvm.Cond.classLink "TwelvehundredLaw" 14 "TwelvehundredLaw$Out" ∈ Tgl := inT_4 105 rfl (by decide +kernel)
set_option maxRecDepth 20000 in
theorem tw_872 : Jvm.Cond.instantiable "TwelvehundredLaw$Out" 1 ∈ Tgl := inT_4 106 rfl (by decide +kernel)
set_option maxRecDepth 20000 in
theorem tw_874 : Jvm.Cond.instanceMethod (⟨"TwelvehundredLaw$Out", "<init>", "()V"⟩ : MethodName) ∈ Tgl := inT_4 108 rfl (by decide +kernel)
set_option maxRecDepth 20000 in
theorem tw_875 : Jvm.Cond.code (⟨"TwelvehundredLaw$Out", "<init>", "()V"⟩ : MethodName) prog_14_method_1_code 1 (none) ∈ Tgl := inT_4 109 rfl (by decide +kernel)
set_option maxRecDepth 20000 in
theorem tw_876 : Jvm.Cond.methodLink "TwelvehundredLaw$Out" 1 (⟨"java/lang/Object", "<init>", "()V"⟩ : MethodName) ∈ Tgl := inT_4 110 rfl (by decide +kernel)
set_option maxRecDepth 20000 in
theorem tw_878 : Jvm.Cond.lays "TwelvehundredLaw$Out" "TwelvehundredLaw$Out" "n" "J" ∈ Tgl := inT_4 112 rfl (by decide +kernel)
set_option maxRecDepth 20000 in
theorem tw_881 : Jvm.Cond.methodLink "TwelvehundredLaw" 92 (⟨"TwelvehundredLaw", "street", "(LTwelvehundred;IILTwelvehundredLaw$Out;)I"⟩ : MethodName) ∈ Tgl := inT_4 115 rfl (by decide +kernel)
set_option maxRecDepth 20000 in
theorem tw_882 : Jvm.Cond.static (⟨"TwelvehundredLaw", "street", "(LTwelvehundred;IILTwelvehundredLaw$Out;)I"⟩ : MethodName) ∈ Tgl := inT_4 116 rfl (by decide +kernel)
set_option maxRecDepth 20000 in
theorem tw_883 : Jvm.Cond.codeWith (⟨"TwelvehundredLaw", "street", "(LTwelvehundred;IILTwelvehundredLaw$Out;)I"⟩ : MethodName) method_2_code 5 (some .int) [(0, 11, 14, 19), (0, 11, 18, 21)] ∈ Tgl := inT_4 117 rfl (by decide +kernel)
set_option maxRecDepth 20000 in
theorem tw_884 : Jvm.Cond.classLink "TwelvehundredLaw" 19 "java/lang/IllegalArgumentException" ∈ Tgl := inT_4 118 rfl (by decide +kernel)
set_option maxRecDepth 20000 in
theorem tw_885 : Jvm.Cond.classLink "TwelvehundredLaw" 21 "java/lang/IllegalStateException" ∈ Tgl := inT_4 119 rfl (by decide +kernel)
set_option maxRecDepth 20000 in
theorem tw_886 : Jvm.Cond.methodLink "TwelvehundredLaw" 7 (⟨"Twelvehundred", "street", "(II)I"⟩ : MethodName) ∈ Tgl := inT_4 120 rfl (by decide +kernel)
set_option maxRecDepth 20000 in
theorem tw_887 : Jvm.Cond.instanceMethod (⟨"Twelvehundred", "street", "(II)I"⟩ : MethodName) ∈ Tgl := inT_4 121 rfl (by decide +kernel)
set_option maxRecDepth 20000 in
theorem tw_888 : Jvm.Cond.selects "Twelvehundred" (⟨"Twelvehundred", "street", "(II)I"⟩ : MethodName) (⟨"Twelvehundred", "street", "(II)I"⟩ : MethodName) ∈ Tgl := inT_4 122 rfl (by decide +kernel)
set_option maxRecDepth 20000 in
theorem tw_889 : Jvm.Cond.code (⟨"Twelvehundred", "street", "(II)I"⟩ : MethodName) prog_1_method_2_code 4 (some .int) ∈ Tgl := inT_4 123 rfl (by decide +kernel)
set_option maxRecDepth 20000 in
theorem tw_891 : Jvm.Cond.classLink "Twelvehundred" 88 "java/lang/IllegalStateException" ∈ Tgl := inT_4 125 rfl (by decide +kernel)
set_option maxRecDepth 20000 in
theorem tw_892 : Jvm.Cond.instantiable "java/lang/IllegalStateException" 6 ∈ Tgl := inT_4 126 rfl (by decide +kernel)
set_option maxRecDepth 20000 in
theorem tw_894 : Jvm.Cond.selects "java/lang/IllegalStateException" (⟨"java/lang/Throwable", "fillInStackTrace", "(I)Ljava/lang/Throwable;"⟩ : MethodName) (⟨"java/lang/Throwable", "fillInStackTrace", "(I)Ljava/lang/Throwable;"⟩ : MethodName) ∈ Tgl := inT_4 128 rfl (by decide +kernel)
set_option maxRecDepth 20000 in
theorem tw_895 : Jvm.Cond.lays "java/lang/IllegalStateException" "java/lang/Throwable" "cause" "Ljava/lang/Throwable;" ∈ Tgl := inT_4 129 rfl (by decide +kernel)
set_option maxRecDepth 20000 in
theorem tw_896 : Jvm.Cond.lays "java/lang/IllegalStateException" "java/lang/Throwable" "stackTrace" "[Ljava/lang/StackTraceElement;" ∈ Tgl := inT_4 130 rfl (by decide +kernel)
set_option maxRecDepth 20000 in
theorem tw_897 : Jvm.Cond.lays "java/lang/IllegalStateException" "java/lang/Throwable" "suppressedExceptions" "Ljava/util/List;" ∈ Tgl := inT_4 131 rfl (by decide +kernel)
set_option maxRecDepth 20000 in
theorem tw_898 : Jvm.Cond.lays "java/lang/IllegalStateException" "java/lang/Throwable" "detailMessage" "Ljava/lang/String;" ∈ Tgl := inT_4 132 rfl (by decide +kernel)
set_option maxRecDepth 20000 in
theorem tw_899 : Jvm.Cond.lays "java/lang/IllegalStateException" "java/lang/Throwable" "backtrace" "Ljava/lang/Object;" ∈ Tgl := inT_4 133 rfl (by decide +kernel)
set_option maxRecDepth 20000 in
theorem tw_901 : Jvm.Cond.methodLink "Twelvehundred" 92 (⟨"java/lang/IllegalStateException", "<init>", "(Ljava/lang/String;)V"⟩ : MethodName) ∈ Tgl := inT_4 135 rfl (by decide +kernel)
set_option maxRecDepth 20000 in
theorem tw_902 : Jvm.Cond.instanceMethod (⟨"java/lang/IllegalStateException", "<init>", "(Ljava/lang/String;)V"⟩ : MethodName) ∈ Tgl := inT_4 136 rfl (by decide +kernel)
set_option maxRecDepth 20000 in
theorem tw_903 : Jvm.Cond.code (⟨"java/lang/IllegalStateException", "<init>", "(Ljava/lang/String;)V"⟩ : MethodName) prog_25_method_2_code 2 (none) ∈ Tgl := inT_4 137 rfl (by decide +kernel)
set_option maxRecDepth 20000 in
theorem tw_904 : Jvm.Cond.methodLink "java/lang/IllegalStateException" 7 (⟨"java/lang/RuntimeException", "<init>", "(Ljava/lang/String;)V"⟩ : MethodName) ∈ Tgl := inT_4 138 rfl (by decide +kernel)
set_option maxRecDepth 20000 in
theorem tw_905 : Jvm.Cond.lays "java/lang/IllegalStateException" "java/lang/Throwable" "depth" "I" ∈ Tgl := inT_4 139 rfl (by decide +kernel)
set_option maxRecDepth 20000 in
theorem tw_906 : Jvm.Cond.superclass "java/lang/IllegalStateException" "java/lang/RuntimeException" ∈ Tgl := inT_4 140 rfl (by decide +kernel)
set_option maxRecDepth 20000 in
theorem tw_907 : Jvm.Cond.instantiable "Twelvehundred$Street" 3 ∈ Tgl := inT_4 141 rfl (by decide +kernel)
set_option maxRecDepth 20000 in
theorem tw_908 : Jvm.Cond.methodLink "Twelvehundred" 95 (⟨"Twelvehundred$Street", "<init>", "(III)V"⟩ : MethodName) ∈ Tgl := inT_4 142 rfl (by decide +kernel)
set_option maxRecDepth 20000 in
theorem tw_909 : Jvm.Cond.instanceMethod (⟨"Twelvehundred$Street", "<init>", "(III)V"⟩ : MethodName) ∈ Tgl := inT_4 143 rfl (by decide +kernel)
set_option maxRecDepth 20000 in
theorem tw_910 : Jvm.Cond.code (⟨"Twelvehundred$Street", "<init>", "(III)V"⟩ : MethodName) prog_12_method_1_code 4 (none) ∈ Tgl := inT_4 144 rfl (by decide +kernel)
set_option maxRecDepth 20000 in
theorem tw_911 : Jvm.Cond.methodLink "Twelvehundred$Street" 1 (⟨"java/lang/Object", "<init>", "()V"⟩ : MethodName) ∈ Tgl := inT_4 145 rfl (by decide +kernel)
set_option maxRecDepth 20000 in
theorem tw_912 : Jvm.Cond.fieldLink "Twelvehundred$Street" 7 "Twelvehundred$Street" "number" "I" ∈ Tgl := inT_4 146 rfl (by decide +kernel)
set_option maxRecDepth 20000 in
theorem tw_914 : Jvm.Cond.fieldLink "Twelvehundred$Street" 13 "Twelvehundred$Street" "height" "I" ∈ Tgl := inT_4 148 rfl (by decide +kernel)
set_option maxRecDepth 20000 in
theorem tw_917 : Jvm.Cond.fieldLink "Twelvehundred$Street" 16 "Twelvehundred$Street" "place" "I" ∈ Tgl := inT_4 151 rfl (by decide +kernel)
set_option maxRecDepth 20000 in
theorem tw_920 : Jvm.Cond.laysFinal "Twelvehundred$Street" "Twelvehundred$Street" "number" "I" ∈ Tgl := inT_4 154 rfl (by decide +kernel)
set_option maxRecDepth 20000 in
theorem tw_922 : Jvm.Cond.laysFinal "Twelvehundred$Street" "Twelvehundred$Street" "height" "I" ∈ Tgl := inT_4 156 rfl (by decide +kernel)
set_option maxRecDepth 20000 in
theorem tw_924 : Jvm.Cond.laysFinal "Twelvehundred$Street" "Twelvehundred$Street" "place" "I" ∈ Tgl := inT_4 158 rfl (by decide +kernel)
set_option maxRecDepth 20000 in
theorem tw_927 : Jvm.Cond.methodLink "Twelvehundred" 98 (⟨"java/util/ArrayList", "add", "(Ljava/lang/Object;)Z"⟩ : MethodName) ∈ Tgl := inT_4 161 rfl (by decide +kernel)
set_option maxRecDepth 20000 in
theorem tw_928 : Jvm.Cond.instanceMethod (⟨"java/util/ArrayList", "add", "(Ljava/lang/Object;)Z"⟩ : MethodName) ∈ Tgl := inT_4 162 rfl (by decide +kernel)
set_option maxRecDepth 20000 in
theorem tw_929 : Jvm.Cond.selects "java/util/ArrayList" (⟨"java/util/ArrayList", "add", "(Ljava/lang/Object;)Z"⟩ : MethodName) (⟨"java/util/ArrayList", "add", "(Ljava/lang/Object;)Z"⟩ : MethodName) ∈ Tgl := inT_4 163 rfl (by decide +kernel)
set_option maxRecDepth 20000 in
theorem tw_930 : Jvm.Cond.code (⟨"java/util/ArrayList", "add", "(Ljava/lang/Object;)Z"⟩ : MethodName) prog_43_method_25_code 2 (some .boolean) ∈ Tgl := inT_4 164 rfl (by decide +kernel)
set_option maxRecDepth 20000 in
theorem tw_931 : Jvm.Cond.methodLink "java/util/ArrayList" 131 (⟨"java/util/ArrayList", "add", "(Ljava/lang/Object;[Ljava/lang/Object;I)V"⟩ : MethodName) ∈ Tgl := inT_4 165 rfl (by decide +kernel)
set_option maxRecDepth 20000 in
theorem tw_933 : Jvm.Cond.instanceMethod (⟨"java/util/ArrayList", "add", "(Ljava/lang/Object;[Ljava/lang/Object;I)V"⟩ : MethodName) ∈ Tgl := inT_4 167 rfl (by decide +kernel)
set_option maxRecDepth 20000 in
theorem tw_934 : Jvm.Cond.code (⟨"java/util/ArrayList", "add", "(Ljava/lang/Object;[Ljava/lang/Object;I)V"⟩ : MethodName) prog_43_method_24_code 4 (none) ∈ Tgl := inT_4 168 rfl (by decide +kernel)
set_option maxRecDepth 20000 in
theorem tw_935 : Jvm.Cond.methodLink "java/util/ArrayList" 129 (⟨"java/util/ArrayList", "grow", "()[Ljava/lang/Object;"⟩ : MethodName) ∈ Tgl := inT_4 169 rfl (by decide +kernel)
set_option maxRecDepth 20000 in
theorem tw_937 : Jvm.Cond.instanceMethod (⟨"java/util/ArrayList", "grow", "()[Ljava/lang/Object;"⟩ : MethodName) ∈ Tgl := inT_4 171 rfl (by decide +kernel)
set_option maxRecDepth 20000 in
theorem tw_938 : Jvm.Cond.code (⟨"java/util/ArrayList", "grow", "()[Ljava/lang/Object;"⟩ : MethodName) prog_43_method_7_code 1 (some (.array (.object "java/lang/Object"))) ∈ Tgl := inT_4 172 rfl (by decide +kernel)
set_option maxRecDepth 20000 in
theorem tw_939 : Jvm.Cond.methodLink "java/util/ArrayList" 69 (⟨"java/util/ArrayList", "grow", "(I)[Ljava/lang/Object;"⟩ : MethodName) ∈ Tgl := inT_4 173 rfl (by decide +kernel)
set_option maxRecDepth 20000 in
theorem tw_941 : Jvm.Cond.instanceMethod (⟨"java/util/ArrayList", "grow", "(I)[Ljava/lang/Object;"⟩ : MethodName) ∈ Tgl := inT_4 175 rfl (by decide +kernel)
set_option maxRecDepth 20000 in
theorem tw_942 : Jvm.Cond.code (⟨"java/util/ArrayList", "grow", "(I)[Ljava/lang/Object;"⟩ : MethodName) prog_43_method_6_code 4 (some (.array (.object "java/lang/Object"))) ∈ Tgl := inT_4 176 rfl (by decide +kernel)
set_option maxRecDepth 20000 in
theorem tw_943 : Jvm.Cond.methodLink "java/util/ArrayList" 73 (⟨"jdk/internal/util/ArraysSupport", "newLength", "(III)I"⟩ : MethodName) ∈ Tgl := inT_4 177 rfl (by decide +kernel)
set_option maxRecDepth 20000 in
theorem tw_944 : Jvm.Cond.methodLink "java/util/ArrayList" 66 (⟨"java/util/Arrays", "copyOf", "([Ljava/lang/Object;I)[Ljava/lang/Object;"⟩ : MethodName) ∈ Tgl := inT_4 178 rfl (by decide +kernel)
set_option maxRecDepth 20000 in
theorem tw_945 : Jvm.Cond.static (⟨"java/util/Arrays", "copyOf", "([Ljava/lang/Object;I)[Ljava/lang/Object;"⟩ : MethodName) ∈ Tgl := inT_4 179 rfl (by decide +kernel)
set_option maxRecDepth 20000 in
theorem tw_946 : Jvm.Cond.code (⟨"java/util/Arrays", "copyOf", "([Ljava/lang/Object;I)[Ljava/lang/Object;"⟩ : MethodName) prog_45_method_119_code 2 (some (.array (.object "java/lang/Object"))) ∈ Tgl := inT_4 180 rfl (by decide +kernel)
set_option maxRecDepth 20000 in
theorem tw_947 : Jvm.Cond.methodLink "java/util/Arrays" 86 (⟨"java/lang/Object", "getClass", "()Ljava/lang/Class;"⟩ : MethodName) ∈ Tgl := inT_4 181 rfl (by decide +kernel)
set_option maxRecDepth 20000 in
theorem tw_948 : Jvm.Cond.instanceMethod (⟨"java/lang/Object", "getClass", "()Ljava/lang/Class;"⟩ : MethodName) ∈ Tgl := inT_4 182 rfl (by decide +kernel)
set_option maxRecDepth 20000 in
theorem tw_949 : Jvm.Cond.sameMethod "java/lang/Object" "java/lang/Object" "getClass" "()Ljava/lang/Class;" ∈ Tgl := inT_4 183 rfl (by decide +kernel)
set_option maxRecDepth 20000 in
theorem tw_965 : Jvm.Cond.selects "java/lang/IllegalArgumentException" (⟨"java/lang/Object", "getClass", "()Ljava/lang/Class;"⟩ : MethodName) (⟨"java/lang/Object", "getClass", "()Ljava/lang/Class;"⟩ : MethodName) ∈ Tgl := inT_4 199 rfl (by decide +kernel)
set_option maxRecDepth 20000 in
theorem tw_966 : Jvm.Cond.selects "java/lang/IllegalStateException" (⟨"java/lang/Object", "getClass", "()Ljava/lang/Class;"⟩ : MethodName) (⟨"java/lang/Object", "getClass", "()Ljava/lang/Class;"⟩ : MethodName) ∈ Tgl := inT_4 200 rfl (by decide +kernel)
set_option maxRecDepth 20000 in
theorem tw_967 : Jvm.Cond.selects "java/lang/IndexOutOfBoundsException" (⟨"java/lang/Object", "getClass", "()Ljava/lang/Class;"⟩ : MethodName) (⟨"java/lang/Object", "getClass", "()Ljava/lang/Class;"⟩ : MethodName) ∈ Tgl := inT_4 201 rfl (by decide +kernel)
set_option maxRecDepth 20000 in
theorem tw_973 : Jvm.Cond.native (⟨"java/lang/Object", "getClass", "()Ljava/lang/Class;"⟩ : MethodName) ∈ Tgl := inT_4 207 rfl (by decide +kernel)
set_option maxRecDepth 20000 in
theorem tw_974 : Jvm.Cond.methodLink "java/util/Arrays" 300 (⟨"java/util/Arrays", "copyOf", "([Ljava/lang/Object;ILjava/lang/Class;)[Ljava/lang/Object;"⟩ : MethodName) ∈ Tgl := inT_4 208 rfl (by decide +kernel)
set_option maxRecDepth 20000 in
theorem tw_975 : Jvm.Cond.static (⟨"java/util/Arrays", "copyOf", "([Ljava/lang/Object;ILjava/lang/Class;)[Ljava/lang/Object;"⟩ : MethodName) ∈ Tgl := inT_4 209 rfl (by decide +kernel)
set_option maxRecDepth 20000 in
theorem tw_976 : Jvm.Cond.code (⟨"java/util/Arrays", "copyOf", "([Ljava/lang/Object;ILjava/lang/Class;)[Ljava/lang/Object;"⟩ : MethodName) prog_45_method_120_code 4 (some (.array (.object "java/lang/Object"))) ∈ Tgl := inT_4 210 rfl (by decide +kernel)
set_option maxRecDepth 20000 in
theorem tw_977 : Jvm.Cond.classLink "java/util/Arrays" 110 "[Ljava/lang/Object;" ∈ Tgl := inT_4 211 rfl (by decide +kernel)
set_option maxRecDepth 20000 in
theorem tw_979 : Jvm.Cond.classLink "java/util/Arrays" 2 "java/lang/Object" ∈ Tgl := inT_4 213 rfl (by decide +kernel)
set_option maxRecDepth 20000 in
theorem tw_980 : Jvm.Cond.methodLink "java/util/ArrayList" 79 (⟨"java/lang/Math", "max", "(II)I"⟩ : MethodName) ∈ Tgl := inT_4 214 rfl (by decide +kernel)
set_option maxRecDepth 20000 in
theorem tw_981 : Jvm.Cond.classLink "java/util/ArrayList" 7 "java/lang/Object" ∈ Tgl := inT_4 215 rfl (by decide +kernel)
set_option maxRecDepth 20000 in
theorem tw_982 : Jvm.Cond.methodLink "TwelvehundredLaw" 102 (⟨"TwelvehundredLaw", "hall", "(LTwelvehundred;IILTwelvehundredLaw$Out;)I"⟩ : MethodName) ∈ Tgl := inT_4 216 rfl (by decide +kernel)
set_option maxRecDepth 20000 in
theorem tw_983 : Jvm.Cond.static (⟨"TwelvehundredLaw", "hall", "(LTwelvehundred;IILTwelvehundredLaw$Out;)I"⟩ : MethodName) ∈ Tgl := inT_4 217 rfl (by decide +kernel)
set_option maxRecDepth 20000 in
theorem tw_984 : Jvm.Cond.codeWith (⟨"TwelvehundredLaw", "hall", "(LTwelvehundred;IILTwelvehundredLaw$Out;)I"⟩ : MethodName) method_3_code 5 (some .int) [(0, 11, 14, 19), (0, 11, 18, 21)] ∈ Tgl := inT_4 218 rfl (by decide +kernel)
set_option maxRecDepth 20000 in
theorem tw_985 : Jvm.Cond.methodLink "TwelvehundredLaw" 23 (⟨"Twelvehundred", "hall", "(II)I"⟩ : MethodName) ∈ Tgl := inT_4 219 rfl (by decide +kernel)
set_option maxRecDepth 20000 in
theorem tw_986 : Jvm.Cond.instanceMethod (⟨"Twelvehundred", "hall", "(II)I"⟩ : MethodName) ∈ Tgl := inT_4 220 rfl (by decide +kernel)
set_option maxRecDepth 20000 in
theorem tw_987 : Jvm.Cond.selects "Twelvehundred" (⟨"Twelvehundred", "hall", "(II)I"⟩ : MethodName) (⟨"Twelvehundred", "hall", "(II)I"⟩ : MethodName) ∈ Tgl := inT_4 221 rfl (by decide +kernel)
set_option maxRecDepth 20000 in
theorem tw_988 : Jvm.Cond.code (⟨"Twelvehundred", "hall", "(II)I"⟩ : MethodName) prog_1_method_3_code 4 (some .int) ∈ Tgl := inT_4 222 rfl (by decide +kernel)
set_option maxRecDepth 20000 in
theorem tw_991 : Jvm.Cond.instantiable "Twelvehundred$Hall" 3 ∈ Tgl := inT_4 225 rfl (by decide +kernel)
set_option maxRecDepth 20000 in
theorem tw_992 : Jvm.Cond.methodLink "Twelvehundred" 108 (⟨"Twelvehundred$Hall", "<init>", "(III)V"⟩ : MethodName) ∈ Tgl := inT_4 226 rfl (by decide +kernel)
set_option maxRecDepth 20000 in
theorem tw_993 : Jvm.Cond.instanceMethod (⟨"Twelvehundred$Hall", "<init>", "(III)V"⟩ : MethodName) ∈ Tgl := inT_4 227 rfl (by decide +kernel)
set_option maxRecDepth 20000 in
theorem tw_994 : Jvm.Cond.code (⟨"Twelvehundred$Hall", "<init>", "(III)V"⟩ : MethodName) prog_4_method_1_code 4 (none) ∈ Tgl := inT_4 228 rfl (by decide +kernel)
set_option maxRecDepth 20000 in
theorem tw_995 : Jvm.Cond.methodLink "Twelvehundred$Hall" 1 (⟨"java/lang/Object", "<init>", "()V"⟩ : MethodName) ∈ Tgl := inT_4 229 rfl (by decide +kernel)
set_option maxRecDepth 20000 in
theorem tw_996 : Jvm.Cond.fieldLink "Twelvehundred$Hall" 7 "Twelvehundred$Hall" "number" "I" ∈ Tgl := inT_4 230 rfl (by decide +kernel)
set_option maxRecDepth 20000 in
theorem tw_1000 : Jvm.Cond.fieldLink "Twelvehundred$Hall" 16 "Twelvehundred$Hall" "place" "I" ∈ Tgl := inT_4 234 rfl (by decide +kernel)
set_option maxRecDepth 20000 in
theorem tw_1003 : Jvm.Cond.fieldLink "Twelvehundred$Hall" 13 "Twelvehundred$Hall" "roomCount" "I" ∈ Tgl := inT_4 237 rfl (by decide +kernel)
set_option maxRecDepth 20000 in
theorem tw_1006 : Jvm.Cond.laysFinal "Twelvehundred$Hall" "Twelvehundred$Hall" "number" "I" ∈ Tgl := inT_5 0 rfl (by decide +kernel)
set_option maxRecDepth 20000 in
theorem tw_1008 : Jvm.Cond.laysFinal "Twelvehundred$Hall" "Twelvehundred$Hall" "place" "I" ∈ Tgl := inT_5 2 rfl (by decide +kernel)
set_option maxRecDepth 20000 in
theorem tw_1010 : Jvm.Cond.lays "Twelvehundred$Hall" "Twelvehundred$Hall" "roomCount" "I" ∈ Tgl := inT_5 4 rfl (by decide +kernel)
set_option maxRecDepth 20000 in
theorem tw_1013 : Jvm.Cond.methodLink "Twelvehundred" 109 (⟨"Twelvehundred$Asking", "settle", "()V"⟩ : MethodName) ∈ Tgl := inT_5 7 rfl (by decide +kernel)
set_option maxRecDepth 20000 in
theorem tw_1014 : Jvm.Cond.instanceMethod (⟨"Twelvehundred$Asking", "settle", "()V"⟩ : MethodName) ∈ Tgl := inT_5 8 rfl (by decide +kernel)
set_option maxRecDepth 20000 in
theorem tw_1015 : Jvm.Cond.selects "Twelvehundred$Asking" (⟨"Twelvehundred$Asking", "settle", "()V"⟩ : MethodName) (⟨"Twelvehundred$Asking", "settle", "()V"⟩ : MethodName) ∈ Tgl := inT_5 9 rfl (by decide +kernel)
set_option maxRecDepth 20000 in
theorem tw_1016 : Jvm.Cond.code (⟨"Twelvehundred$Asking", "settle", "()V"⟩ : MethodName) prog_2_method_2_code 2 (none) ∈ Tgl := inT_5 10 rfl (by decide +kernel)
set_option maxRecDepth 20000 in
theorem tw_1017 : Jvm.Cond.methodLink "Twelvehundred$Asking" 30 (⟨"Twelvehundred$Placing", "clear", "()V"⟩ : MethodName) ∈ Tgl := inT_5 11 rfl (by decide +kernel)
set_option maxRecDepth 20000 in
theorem tw_1018 : Jvm.Cond.methodLink "Twelvehundred$Asking" 35 (⟨"Twelvehundred$Asking", "askNext", "()V"⟩ : MethodName) ∈ Tgl := inT_5 12 rfl (by decide +kernel)
set_option maxRecDepth 20000 in
theorem tw_1020 : Jvm.Cond.instanceMethod (⟨"Twelvehundred$Asking", "askNext", "()V"⟩ : MethodName) ∈ Tgl := inT_5 14 rfl (by decide +kernel)
set_option maxRecDepth 20000 in
theorem tw_1021 : Jvm.Cond.code (⟨"Twelvehundred$Asking", "askNext", "()V"⟩ : MethodName) prog_2_method_3_code 4 (none) ∈ Tgl := inT_5 15 rfl (by decide +kernel)
set_option maxRecDepth 20000 in
theorem tw_1022 : Jvm.Cond.methodLink "Twelvehundred$Asking" 38 (⟨"java/util/ArrayList", "size", "()I"⟩ : MethodName) ∈ Tgl := inT_5 16 rfl (by decide +kernel)
set_option maxRecDepth 20000 in
theorem tw_1023 : Jvm.Cond.methodLink "Twelvehundred$Asking" 44 (⟨"java/util/ArrayList", "get", "(I)Ljava/lang/Object;"⟩ : MethodName) ∈ Tgl := inT_5 17 rfl (by decide +kernel)
set_option maxRecDepth 20000 in
theorem tw_1024 : Jvm.Cond.classLink "Twelvehundred$Asking" 48 "Twelvehundred$Household" ∈ Tgl := inT_5 18 rfl (by decide +kernel)
set_option maxRecDepth 20000 in
theorem tw_1025 : Jvm.Cond.methodLink "Twelvehundred$Asking" 53 (⟨"Twelvehundred$Placing", "hallOf", "(LTwelvehundred$Household;)LTwelvehundred$Hall;"⟩ : MethodName) ∈ Tgl := inT_5 19 rfl (by decide +kernel)
set_option maxRecDepth 20000 in
theorem tw_1026 : Jvm.Cond.methodLink "Twelvehundred$Asking" 57 (⟨"Twelvehundred$Asking", "favouriteNotAsked", "(LTwelvehundred$Household;)LTwelvehundred$Hall;"⟩ : MethodName) ∈ Tgl := inT_5 20 rfl (by decide +kernel)
set_option maxRecDepth 20000 in
theorem tw_1028 : Jvm.Cond.instanceMethod (⟨"Twelvehundred$Asking", "favouriteNotAsked", "(LTwelvehundred$Household;)LTwelvehundred$Hall;"⟩ : MethodName) ∈ Tgl := inT_5 22 rfl (by decide +kernel)
set_option maxRecDepth 20000 in
theorem tw_1029 : Jvm.Cond.code (⟨"Twelvehundred$Asking", "favouriteNotAsked", "(LTwelvehundred$Household;)LTwelvehundred$Hall;"⟩ : MethodName) prog_2_method_4_code 5 (some (.object "Twelvehundred$Hall")) ∈ Tgl := inT_5 23 rfl (by decide +kernel)
set_option maxRecDepth 20000 in
theorem tw_1030 : Jvm.Cond.classLink "Twelvehundred$Asking" 64 "Twelvehundred$Hall" ∈ Tgl := inT_5 24 rfl (by decide +kernel)
set_option maxRecDepth 20000 in
theorem tw_1031 : Jvm.Cond.methodLink "Twelvehundred$Asking" 66 (⟨"Twelvehundred$Asking", "hasAsked", "(LTwelvehundred$Household;LTwelvehundred$Hall;)Z"⟩ : MethodName) ∈ Tgl := inT_5 25 rfl (by decide +kernel)
set_option maxRecDepth 20000 in
theorem tw_1033 : Jvm.Cond.instanceMethod (⟨"Twelvehundred$Asking", "hasAsked", "(LTwelvehundred$Household;LTwelvehundred$Hall;)Z"⟩ : MethodName) ∈ Tgl := inT_5 27 rfl (by decide +kernel)
set_option maxRecDepth 20000 in
theorem tw_1034 : Jvm.Cond.code (⟨"Twelvehundred$Asking", "hasAsked", "(LTwelvehundred$Household;LTwelvehundred$Hall;)Z"⟩ : MethodName) prog_2_method_5_code 3 (some .boolean) ∈ Tgl := inT_5 28 rfl (by decide +kernel)
set_option maxRecDepth 20000 in
theorem tw_1036 : Jvm.Cond.methodLink "Twelvehundred$Asking" 70 (⟨"Twelvehundred$Household", "wouldRather", "(LTwelvehundred$Hall;LTwelvehundred$Hall;)Z"⟩ : MethodName) ∈ Tgl := inT_5 30 rfl (by decide +kernel)
set_option maxRecDepth 20000 in
theorem tw_1037 : Jvm.Cond.methodLink "Twelvehundred$Asking" 60 (⟨"Twelvehundred$Asking", "ask", "(LTwelvehundred$Household;LTwelvehundred$Hall;)V"⟩ : MethodName) ∈ Tgl := inT_5 31 rfl (by decide +kernel)
set_option maxRecDepth 20000 in
theorem tw_1039 : Jvm.Cond.instanceMethod (⟨"Twelvehundred$Asking", "ask", "(LTwelvehundred$Household;LTwelvehundred$Hall;)V"⟩ : MethodName) ∈ Tgl := inT_5 33 rfl (by decide +kernel)
set_option maxRecDepth 20000 in
theorem tw_1040 : Jvm.Cond.code (⟨"Twelvehundred$Asking", "ask", "(LTwelvehundred$Household;LTwelvehundred$Hall;)V"⟩ : MethodName) prog_2_method_6_code 4 (none) ∈ Tgl := inT_5 34 rfl (by decide +kernel)
set_option maxRecDepth 20000 in
theorem tw_1041 : Jvm.Cond.methodLink "Twelvehundred$Asking" 82 (⟨"Twelvehundred$Placing", "hasRoom", "(LTwelvehundred$Hall;)Z"⟩ : MethodName) ∈ Tgl := inT_5 35 rfl (by decide +kernel)
set_option maxRecDepth 20000 in
theorem tw_1042 : Jvm.Cond.methodLink "Twelvehundred$Asking" 86 (⟨"Twelvehundred$Placing", "put", "(LTwelvehundred$Household;LTwelvehundred$Hall;)V"⟩ : MethodName) ∈ Tgl := inT_5 36 rfl (by decide +kernel)
set_option maxRecDepth 20000 in
theorem tw_1043 : Jvm.Cond.methodLink "Twelvehundred$Asking" 89 (⟨"Twelvehundred$Placing", "leastOf", "(LTwelvehundred$Hall;)LTwelvehundred$Household;"⟩ : MethodName) ∈ Tgl := inT_5 37 rfl (by decide +kernel)
set_option maxRecDepth 20000 in
theorem tw_1044 : Jvm.Cond.instanceMethod (⟨"Twelvehundred$Placing", "leastOf", "(LTwelvehundred$Hall;)LTwelvehundred$Household;"⟩ : MethodName) ∈ Tgl := inT_5 38 rfl (by decide +kernel)
set_option maxRecDepth 20000 in
theorem tw_1045 : Jvm.Cond.selects "Twelvehundred$Placing" (⟨"Twelvehundred$Placing", "leastOf", "(LTwelvehundred$Hall;)LTwelvehundred$Household;"⟩ : MethodName) (⟨"Twelvehundred$Placing", "leastOf", "(LTwelvehundred$Hall;)LTwelvehundred$Household;"⟩ : MethodName) ∈ Tgl := inT_5 39 rfl (by decide +kernel)
set_option maxRecDepth 20000 in
theorem tw_1046 : Jvm.Cond.code (⟨"Twelvehundred$Placing", "leastOf", "(LTwelvehundred$Hall;)LTwelvehundred$Household;"⟩ : MethodName) prog_9_method_8_code 5 (some (.object "Twelvehundred$Household")) ∈ Tgl := inT_5 40 rfl (by decide +kernel)
set_option maxRecDepth 20000 in
theorem tw_1047 : Jvm.Cond.methodLink "Twelvehundred$Asking" 93 (⟨"Twelvehundred$Household", "goesBefore", "(LTwelvehundred$Household;)Z"⟩ : MethodName) ∈ Tgl := inT_5 41 rfl (by decide +kernel)
set_option maxRecDepth 20000 in
theorem tw_1048 : Jvm.Cond.methodLink "TwelvehundredLaw" 105 (⟨"TwelvehundredLaw", "rooms", "(LTwelvehundred;IILTwelvehundredLaw$Out;)I"⟩ : MethodName) ∈ Tgl := inT_5 42 rfl (by decide +kernel)
set_option maxRecDepth 20000 in
theorem tw_1049 : Jvm.Cond.static (⟨"TwelvehundredLaw", "rooms", "(LTwelvehundred;IILTwelvehundredLaw$Out;)I"⟩ : MethodName) ∈ Tgl := inT_5 43 rfl (by decide +kernel)
set_option maxRecDepth 20000 in
theorem tw_1050 : Jvm.Cond.codeWith (⟨"TwelvehundredLaw", "rooms", "(LTwelvehundred;IILTwelvehundredLaw$Out;)I"⟩ : MethodName) method_4_code 5 (some .int) [(0, 11, 14, 29), (0, 11, 18, 19)] ∈ Tgl := inT_5 44 rfl (by decide +kernel)
set_option maxRecDepth 20000 in
theorem tw_1051 : Jvm.Cond.classLink "TwelvehundredLaw" 29 "java/lang/IndexOutOfBoundsException" ∈ Tgl := inT_5 45 rfl (by decide +kernel)
set_option maxRecDepth 20000 in
theorem tw_1052 : Jvm.Cond.methodLink "TwelvehundredLaw" 26 (⟨"Twelvehundred", "rooms", "(II)I"⟩ : MethodName) ∈ Tgl := inT_5 46 rfl (by decide +kernel)
set_option maxRecDepth 20000 in
theorem tw_1053 : Jvm.Cond.instanceMethod (⟨"Twelvehundred", "rooms", "(II)I"⟩ : MethodName) ∈ Tgl := inT_5 47 rfl (by decide +kernel)
set_option maxRecDepth 20000 in
theorem tw_1054 : Jvm.Cond.selects "Twelvehundred" (⟨"Twelvehundred", "rooms", "(II)I"⟩ : MethodName) (⟨"Twelvehundred", "rooms", "(II)I"⟩ : MethodName) ∈ Tgl := inT_5 48 rfl (by decide +kernel)
set_option maxRecDepth 20000 in
theorem tw_1055 : Jvm.Cond.code (⟨"Twelvehundred", "rooms", "(II)I"⟩ : MethodName) prog_1_method_4_code 5 (some .int) ∈ Tgl := inT_5 49 rfl (by decide +kernel)
set_option maxRecDepth 20000 in
theorem tw_1057 : Jvm.Cond.methodLink "TwelvehundredLaw" 108 (⟨"TwelvehundredLaw", "household", "(LTwelvehundred;IIZLTwelvehundredLaw$Out;)I"⟩ : MethodName) ∈ Tgl := inT_5 51 rfl (by decide +kernel)
set_option maxRecDepth 20000 in
theorem tw_1058 : Jvm.Cond.static (⟨"TwelvehundredLaw", "household", "(LTwelvehundred;IIZLTwelvehundredLaw$Out;)I"⟩ : MethodName) ∈ Tgl := inT_5 52 rfl (by decide +kernel)
set_option maxRecDepth 20000 in
theorem tw_1059 : Jvm.Cond.codeWith (⟨"TwelvehundredLaw", "household", "(LTwelvehundred;IIZLTwelvehundredLaw$Out;)I"⟩ : MethodName) method_5_code 6 (some .int) [(0, 13, 16, 29), (0, 13, 20, 19), (0, 13, 24, 21)] ∈ Tgl := inT_5 53 rfl (by decide +kernel)
set_option maxRecDepth 20000 in
theorem tw_1060 : Jvm.Cond.methodLink "TwelvehundredLaw" 31 (⟨"Twelvehundred", "household", "(IIZ)I"⟩ : MethodName) ∈ Tgl := inT_5 54 rfl (by decide +kernel)
set_option maxRecDepth 20000 in
theorem tw_1061 : Jvm.Cond.instanceMethod (⟨"Twelvehundred", "household", "(IIZ)I"⟩ : MethodName) ∈ Tgl := inT_5 55 rfl (by decide +kernel)
set_option maxRecDepth 20000 in
theorem tw_1062 : Jvm.Cond.selects "Twelvehundred" (⟨"Twelvehundred", "household", "(IIZ)I"⟩ : MethodName) (⟨"Twelvehundred", "household", "(IIZ)I"⟩ : MethodName) ∈ Tgl := inT_5 56 rfl (by decide +kernel)
set_option maxRecDepth 20000 in
theorem tw_1063 : Jvm.Cond.code (⟨"Twelvehundred", "household", "(IIZ)I"⟩ : MethodName) prog_1_method_5_code 6 (some .int) ∈ Tgl := inT_5 57 rfl (by decide +kernel)
set_option maxRecDepth 20000 in
theorem tw_1066 : Jvm.Cond.instantiable "Twelvehundred$Household" 5 ∈ Tgl := inT_5 60 rfl (by decide +kernel)
set_option maxRecDepth 20000 in
theorem tw_1067 : Jvm.Cond.methodLink "Twelvehundred" 135 (⟨"Twelvehundred$Household", "<init>", "(ILTwelvehundred$Street;IZ)V"⟩ : MethodName) ∈ Tgl := inT_5 61 rfl (by decide +kernel)
set_option maxRecDepth 20000 in
theorem tw_1068 : Jvm.Cond.instanceMethod (⟨"Twelvehundred$Household", "<init>", "(ILTwelvehundred$Street;IZ)V"⟩ : MethodName) ∈ Tgl := inT_5 62 rfl (by decide +kernel)
set_option maxRecDepth 20000 in
theorem tw_1069 : Jvm.Cond.code (⟨"Twelvehundred$Household", "<init>", "(ILTwelvehundred$Street;IZ)V"⟩ : MethodName) prog_5_method_1_code 5 (none) ∈ Tgl := inT_5 63 rfl (by decide +kernel)
set_option maxRecDepth 20000 in
theorem tw_1070 : Jvm.Cond.methodLink "Twelvehundred$Household" 3 (⟨"java/lang/Object", "<init>", "()V"⟩ : MethodName) ∈ Tgl := inT_5 64 rfl (by decide +kernel)
set_option maxRecDepth 20000 in
theorem tw_1071 : Jvm.Cond.fieldLink "Twelvehundred$Household" 15 "Twelvehundred$Household" "number" "I" ∈ Tgl := inT_5 65 rfl (by decide +kernel)
set_option maxRecDepth 20000 in
theorem tw_1074 : Jvm.Cond.fieldLink "Twelvehundred$Household" 18 "Twelvehundred$Household" "home" "LTwelvehundred$Street;" ∈ Tgl := inT_5 68 rfl (by decide +kernel)
set_option maxRecDepth 20000 in
theorem tw_1077 : Jvm.Cond.fieldLink "Twelvehundred$Household" 22 "Twelvehundred$Household" "people" "I" ∈ Tgl := inT_5 71 rfl (by decide +kernel)
set_option maxRecDepth 20000 in
theorem tw_1080 : Jvm.Cond.fieldLink "Twelvehundred$Household" 25 "Twelvehundred$Household" "isFrail" "Z" ∈ Tgl := inT_5 74 rfl (by decide +kernel)
set_option maxRecDepth 20000 in
theorem tw_1082 : Jvm.Cond.fieldLink "Twelvehundred$Household" 9 "Twelvehundred$Household" "state" "I" ∈ Tgl := inT_5 76 rfl (by decide +kernel)
set_option maxRecDepth 20000 in
theorem tw_1087 : Jvm.Cond.laysFinal "Twelvehundred$Household" "Twelvehundred$Household" "number" "I" ∈ Tgl := inT_5 81 rfl (by decide +kernel)
set_option maxRecDepth 20000 in
theorem tw_1089 : Jvm.Cond.laysFinal "Twelvehundred$Household" "Twelvehundred$Household" "home" "LTwelvehundred$Street;" ∈ Tgl := inT_5 83 rfl (by decide +kernel)
set_option maxRecDepth 20000 in
theorem tw_1091 : Jvm.Cond.laysFinal "Twelvehundred$Household" "Twelvehundred$Household" "people" "I" ∈ Tgl := inT_5 85 rfl (by decide +kernel)
set_option maxRecDepth 20000 in
theorem tw_1093 : Jvm.Cond.laysFinal "Twelvehundred$Household" "Twelvehundred$Household" "isFrail" "Z" ∈ Tgl := inT_5 87 rfl (by decide +kernel)
set_option maxRecDepth 20000 in
theorem tw_1095 : Jvm.Cond.lays "Twelvehundred$Household" "Twelvehundred$Household" "state" "I" ∈ Tgl := inT_5 89 rfl (by decide +kernel)
set_option maxRecDepth 20000 in
theorem tw_1098 : Jvm.Cond.methodLink "TwelvehundredLaw" 112 (⟨"TwelvehundredLaw", "river", "(LTwelvehundred;IILTwelvehundredLaw$Out;)I"⟩ : MethodName) ∈ Tgl := inT_5 92 rfl (by decide +kernel)
set_option maxRecDepth 20000 in
theorem tw_1099 : Jvm.Cond.static (⟨"TwelvehundredLaw", "river", "(LTwelvehundred;IILTwelvehundredLaw$Out;)I"⟩ : MethodName) ∈ Tgl := inT_5 93 rfl (by decide +kernel)
set_option maxRecDepth 20000 in
theorem tw_1100 : Jvm.Cond.codeWith (⟨"TwelvehundredLaw", "river", "(LTwelvehundred;IILTwelvehundredLaw$Out;)I"⟩ : MethodName) method_6_code 5 (some .int) [(0, 11, 14, 19)] ∈ Tgl := inT_5 94 rfl (by decide +kernel)
set_option maxRecDepth 20000 in
theorem tw_1101 : Jvm.Cond.methodLink "TwelvehundredLaw" 35 (⟨"Twelvehundred", "river", "(II)I"⟩ : MethodName) ∈ Tgl := inT_5 95 rfl (by decide +kernel)
set_option maxRecDepth 20000 in
theorem tw_1102 : Jvm.Cond.instanceMethod (⟨"Twelvehundred", "river", "(II)I"⟩ : MethodName) ∈ Tgl := inT_5 96 rfl (by decide +kernel)
set_option maxRecDepth 20000 in
theorem tw_1103 : Jvm.Cond.selects "Twelvehundred" (⟨"Twelvehundred", "river", "(II)I"⟩ : MethodName) (⟨"Twelvehundred", "river", "(II)I"⟩ : MethodName) ∈ Tgl := inT_5 97 rfl (by decide +kernel)
set_option maxRecDepth 20000 in
theorem tw_1104 : Jvm.Cond.code (⟨"Twelvehundred", "river", "(II)I"⟩ : MethodName) prog_1_method_6_code 4 (some .int) ∈ Tgl := inT_5 98 rfl (by decide +kernel)
set_option maxRecDepth 20000 in
theorem tw_1106 : Jvm.Cond.methodLink "TwelvehundredLaw" 115 (⟨"TwelvehundredLaw", "buses", "(LTwelvehundred;ILTwelvehundredLaw$Out;)I"⟩ : MethodName) ∈ Tgl := inT_5 100 rfl (by decide +kernel)
set_option maxRecDepth 20000 in
theorem tw_1107 : Jvm.Cond.static (⟨"TwelvehundredLaw", "buses", "(LTwelvehundred;ILTwelvehundredLaw$Out;)I"⟩ : MethodName) ∈ Tgl := inT_5 101 rfl (by decide +kernel)
set_option maxRecDepth 20000 in
theorem tw_1108 : Jvm.Cond.codeWith (⟨"TwelvehundredLaw", "buses", "(LTwelvehundred;ILTwelvehundredLaw$Out;)I"⟩ : MethodName) method_7_code 4 (some .int) [(0, 10, 13, 19)] ∈ Tgl := inT_5 102 rfl (by decide +kernel)
set_option maxRecDepth 20000 in
theorem tw_1109 : Jvm.Cond.methodLink "TwelvehundredLaw" 38 (⟨"Twelvehundred", "buses", "(I)I"⟩ : MethodName) ∈ Tgl := inT_5 103 rfl (by decide +kernel)
set_option maxRecDepth 20000 in
theorem tw_1110 : Jvm.Cond.instanceMethod (⟨"Twelvehundred", "buses", "(I)I"⟩ : MethodName) ∈ Tgl := inT_5 104 rfl (by decide +kernel)
set_option maxRecDepth 20000 in
theorem tw_1111 : Jvm.Cond.selects "Twelvehundred" (⟨"Twelvehundred", "buses", "(I)I"⟩ : MethodName) (⟨"Twelvehundred", "buses", "(I)I"⟩ : MethodName) ∈ Tgl := inT_5 105 rfl (by decide +kernel)
set_option maxRecDepth 20000 in
theorem tw_1112 : Jvm.Cond.code (⟨"Twelvehundred", "buses", "(I)I"⟩ : MethodName) prog_1_method_7_code 3 (some .int) ∈ Tgl := inT_5 106 rfl (by decide +kernel)
set_option maxRecDepth 20000 in
theorem tw_1114 : Jvm.Cond.methodLink "TwelvehundredLaw" 119 (⟨"TwelvehundredLaw", "fetch", "(LTwelvehundred;ILTwelvehundredLaw$Out;)I"⟩ : MethodName) ∈ Tgl := inT_5 108 rfl (by decide +kernel)
set_option maxRecDepth 20000 in
theorem tw_1115 : Jvm.Cond.static (⟨"TwelvehundredLaw", "fetch", "(LTwelvehundred;ILTwelvehundredLaw$Out;)I"⟩ : MethodName) ∈ Tgl := inT_5 109 rfl (by decide +kernel)
set_option maxRecDepth 20000 in
theorem tw_1116 : Jvm.Cond.codeWith (⟨"TwelvehundredLaw", "fetch", "(LTwelvehundred;ILTwelvehundredLaw$Out;)I"⟩ : MethodName) method_8_code 4 (some .int) [(0, 10, 13, 29), (0, 10, 16, 21)] ∈ Tgl := inT_5 110 rfl (by decide +kernel)
set_option maxRecDepth 20000 in
theorem tw_1117 : Jvm.Cond.methodLink "TwelvehundredLaw" 42 (⟨"Twelvehundred", "fetch", "(I)I"⟩ : MethodName) ∈ Tgl := inT_5 111 rfl (by decide +kernel)
set_option maxRecDepth 20000 in
theorem tw_1118 : Jvm.Cond.instanceMethod (⟨"Twelvehundred", "fetch", "(I)I"⟩ : MethodName) ∈ Tgl := inT_5 112 rfl (by decide +kernel)
set_option maxRecDepth 20000 in
theorem tw_1119 : Jvm.Cond.selects "Twelvehundred" (⟨"Twelvehundred", "fetch", "(I)I"⟩ : MethodName) (⟨"Twelvehundred", "fetch", "(I)I"⟩ : MethodName) ∈ Tgl := inT_5 113 rfl (by decide +kernel)
set_option maxRecDepth 20000 in
theorem tw_1120 : Jvm.Cond.code (⟨"Twelvehundred", "fetch", "(I)I"⟩ : MethodName) prog_1_method_8_code 3 (some .int) ∈ Tgl := inT_5 114 rfl (by decide +kernel)
set_option maxRecDepth 20000 in
theorem tw_1122 : Jvm.Cond.methodLink "TwelvehundredLaw" 122 (⟨"TwelvehundredLaw", "pass", "(LTwelvehundred;ILTwelvehundredLaw$Out;)I"⟩ : MethodName) ∈ Tgl := inT_5 116 rfl (by decide +kernel)
set_option maxRecDepth 20000 in
theorem tw_1123 : Jvm.Cond.static (⟨"TwelvehundredLaw", "pass", "(LTwelvehundred;ILTwelvehundredLaw$Out;)I"⟩ : MethodName) ∈ Tgl := inT_5 117 rfl (by decide +kernel)
set_option maxRecDepth 20000 in
theorem tw_1124 : Jvm.Cond.codeWith (⟨"TwelvehundredLaw", "pass", "(LTwelvehundred;ILTwelvehundredLaw$Out;)I"⟩ : MethodName) method_9_code 4 (some .int) [(0, 10, 13, 19), (0, 10, 16, 21)] ∈ Tgl := inT_5 118 rfl (by decide +kernel)
set_option maxRecDepth 20000 in
theorem tw_1125 : Jvm.Cond.methodLink "TwelvehundredLaw" 45 (⟨"Twelvehundred", "pass", "(I)I"⟩ : MethodName) ∈ Tgl := inT_5 119 rfl (by decide +kernel)
set_option maxRecDepth 20000 in
theorem tw_1126 : Jvm.Cond.instanceMethod (⟨"Twelvehundred", "pass", "(I)I"⟩ : MethodName) ∈ Tgl := inT_5 120 rfl (by decide +kernel)
set_option maxRecDepth 20000 in
theorem tw_1127 : Jvm.Cond.selects "Twelvehundred" (⟨"Twelvehundred", "pass", "(I)I"⟩ : MethodName) (⟨"Twelvehundred", "pass", "(I)I"⟩ : MethodName) ∈ Tgl := inT_5 121 rfl (by decide +kernel)
set_option maxRecDepth 20000 in
theorem tw_1128 : Jvm.Cond.code (⟨"Twelvehundred", "pass", "(I)I"⟩ : MethodName) prog_1_method_9_code 4 (some .int) ∈ Tgl := inT_5 122 rfl (by decide +kernel)
set_option maxRecDepth 20000 in
theorem tw_1131 : Jvm.Cond.methodLink "Twelvehundred" 176 (⟨"Twelvehundred$River", "flow", "()V"⟩ : MethodName) ∈ Tgl := inT_5 125 rfl (by decide +kernel)
set_option maxRecDepth 20000 in
theorem tw_1132 : Jvm.Cond.instanceMethod (⟨"Twelvehundred$River", "flow", "()V"⟩ : MethodName) ∈ Tgl := inT_5 126 rfl (by decide +kernel)
set_option maxRecDepth 20000 in
theorem tw_1133 : Jvm.Cond.selects "Twelvehundred$River" (⟨"Twelvehundred$River", "flow", "()V"⟩ : MethodName) (⟨"Twelvehundred$River", "flow", "()V"⟩ : MethodName) ∈ Tgl := inT_5 127 rfl (by decide +kernel)
set_option maxRecDepth 20000 in
theorem tw_1134 : Jvm.Cond.code (⟨"Twelvehundred$River", "flow", "()V"⟩ : MethodName) prog_11_method_2_code 1 (none) ∈ Tgl := inT_5 128 rfl (by decide +kernel)
set_option maxRecDepth 20000 in
theorem tw_1135 : Jvm.Cond.methodLink "Twelvehundred$River" 21 (⟨"java/lang/Math", "min", "(II)I"⟩ : MethodName) ∈ Tgl := inT_5 129 rfl (by decide +kernel)
set_option maxRecDepth 20000 in
theorem tw_1136 : Jvm.Cond.methodLink "Twelvehundred$River" 27 (⟨"java/lang/Math", "max", "(II)I"⟩ : MethodName) ∈ Tgl := inT_5 130 rfl (by decide +kernel)
set_option maxRecDepth 20000 in
theorem tw_1137 : Jvm.Cond.methodLink "Twelvehundred" 179 (⟨"Twelvehundred$Rescue", "cutOffFlooded", "()I"⟩ : MethodName) ∈ Tgl := inT_5 131 rfl (by decide +kernel)
set_option maxRecDepth 20000 in
theorem tw_1138 : Jvm.Cond.instanceMethod (⟨"Twelvehundred$Rescue", "cutOffFlooded", "()I"⟩ : MethodName) ∈ Tgl := inT_5 132 rfl (by decide +kernel)
set_option maxRecDepth 20000 in
theorem tw_1139 : Jvm.Cond.selects "Twelvehundred$Rescue" (⟨"Twelvehundred$Rescue", "cutOffFlooded", "()I"⟩ : MethodName) (⟨"Twelvehundred$Rescue", "cutOffFlooded", "()I"⟩ : MethodName) ∈ Tgl := inT_5 133 rfl (by decide +kernel)
set_option maxRecDepth 20000 in
theorem tw_1140 : Jvm.Cond.code (⟨"Twelvehundred$Rescue", "cutOffFlooded", "()I"⟩ : MethodName) prog_10_method_4_code 4 (some .int) ∈ Tgl := inT_5 134 rfl (by decide +kernel)
set_option maxRecDepth 20000 in
theorem tw_1141 : Jvm.Cond.methodLink "Twelvehundred$Rescue" 49 (⟨"Twelvehundred$River", "floods", "(LTwelvehundred$Street;)Z"⟩ : MethodName) ∈ Tgl := inT_5 135 rfl (by decide +kernel)
set_option maxRecDepth 20000 in
theorem tw_1142 : Jvm.Cond.methodLink "Twelvehundred" 182 (⟨"Twelvehundred$Larder", "spoilBefore", "(I)V"⟩ : MethodName) ∈ Tgl := inT_5 136 rfl (by decide +kernel)
set_option maxRecDepth 20000 in
theorem tw_1143 : Jvm.Cond.instanceMethod (⟨"Twelvehundred$Larder", "spoilBefore", "(I)V"⟩ : MethodName) ∈ Tgl := inT_5 137 rfl (by decide +kernel)
set_option maxRecDepth 20000 in
theorem tw_1144 : Jvm.Cond.selects "Twelvehundred$Larder" (⟨"Twelvehundred$Larder", "spoilBefore", "(I)V"⟩ : MethodName) (⟨"Twelvehundred$Larder", "spoilBefore", "(I)V"⟩ : MethodName) ∈ Tgl := inT_5 138 rfl (by decide +kernel)
set_option maxRecDepth 20000 in
theorem tw_1145 : Jvm.Cond.code (⟨"Twelvehundred$Larder", "spoilBefore", "(I)V"⟩ : MethodName) prog_6_method_4_code 4 (none) ∈ Tgl := inT_5 139 rfl (by decide +kernel)
set_option maxRecDepth 20000 in
theorem tw_1146 : Jvm.Cond.methodLink "TwelvehundredLaw" 125 (⟨"TwelvehundredLaw", "lot", "(LTwelvehundred;IILTwelvehundredLaw$Out;)I"⟩ : MethodName) ∈ Tgl := inT_5 140 rfl (by decide +kernel)
set_option maxRecDepth 20000 in
theorem tw_1147 : Jvm.Cond.static (⟨"TwelvehundredLaw", "lot", "(LTwelvehundred;IILTwelvehundredLaw$Out;)I"⟩ : MethodName) ∈ Tgl := inT_5 141 rfl (by decide +kernel)
set_option maxRecDepth 20000 in
theorem tw_1148 : Jvm.Cond.codeWith (⟨"TwelvehundredLaw", "lot", "(LTwelvehundred;IILTwelvehundredLaw$Out;)I"⟩ : MethodName) method_10_code 5 (some .int) [(0, 11, 14, 19), (0, 11, 18, 21)] ∈ Tgl := inT_5 142 rfl (by decide +kernel)
set_option maxRecDepth 20000 in
theorem tw_1149 : Jvm.Cond.methodLink "TwelvehundredLaw" 48 (⟨"Twelvehundred", "lot", "(II)I"⟩ : MethodName) ∈ Tgl := inT_5 143 rfl (by decide +kernel)
set_option maxRecDepth 20000 in
theorem tw_1150 : Jvm.Cond.instanceMethod (⟨"Twelvehundred", "lot", "(II)I"⟩ : MethodName) ∈ Tgl := inT_5 144 rfl (by decide +kernel)
set_option maxRecDepth 20000 in
theorem tw_1151 : Jvm.Cond.selects "Twelvehundred" (⟨"Twelvehundred", "lot", "(II)I"⟩ : MethodName) (⟨"Twelvehundred", "lot", "(II)I"⟩ : MethodName) ∈ Tgl := inT_5 145 rfl (by decide +kernel)
set_option maxRecDepth 20000 in
theorem tw_1152 : Jvm.Cond.code (⟨"Twelvehundred", "lot", "(II)I"⟩ : MethodName) prog_1_method_10_code 4 (some .int) ∈ Tgl := inT_5 146 rfl (by decide +kernel)
set_option maxRecDepth 20000 in
theorem tw_1154 : Jvm.Cond.instantiable "Twelvehundred$Lot" 3 ∈ Tgl := inT_5 148 rfl (by decide +kernel)
set_option maxRecDepth 20000 in
theorem tw_1155 : Jvm.Cond.methodLink "Twelvehundred" 195 (⟨"Twelvehundred$Lot", "<init>", "(II)V"⟩ : MethodName) ∈ Tgl := inT_5 149 rfl (by decide +kernel)
set_option maxRecDepth 20000 in
theorem tw_1156 : Jvm.Cond.instanceMethod (⟨"Twelvehundred$Lot", "<init>", "(II)V"⟩ : MethodName) ∈ Tgl := inT_5 150 rfl (by decide +kernel)
set_option maxRecDepth 20000 in
theorem tw_1157 : Jvm.Cond.code (⟨"Twelvehundred$Lot", "<init>", "(II)V"⟩ : MethodName) prog_8_method_1_code 3 (none) ∈ Tgl := inT_5 151 rfl (by decide +kernel)
set_option maxRecDepth 20000 in
theorem tw_1158 : Jvm.Cond.methodLink "Twelvehundred$Lot" 1 (⟨"java/lang/Object", "<init>", "()V"⟩ : MethodName) ∈ Tgl := inT_5 152 rfl (by decide +kernel)
set_option maxRecDepth 20000 in
theorem tw_1159 : Jvm.Cond.fieldLink "Twelvehundred$Lot" 7 "Twelvehundred$Lot" "came" "I" ∈ Tgl := inT_5 153 rfl (by decide +kernel)
set_option maxRecDepth 20000 in
theorem tw_1161 : Jvm.Cond.fieldLink "Twelvehundred$Lot" 13 "Twelvehundred$Lot" "lastHour" "I" ∈ Tgl := inT_5 155 rfl (by decide +kernel)
set_option maxRecDepth 20000 in
theorem tw_1164 : Jvm.Cond.fieldLink "Twelvehundred$Lot" 16 "Twelvehundred$Lot" "left" "I" ∈ Tgl := inT_5 158 rfl (by decide +kernel)
set_option maxRecDepth 20000 in
theorem tw_1167 : Jvm.Cond.laysFinal "Twelvehundred$Lot" "Twelvehundred$Lot" "came" "I" ∈ Tgl := inT_5 161 rfl (by decide +kernel)
set_option maxRecDepth 20000 in
theorem tw_1169 : Jvm.Cond.laysFinal "Twelvehundred$Lot" "Twelvehundred$Lot" "lastHour" "I" ∈ Tgl := inT_5 163 rfl (by decide +kernel)
set_option maxRecDepth 20000 in
theorem tw_1171 : Jvm.Cond.lays "Twelvehundred$Lot" "Twelvehundred$Lot" "left" "I" ∈ Tgl := inT_5 165 rfl (by decide +kernel)
set_option maxRecDepth 20000 in
theorem tw_1174 : Jvm.Cond.methodLink "TwelvehundredLaw" 128 (⟨"TwelvehundredLaw", "give", "(LTwelvehundred;ILTwelvehundredLaw$Out;)I"⟩ : MethodName) ∈ Tgl := inT_5 168 rfl (by decide +kernel)
set_option maxRecDepth 20000 in
theorem tw_1175 : Jvm.Cond.static (⟨"TwelvehundredLaw", "give", "(LTwelvehundred;ILTwelvehundredLaw$Out;)I"⟩ : MethodName) ∈ Tgl := inT_5 169 rfl (by decide +kernel)
set_option maxRecDepth 20000 in
theorem tw_1176 : Jvm.Cond.codeWith (⟨"TwelvehundredLaw", "give", "(LTwelvehundred;ILTwelvehundredLaw$Out;)I"⟩ : MethodName) method_11_code 4 (some .int) [(0, 10, 13, 19)] ∈ Tgl := inT_5 170 rfl (by decide +kernel)
set_option maxRecDepth 20000 in
theorem tw_1177 : Jvm.Cond.methodLink "TwelvehundredLaw" 51 (⟨"Twelvehundred", "give", "(I)I"⟩ : MethodName) ∈ Tgl := inT_5 171 rfl (by decide +kernel)
set_option maxRecDepth 20000 in
theorem tw_1178 : Jvm.Cond.instanceMethod (⟨"Twelvehundred", "give", "(I)I"⟩ : MethodName) ∈ Tgl := inT_5 172 rfl (by decide +kernel)
set_option maxRecDepth 20000 in
theorem tw_1179 : Jvm.Cond.selects "Twelvehundred" (⟨"Twelvehundred", "give", "(I)I"⟩ : MethodName) (⟨"Twelvehundred", "give", "(I)I"⟩ : MethodName) ∈ Tgl := inT_5 173 rfl (by decide +kernel)
set_option maxRecDepth 20000 in
theorem tw_1180 : Jvm.Cond.code (⟨"Twelvehundred", "give", "(I)I"⟩ : MethodName) prog_1_method_11_code 2 (some .int) ∈ Tgl := inT_5 174 rfl (by decide +kernel)
set_option maxRecDepth 20000 in
theorem tw_1182 : Jvm.Cond.methodLink "Twelvehundred" 200 (⟨"Twelvehundred$Larder", "handOut", "(I)I"⟩ : MethodName) ∈ Tgl := inT_5 176 rfl (by decide +kernel)
set_option maxRecDepth 20000 in
theorem tw_1183 : Jvm.Cond.instanceMethod (⟨"Twelvehundred$Larder", "handOut", "(I)I"⟩ : MethodName) ∈ Tgl := inT_5 177 rfl (by decide +kernel)
set_option maxRecDepth 20000 in
theorem tw_1184 : Jvm.Cond.selects "Twelvehundred$Larder" (⟨"Twelvehundred$Larder", "handOut", "(I)I"⟩ : MethodName) (⟨"Twelvehundred$Larder", "handOut", "(I)I"⟩ : MethodName) ∈ Tgl := inT_5 178 rfl (by decide +kernel)
set_option maxRecDepth 20000 in
theorem tw_1185 : Jvm.Cond.code (⟨"Twelvehundred$Larder", "handOut", "(I)I"⟩ : MethodName) prog_6_method_2_code 6 (some .int) ∈ Tgl := inT_5 179 rfl (by decide +kernel)
set_option maxRecDepth 20000 in
theorem tw_1186 : Jvm.Cond.methodLink "Twelvehundred$Larder" 30 (⟨"Twelvehundred$Larder", "nextToSpoil", "()LTwelvehundred$Lot;"⟩ : MethodName) ∈ Tgl := inT_5 180 rfl (by decide +kernel)
set_option maxRecDepth 20000 in
theorem tw_1188 : Jvm.Cond.instanceMethod (⟨"Twelvehundred$Larder", "nextToSpoil", "()LTwelvehundred$Lot;"⟩ : MethodName) ∈ Tgl := inT_5 182 rfl (by decide +kernel)
set_option maxRecDepth 20000 in
theorem tw_1189 : Jvm.Cond.code (⟨"Twelvehundred$Larder", "nextToSpoil", "()LTwelvehundred$Lot;"⟩ : MethodName) prog_6_method_3_code 4 (some (.object "Twelvehundred$Lot")) ∈ Tgl := inT_5 183 rfl (by decide +kernel)
set_option maxRecDepth 20000 in
theorem tw_1190 : Jvm.Cond.methodLink "Twelvehundred$Larder" 39 (⟨"java/lang/Math", "min", "(II)I"⟩ : MethodName) ∈ Tgl := inT_5 184 rfl (by decide +kernel)
set_option maxRecDepth 20000 in
theorem tw_1191 : Jvm.Cond.methodLink "TwelvehundredLaw" 131 (⟨"TwelvehundredLaw", "list", "(LTwelvehundred;ILTwelvehundredLaw$Out;)I"⟩ : MethodName) ∈ Tgl := inT_5 185 rfl (by decide +kernel)
set_option maxRecDepth 20000 in
theorem tw_1192 : Jvm.Cond.static (⟨"TwelvehundredLaw", "list", "(LTwelvehundred;ILTwelvehundredLaw$Out;)I"⟩ : MethodName) ∈ Tgl := inT_5 186 rfl (by decide +kernel)
set_option maxRecDepth 20000 in
theorem tw_1193 : Jvm.Cond.codeWith (⟨"TwelvehundredLaw", "list", "(LTwelvehundred;ILTwelvehundredLaw$Out;)I"⟩ : MethodName) method_12_code 4 (some .int) [(0, 10, 13, 19), (0, 10, 16, 21)] ∈ Tgl := inT_5 187 rfl (by decide +kernel)
set_option maxRecDepth 20000 in
theorem tw_1194 : Jvm.Cond.methodLink "TwelvehundredLaw" 54 (⟨"Twelvehundred", "list", "(I)I"⟩ : MethodName) ∈ Tgl := inT_5 188 rfl (by decide +kernel)
set_option maxRecDepth 20000 in
theorem tw_1195 : Jvm.Cond.instanceMethod (⟨"Twelvehundred", "list", "(I)I"⟩ : MethodName) ∈ Tgl := inT_5 189 rfl (by decide +kernel)
set_option maxRecDepth 20000 in
theorem tw_1196 : Jvm.Cond.selects "Twelvehundred" (⟨"Twelvehundred", "list", "(I)I"⟩ : MethodName) (⟨"Twelvehundred", "list", "(I)I"⟩ : MethodName) ∈ Tgl := inT_5 190 rfl (by decide +kernel)
set_option maxRecDepth 20000 in
theorem tw_1197 : Jvm.Cond.code (⟨"Twelvehundred", "list", "(I)I"⟩ : MethodName) prog_1_method_12_code 3 (some .int) ∈ Tgl := inT_5 191 rfl (by decide +kernel)
set_option maxRecDepth 20000 in
theorem tw_1198 : Jvm.Cond.methodLink "Twelvehundred" 204 (⟨"Twelvehundred$Bulletin", "isName", "(I)Z"⟩ : MethodName) ∈ Tgl := inT_5 192 rfl (by decide +kernel)
set_option maxRecDepth 20000 in
theorem tw_1199 : Jvm.Cond.static (⟨"Twelvehundred$Bulletin", "isName", "(I)Z"⟩ : MethodName) ∈ Tgl := inT_5 193 rfl (by decide +kernel)
set_option maxRecDepth 20000 in
theorem tw_1200 : Jvm.Cond.code (⟨"Twelvehundred$Bulletin", "isName", "(I)Z"⟩ : MethodName) prog_3_method_2_code 3 (some .boolean) ∈ Tgl := inT_5 194 rfl (by decide +kernel)
set_option maxRecDepth 20000 in
theorem tw_1201 : Jvm.Cond.constant "Twelvehundred$Bulletin" 22 (Int32.ofNat 99999) ∈ Tgl := inT_5 195 rfl (by decide +kernel)
set_option maxRecDepth 20000 in
theorem tw_1204 : Jvm.Cond.classLink "Twelvehundred" 215 "Twelvehundred$Listed" ∈ Tgl := inT_5 198 rfl (by decide +kernel)
set_option maxRecDepth 20000 in
theorem tw_1205 : Jvm.Cond.instantiable "Twelvehundred$Listed" 3 ∈ Tgl := inT_5 199 rfl (by decide +kernel)
set_option maxRecDepth 20000 in
theorem tw_1206 : Jvm.Cond.methodLink "Twelvehundred" 217 (⟨"Twelvehundred$Listed", "<init>", "(I)V"⟩ : MethodName) ∈ Tgl := inT_5 200 rfl (by decide +kernel)
set_option maxRecDepth 20000 in
theorem tw_1207 : Jvm.Cond.instanceMethod (⟨"Twelvehundred$Listed", "<init>", "(I)V"⟩ : MethodName) ∈ Tgl := inT_5 201 rfl (by decide +kernel)
set_option maxRecDepth 20000 in
theorem tw_1208 : Jvm.Cond.code (⟨"Twelvehundred$Listed", "<init>", "(I)V"⟩ : MethodName) prog_7_method_1_code 2 (none) ∈ Tgl := inT_5 202 rfl (by decide +kernel)
set_option maxRecDepth 20000 in
theorem tw_1209 : Jvm.Cond.methodLink "Twelvehundred$Listed" 1 (⟨"java/lang/Object", "<init>", "()V"⟩ : MethodName) ∈ Tgl := inT_5 203 rfl (by decide +kernel)
set_option maxRecDepth 20000 in
theorem tw_1210 : Jvm.Cond.fieldLink "Twelvehundred$Listed" 17 "Twelvehundred$Listed" "name" "I" ∈ Tgl := inT_5 204 rfl (by decide +kernel)
set_option maxRecDepth 20000 in
theorem tw_1212 : Jvm.Cond.fieldLink "Twelvehundred$Listed" 7 "Twelvehundred$Listed" "isStruck" "Z" ∈ Tgl := inT_5 206 rfl (by decide +kernel)
set_option maxRecDepth 20000 in
theorem tw_1215 : Jvm.Cond.fieldLink "Twelvehundred$Listed" 13 "Twelvehundred$Listed" "group" "I" ∈ Tgl := inT_5 209 rfl (by decide +kernel)
set_option maxRecDepth 20000 in
theorem tw_1217 : Jvm.Cond.laysFinal "Twelvehundred$Listed" "Twelvehundred$Listed" "name" "I" ∈ Tgl := inT_5 211 rfl (by decide +kernel)
set_option maxRecDepth 20000 in
theorem tw_1219 : Jvm.Cond.lays "Twelvehundred$Listed" "Twelvehundred$Listed" "isStruck" "Z" ∈ Tgl := inT_5 213 rfl (by decide +kernel)
set_option maxRecDepth 20000 in
theorem tw_1221 : Jvm.Cond.lays "Twelvehundred$Listed" "Twelvehundred$Listed" "group" "I" ∈ Tgl := inT_5 215 rfl (by decide +kernel)
set_option maxRecDepth 20000 in
theorem tw_1224 : Jvm.Cond.methodLink "TwelvehundredLaw" 134 (⟨"TwelvehundredLaw", "strike", "(LTwelvehundred;IZLTwelvehundredLaw$Out;)I"⟩ : MethodName) ∈ Tgl := inT_5 218 rfl (by decide +kernel)
set_option maxRecDepth 20000 in
theorem tw_1225 : Jvm.Cond.static (⟨"TwelvehundredLaw", "strike", "(LTwelvehundred;IZLTwelvehundredLaw$Out;)I"⟩ : MethodName) ∈ Tgl := inT_5 219 rfl (by decide +kernel)
set_option maxRecDepth 20000 in
theorem tw_1226 : Jvm.Cond.codeWith (⟨"TwelvehundredLaw", "strike", "(LTwelvehundred;IZLTwelvehundredLaw$Out;)I"⟩ : MethodName) method_13_code 5 (some .int) [(0, 11, 14, 29)] ∈ Tgl := inT_5 220 rfl (by decide +kernel)
set_option maxRecDepth 20000 in
theorem tw_1227 : Jvm.Cond.methodLink "TwelvehundredLaw" 57 (⟨"Twelvehundred", "strike", "(IZ)I"⟩ : MethodName) ∈ Tgl := inT_5 221 rfl (by decide +kernel)
set_option maxRecDepth 20000 in
theorem tw_1228 : Jvm.Cond.instanceMethod (⟨"Twelvehundred", "strike", "(IZ)I"⟩ : MethodName) ∈ Tgl := inT_5 222 rfl (by decide +kernel)
set_option maxRecDepth 20000 in
theorem tw_1229 : Jvm.Cond.selects "Twelvehundred" (⟨"Twelvehundred", "strike", "(IZ)I"⟩ : MethodName) (⟨"Twelvehundred", "strike", "(IZ)I"⟩ : MethodName) ∈ Tgl := inT_5 223 rfl (by decide +kernel)
set_option maxRecDepth 20000 in
theorem tw_1230 : Jvm.Cond.code (⟨"Twelvehundred", "strike", "(IZ)I"⟩ : MethodName) prog_1_method_13_code 3 (some .int) ∈ Tgl := inT_5 224 rfl (by decide +kernel)
set_option maxRecDepth 20000 in
theorem tw_1232 : Jvm.Cond.methodLink "TwelvehundredLaw" 142 (⟨"TwelvehundredLaw", "ofStreet", "(LTwelvehundred;IILTwelvehundredLaw$Out;)I"⟩ : MethodName) ∈ Tgl := inT_5 226 rfl (by decide +kernel)
set_option maxRecDepth 20000 in
theorem tw_1233 : Jvm.Cond.static (⟨"TwelvehundredLaw", "ofStreet", "(LTwelvehundred;IILTwelvehundredLaw$Out;)I"⟩ : MethodName) ∈ Tgl := inT_5 227 rfl (by decide +kernel)
set_option maxRecDepth 20000 in
theorem tw_1234 : Jvm.Cond.codeWith (⟨"TwelvehundredLaw", "ofStreet", "(LTwelvehundred;IILTwelvehundredLaw$Out;)I"⟩ : MethodName) method_14_code 5 (some .int) [(0, 11, 14, 29), (0, 11, 18, 19)] ∈ Tgl := inT_5 228 rfl (by decide +kernel)
set_option maxRecDepth 20000 in
theorem tw_1235 : Jvm.Cond.methodLink "TwelvehundredLaw" 61 (⟨"Twelvehundred", "ofStreet", "(II)I"⟩ : MethodName) ∈ Tgl := inT_5 229 rfl (by decide +kernel)
set_option maxRecDepth 20000 in
theorem tw_1236 : Jvm.Cond.methodLink "TwelvehundredLaw" 145 (⟨"TwelvehundredLaw", "ofHousehold", "(LTwelvehundred;IILTwelvehundredLaw$Out;)I"⟩ : MethodName) ∈ Tgl := inT_5 230 rfl (by decide +kernel)
set_option maxRecDepth 20000 in
theorem tw_1237 : Jvm.Cond.static (⟨"TwelvehundredLaw", "ofHousehold", "(LTwelvehundred;IILTwelvehundredLaw$Out;)I"⟩ : MethodName) ∈ Tgl := inT_5 231 rfl (by decide +kernel)
set_option maxRecDepth 20000 in
theorem tw_1238 : Jvm.Cond.codeWith (⟨"TwelvehundredLaw", "ofHousehold", "(LTwelvehundred;IILTwelvehundredLaw$Out;)I"⟩ : MethodName) method_15_code 5 (some .int) [(0, 11, 14, 29), (0, 11, 18, 19)] ∈ Tgl := inT_5 232 rfl (by decide +kernel)
set_option maxRecDepth 20000 in
theorem tw_1239 : Jvm.Cond.methodLink "TwelvehundredLaw" 64 (⟨"Twelvehundred", "ofHousehold", "(II)I"⟩ : MethodName) ∈ Tgl := inT_5 233 rfl (by decide +kernel)
set_option maxRecDepth 20000 in
theorem tw_1240 : Jvm.Cond.methodLink "TwelvehundredLaw" 148 (⟨"TwelvehundredLaw", "ofHall", "(LTwelvehundred;IILTwelvehundredLaw$Out;)I"⟩ : MethodName) ∈ Tgl := inT_5 234 rfl (by decide +kernel)
set_option maxRecDepth 20000 in
theorem tw_1241 : Jvm.Cond.static (⟨"TwelvehundredLaw", "ofHall", "(LTwelvehundred;IILTwelvehundredLaw$Out;)I"⟩ : MethodName) ∈ Tgl := inT_5 235 rfl (by decide +kernel)
set_option maxRecDepth 20000 in
theorem tw_1242 : Jvm.Cond.codeWith (⟨"TwelvehundredLaw", "ofHall", "(LTwelvehundred;IILTwelvehundredLaw$Out;)I"⟩ : MethodName) method_16_code 5 (some .int) [(0, 11, 14, 29), (0, 11, 18, 19)] ∈ Tgl := inT_5 236 rfl (by decide +kernel)
set_option maxRecDepth 20000 in
theorem tw_1243 : Jvm.Cond.methodLink "TwelvehundredLaw" 67 (⟨"Twelvehundred", "ofHall", "(II)I"⟩ : MethodName) ∈ Tgl := inT_5 237 rfl (by decide +kernel)
set_option maxRecDepth 20000 in
theorem tw_1244 : Jvm.Cond.methodLink "TwelvehundredLaw" 151 (⟨"TwelvehundredLaw", "ofLot", "(LTwelvehundred;IILTwelvehundredLaw$Out;)I"⟩ : MethodName) ∈ Tgl := inT_5 238 rfl (by decide +kernel)
set_option maxRecDepth 20000 in
theorem tw_1245 : Jvm.Cond.static (⟨"TwelvehundredLaw", "ofLot", "(LTwelvehundred;IILTwelvehundredLaw$Out;)I"⟩ : MethodName) ∈ Tgl := inT_5 239 rfl (by decide +kernel)
set_option maxRecDepth 20000 in
theorem tw_1246 : Jvm.Cond.codeWith (⟨"TwelvehundredLaw", "ofLot", "(LTwelvehundred;IILTwelvehundredLaw$Out;)I"⟩ : MethodName) method_17_code 5 (some .int) [(0, 11, 14, 29), (0, 11, 18, 19)] ∈ Tgl := inT_6 0 rfl (by decide +kernel)
set_option maxRecDepth 20000 in
theorem tw_1247 : Jvm.Cond.methodLink "TwelvehundredLaw" 70 (⟨"Twelvehundred", "ofLot", "(II)I"⟩ : MethodName) ∈ Tgl := inT_6 1 rfl (by decide +kernel)
set_option maxRecDepth 20000 in
theorem tw_1248 : Jvm.Cond.methodLink "TwelvehundredLaw" 154 (⟨"TwelvehundredLaw", "county", "(LTwelvehundred;ILTwelvehundredLaw$Out;)I"⟩ : MethodName) ∈ Tgl := inT_6 2 rfl (by decide +kernel)
set_option maxRecDepth 20000 in
theorem tw_1249 : Jvm.Cond.static (⟨"TwelvehundredLaw", "county", "(LTwelvehundred;ILTwelvehundredLaw$Out;)I"⟩ : MethodName) ∈ Tgl := inT_6 3 rfl (by decide +kernel)
set_option maxRecDepth 20000 in
theorem tw_1250 : Jvm.Cond.codeWith (⟨"TwelvehundredLaw", "county", "(LTwelvehundred;ILTwelvehundredLaw$Out;)I"⟩ : MethodName) method_18_code 4 (some .int) [(0, 10, 13, 19)] ∈ Tgl := inT_6 4 rfl (by decide +kernel)
set_option maxRecDepth 20000 in
theorem tw_1251 : Jvm.Cond.methodLink "TwelvehundredLaw" 73 (⟨"Twelvehundred", "county", "(I)I"⟩ : MethodName) ∈ Tgl := inT_6 5 rfl (by decide +kernel)
set_option maxRecDepth 20000 in
theorem tw_1252 : Jvm.Cond.methodLink "TwelvehundredLaw" 168 (⟨"TwelvehundredLaw", "can", "(LTwelvehundred;ILTwelvehundredLaw$Out;)I"⟩ : MethodName) ∈ Tgl := inT_6 6 rfl (by decide +kernel)
set_option maxRecDepth 20000 in
theorem tw_1253 : Jvm.Cond.static (⟨"TwelvehundredLaw", "can", "(LTwelvehundred;ILTwelvehundredLaw$Out;)I"⟩ : MethodName) ∈ Tgl := inT_6 7 rfl (by decide +kernel)
set_option maxRecDepth 20000 in
theorem tw_1254 : Jvm.Cond.codeWith (⟨"TwelvehundredLaw", "can", "(LTwelvehundred;ILTwelvehundredLaw$Out;)I"⟩ : MethodName) method_19_code 4 (some .int) [(0, 17, 20, 19)] ∈ Tgl := inT_6 8 rfl (by decide +kernel)
set_option maxRecDepth 20000 in
theorem tw_1255 : Jvm.Cond.methodLink "TwelvehundredLaw" 76 (⟨"Twelvehundred", "can", "(I)Z"⟩ : MethodName) ∈ Tgl := inT_6 9 rfl (by decide +kernel)
set_option maxRecDepth 20000 in
theorem tw_1256 : Jvm.Cond.instanceMethod (⟨"Twelvehundred", "can", "(I)Z"⟩ : MethodName) ∈ Tgl := inT_6 10 rfl (by decide +kernel)
set_option maxRecDepth 20000 in
theorem tw_1257 : Jvm.Cond.selects "Twelvehundred" (⟨"Twelvehundred", "can", "(I)Z"⟩ : MethodName) (⟨"Twelvehundred", "can", "(I)Z"⟩ : MethodName) ∈ Tgl := inT_6 11 rfl (by decide +kernel)
set_option maxRecDepth 20000 in
theorem tw_1258 : Jvm.Cond.code (⟨"Twelvehundred", "can", "(I)Z"⟩ : MethodName) prog_1_method_21_code 2 (some .boolean) ∈ Tgl := inT_6 12 rfl (by decide +kernel)
set_option maxRecDepth 20000 in
theorem tw_1260 : Jvm.Cond.methodLink "Twelvehundred" 330 (⟨"Twelvehundred$Rescue", "canReach", "(I)Z"⟩ : MethodName) ∈ Tgl := inT_6 14 rfl (by decide +kernel)
set_option maxRecDepth 20000 in
theorem tw_1261 : Jvm.Cond.methodLink "TwelvehundredLaw" 179 (⟨"TwelvehundredLaw", "would", "(LTwelvehundred;IILTwelvehundredLaw$Out;)I"⟩ : MethodName) ∈ Tgl := inT_6 15 rfl (by decide +kernel)
set_option maxRecDepth 20000 in
theorem tw_1262 : Jvm.Cond.static (⟨"TwelvehundredLaw", "would", "(LTwelvehundred;IILTwelvehundredLaw$Out;)I"⟩ : MethodName) ∈ Tgl := inT_6 16 rfl (by decide +kernel)
set_option maxRecDepth 20000 in
theorem tw_1263 : Jvm.Cond.codeWith (⟨"TwelvehundredLaw", "would", "(LTwelvehundred;IILTwelvehundredLaw$Out;)I"⟩ : MethodName) method_20_code 5 (some .int) [(0, 11, 14, 19)] ∈ Tgl := inT_6 17 rfl (by decide +kernel)
set_option maxRecDepth 20000 in
theorem tw_1264 : Jvm.Cond.methodLink "TwelvehundredLaw" 80 (⟨"Twelvehundred", "would", "(II)I"⟩ : MethodName) ∈ Tgl := inT_6 18 rfl (by decide +kernel)
set_option maxRecDepth 20000 in
theorem tw_1265 : Jvm.Cond.methodLink "TwelvehundredLaw" 182 (⟨"TwelvehundredLaw", "areAlike", "(LTwelvehundred;IILTwelvehundredLaw$Out;)I"⟩ : MethodName) ∈ Tgl := inT_6 19 rfl (by decide +kernel)
set_option maxRecDepth 20000 in
theorem tw_1266 : Jvm.Cond.static (⟨"TwelvehundredLaw", "areAlike", "(LTwelvehundred;IILTwelvehundredLaw$Out;)I"⟩ : MethodName) ∈ Tgl := inT_6 20 rfl (by decide +kernel)
set_option maxRecDepth 20000 in
theorem tw_1267 : Jvm.Cond.codeWith (⟨"TwelvehundredLaw", "areAlike", "(LTwelvehundred;IILTwelvehundredLaw$Out;)I"⟩ : MethodName) method_21_code 5 (some .int) [(0, 18, 21, 19)] ∈ Tgl := inT_6 21 rfl (by decide +kernel)
set_option maxRecDepth 20000 in
theorem tw_1268 : Jvm.Cond.methodLink "TwelvehundredLaw" 83 (⟨"Twelvehundred", "areAlike", "(II)Z"⟩ : MethodName) ∈ Tgl := inT_6 22 rfl (by decide +kernel)
set_option maxRecDepth 20000 in
theorem tw_1269 : Jvm.Cond.instanceMethod (⟨"Twelvehundred", "areAlike", "(II)Z"⟩ : MethodName) ∈ Tgl := inT_6 23 rfl (by decide +kernel)
set_option maxRecDepth 20000 in
theorem tw_1270 : Jvm.Cond.selects "Twelvehundred" (⟨"Twelvehundred", "areAlike", "(II)Z"⟩ : MethodName) (⟨"Twelvehundred", "areAlike", "(II)Z"⟩ : MethodName) ∈ Tgl := inT_6 24 rfl (by decide +kernel)
set_option maxRecDepth 20000 in
theorem tw_1271 : Jvm.Cond.code (⟨"Twelvehundred", "areAlike", "(II)Z"⟩ : MethodName) prog_1_method_25_code 3 (some .boolean) ∈ Tgl := inT_6 25 rfl (by decide +kernel)
set_option maxRecDepth 20000 in
theorem tw_1273 : Jvm.Cond.methodLink "Twelvehundred" 351 (⟨"Twelvehundred$Bulletin", "isNear", "(II)Z"⟩ : MethodName) ∈ Tgl := inT_6 27 rfl (by decide +kernel)
set_option maxRecDepth 20000 in
theorem tw_1274 : Jvm.Cond.classLink "TwelvehundredLaw" 88 "TwelvehundredModel" ∈ Tgl := inT_6 28 rfl (by decide +kernel)
set_option maxRecDepth 20000 in
theorem tw_1275 : Jvm.Cond.instantiable "TwelvehundredModel" 18 ∈ Tgl := inT_6 29 rfl (by decide +kernel)
set_option maxRecDepth 20000 in
theorem tw_1276 : Jvm.Cond.methodLink "TwelvehundredLaw" 90 (⟨"TwelvehundredModel", "<init>", "()V"⟩ : MethodName) ∈ Tgl := inT_6 30 rfl (by decide +kernel)
set_option maxRecDepth 20000 in
theorem tw_1277 : Jvm.Cond.instanceMethod (⟨"TwelvehundredModel", "<init>", "()V"⟩ : MethodName) ∈ Tgl := inT_6 31 rfl (by decide +kernel)
set_option maxRecDepth 20000 in
theorem tw_1278 : Jvm.Cond.code (⟨"TwelvehundredModel", "<init>", "()V"⟩ : MethodName) prog_15_method_1_code 1 (none) ∈ Tgl := inT_6 32 rfl (by decide +kernel)
set_option maxRecDepth 20000 in
theorem tw_1279 : Jvm.Cond.methodLink "TwelvehundredModel" 1 (⟨"java/lang/Object", "<init>", "()V"⟩ : MethodName) ∈ Tgl := inT_6 33 rfl (by decide +kernel)
set_option maxRecDepth 20000 in
theorem tw_1280 : Jvm.Cond.classLink "TwelvehundredModel" 16 "java/util/ArrayList" ∈ Tgl := inT_6 34 rfl (by decide +kernel)
set_option maxRecDepth 20000 in
theorem tw_1281 : Jvm.Cond.methodLink "TwelvehundredModel" 18 (⟨"java/util/ArrayList", "<init>", "()V"⟩ : MethodName) ∈ Tgl := inT_6 35 rfl (by decide +kernel)
set_option maxRecDepth 20000 in
theorem tw_1282 : Jvm.Cond.fieldLink "TwelvehundredModel" 35 "TwelvehundredModel" "thrown" "I" ∈ Tgl := inT_6 36 rfl (by decide +kernel)
set_option maxRecDepth 20000 in
theorem tw_1283 : Jvm.Cond.fieldLink "TwelvehundredModel" 7 "TwelvehundredModel" "level" "I" ∈ Tgl := inT_6 37 rfl (by decide +kernel)
set_option maxRecDepth 20000 in
theorem tw_1284 : Jvm.Cond.fieldLink "TwelvehundredModel" 86 "TwelvehundredModel" "rise" "I" ∈ Tgl := inT_6 38 rfl (by decide +kernel)
set_option maxRecDepth 20000 in
theorem tw_1285 : Jvm.Cond.fieldLink "TwelvehundredModel" 104 "TwelvehundredModel" "hour" "I" ∈ Tgl := inT_6 39 rfl (by decide +kernel)
set_option maxRecDepth 20000 in
theorem tw_1286 : Jvm.Cond.fieldLink "TwelvehundredModel" 13 "TwelvehundredModel" "buses" "I" ∈ Tgl := inT_6 40 rfl (by decide +kernel)
set_option maxRecDepth 20000 in
theorem tw_1287 : Jvm.Cond.fieldLink "TwelvehundredModel" 92 "TwelvehundredModel" "fetchedNow" "I" ∈ Tgl := inT_6 41 rfl (by decide +kernel)
set_option maxRecDepth 20000 in
theorem tw_1288 : Jvm.Cond.fieldLink "TwelvehundredModel" 130 "TwelvehundredModel" "given" "I" ∈ Tgl := inT_6 42 rfl (by decide +kernel)
set_option maxRecDepth 20000 in
theorem tw_1289 : Jvm.Cond.fieldLink "TwelvehundredModel" 121 "TwelvehundredModel" "spoilt" "I" ∈ Tgl := inT_6 43 rfl (by decide +kernel)
set_option maxRecDepth 20000 in
theorem tw_1290 : Jvm.Cond.fieldLink "TwelvehundredModel" 133 "TwelvehundredModel" "missing" "I" ∈ Tgl := inT_6 44 rfl (by decide +kernel)
set_option maxRecDepth 20000 in
theorem tw_1291 : Jvm.Cond.fieldLink "TwelvehundredModel" 127 "TwelvehundredModel" "came" "I" ∈ Tgl := inT_6 45 rfl (by decide +kernel)
set_option maxRecDepth 20000 in
theorem tw_1292 : Jvm.Cond.fieldLink "TwelvehundredModel" 174 "TwelvehundredModel" "refused" "I" ∈ Tgl := inT_6 46 rfl (by decide +kernel)
set_option maxRecDepth 20000 in
theorem tw_1293 : Jvm.Cond.fieldLink "TwelvehundredModel" 19 "TwelvehundredModel" "streets" "Ljava/util/ArrayList;" ∈ Tgl := inT_6 47 rfl (by decide +kernel)
set_option maxRecDepth 20000 in
theorem tw_1294 : Jvm.Cond.fieldLink "TwelvehundredModel" 23 "TwelvehundredModel" "halls" "Ljava/util/ArrayList;" ∈ Tgl := inT_6 48 rfl (by decide +kernel)
set_option maxRecDepth 20000 in
theorem tw_1295 : Jvm.Cond.fieldLink "TwelvehundredModel" 26 "TwelvehundredModel" "households" "Ljava/util/ArrayList;" ∈ Tgl := inT_6 49 rfl (by decide +kernel)
set_option maxRecDepth 20000 in
theorem tw_1296 : Jvm.Cond.fieldLink "TwelvehundredModel" 29 "TwelvehundredModel" "lots" "Ljava/util/ArrayList;" ∈ Tgl := inT_6 50 rfl (by decide +kernel)
set_option maxRecDepth 20000 in
theorem tw_1297 : Jvm.Cond.fieldLink "TwelvehundredModel" 32 "TwelvehundredModel" "names" "Ljava/util/ArrayList;" ∈ Tgl := inT_6 51 rfl (by decide +kernel)
set_option maxRecDepth 20000 in
theorem tw_1298 : Jvm.Cond.fieldLink "TwelvehundredModel" 156 "TwelvehundredModel" "struck" "I" ∈ Tgl := inT_6 52 rfl (by decide +kernel)
set_option maxRecDepth 20000 in
theorem tw_1299 : Jvm.Cond.fieldLink "TwelvehundredModel" 262 "TwelvehundredModel" "sum" "J" ∈ Tgl := inT_6 53 rfl (by decide +kernel)
set_option maxRecDepth 20000 in
theorem tw_1300 : Jvm.Cond.lays "TwelvehundredModel" "TwelvehundredModel" "thrown" "I" ∈ Tgl := inT_6 54 rfl (by decide +kernel)
set_option maxRecDepth 20000 in
theorem tw_1302 : Jvm.Cond.lays "TwelvehundredModel" "TwelvehundredModel" "level" "I" ∈ Tgl := inT_6 56 rfl (by decide +kernel)
set_option maxRecDepth 20000 in
theorem tw_1304 : Jvm.Cond.lays "TwelvehundredModel" "TwelvehundredModel" "rise" "I" ∈ Tgl := inT_6 58 rfl (by decide +kernel)
set_option maxRecDepth 20000 in
theorem tw_1306 : Jvm.Cond.lays "TwelvehundredModel" "TwelvehundredModel" "hour" "I" ∈ Tgl := inT_6 60 rfl (by decide +kernel)
set_option maxRecDepth 20000 in
theorem tw_1308 : Jvm.Cond.lays "TwelvehundredModel" "TwelvehundredModel" "buses" "I" ∈ Tgl := inT_6 62 rfl (by decide +kernel)
set_option maxRecDepth 20000 in
theorem tw_1310 : Jvm.Cond.lays "TwelvehundredModel" "TwelvehundredModel" "fetchedNow" "I" ∈ Tgl := inT_6 64 rfl (by decide +kernel)
set_option maxRecDepth 20000 in
theorem tw_1312 : Jvm.Cond.lays "TwelvehundredModel" "TwelvehundredModel" "given" "I" ∈ Tgl := inT_6 66 rfl (by decide +kernel)
set_option maxRecDepth 20000 in
theorem tw_1314 : Jvm.Cond.lays "TwelvehundredModel" "TwelvehundredModel" "spoilt" "I" ∈ Tgl := inT_6 68 rfl (by decide +kernel)
set_option maxRecDepth 20000 in
theorem tw_1316 : Jvm.Cond.lays "TwelvehundredModel" "TwelvehundredModel" "missing" "I" ∈ Tgl := inT_6 70 rfl (by decide +kernel)
set_option maxRecDepth 20000 in
theorem tw_1318 : Jvm.Cond.lays "TwelvehundredModel" "TwelvehundredModel" "came" "I" ∈ Tgl := inT_6 72 rfl (by decide +kernel)
set_option maxRecDepth 20000 in
theorem tw_1320 : Jvm.Cond.lays "TwelvehundredModel" "TwelvehundredModel" "refused" "I" ∈ Tgl := inT_6 74 rfl (by decide +kernel)
set_option maxRecDepth 20000 in
theorem tw_1322 : Jvm.Cond.laysFinal "TwelvehundredModel" "TwelvehundredModel" "streets" "Ljava/util/ArrayList;" ∈ Tgl := inT_6 76 rfl (by decide +kernel)
set_option maxRecDepth 20000 in
theorem tw_1324 : Jvm.Cond.laysFinal "TwelvehundredModel" "TwelvehundredModel" "halls" "Ljava/util/ArrayList;" ∈ Tgl := inT_6 78 rfl (by decide +kernel)
set_option maxRecDepth 20000 in
theorem tw_1326 : Jvm.Cond.laysFinal "TwelvehundredModel" "TwelvehundredModel" "households" "Ljava/util/ArrayList;" ∈ Tgl := inT_6 80 rfl (by decide +kernel)
set_option maxRecDepth 20000 in
theorem tw_1328 : Jvm.Cond.laysFinal "TwelvehundredModel" "TwelvehundredModel" "lots" "Ljava/util/ArrayList;" ∈ Tgl := inT_6 82 rfl (by decide +kernel)
set_option maxRecDepth 20000 in
theorem tw_1330 : Jvm.Cond.laysFinal "TwelvehundredModel" "TwelvehundredModel" "names" "Ljava/util/ArrayList;" ∈ Tgl := inT_6 84 rfl (by decide +kernel)
set_option maxRecDepth 20000 in
theorem tw_1332 : Jvm.Cond.lays "TwelvehundredModel" "TwelvehundredModel" "struck" "I" ∈ Tgl := inT_6 86 rfl (by decide +kernel)
set_option maxRecDepth 20000 in
theorem tw_1334 : Jvm.Cond.lays "TwelvehundredModel" "TwelvehundredModel" "sum" "J" ∈ Tgl := inT_6 88 rfl (by decide +kernel)
set_option maxRecDepth 20000 in
theorem tw_1337 : Jvm.Cond.methodLink "TwelvehundredLaw" 98 (⟨"TwelvehundredModel", "thrown", "()I"⟩ : MethodName) ∈ Tgl := inT_6 91 rfl (by decide +kernel)
set_option maxRecDepth 20000 in
theorem tw_1338 : Jvm.Cond.instanceMethod (⟨"TwelvehundredModel", "thrown", "()I"⟩ : MethodName) ∈ Tgl := inT_6 92 rfl (by decide +kernel)
set_option maxRecDepth 20000 in
theorem tw_1339 : Jvm.Cond.selects "TwelvehundredModel" (⟨"TwelvehundredModel", "thrown", "()I"⟩ : MethodName) (⟨"TwelvehundredModel", "thrown", "()I"⟩ : MethodName) ∈ Tgl := inT_6 93 rfl (by decide +kernel)
set_option maxRecDepth 20000 in
theorem tw_1340 : Jvm.Cond.code (⟨"TwelvehundredModel", "thrown", "()I"⟩ : MethodName) prog_15_method_2_code 1 (some .int) ∈ Tgl := inT_6 94 rfl (by decide +kernel)
set_option maxRecDepth 20000 in
theorem tw_1341 : Jvm.Cond.methodLink "TwelvehundredLaw" 97 (⟨"TwelvehundredModel", "street", "(II)I"⟩ : MethodName) ∈ Tgl := inT_6 95 rfl (by decide +kernel)
set_option maxRecDepth 20000 in
theorem tw_1342 : Jvm.Cond.instanceMethod (⟨"TwelvehundredModel", "street", "(II)I"⟩ : MethodName) ∈ Tgl := inT_6 96 rfl (by decide +kernel)
set_option maxRecDepth 20000 in
theorem tw_1343 : Jvm.Cond.selects "TwelvehundredModel" (⟨"TwelvehundredModel", "street", "(II)I"⟩ : MethodName) (⟨"TwelvehundredModel", "street", "(II)I"⟩ : MethodName) ∈ Tgl := inT_6 97 rfl (by decide +kernel)
set_option maxRecDepth 20000 in
theorem tw_1344 : Jvm.Cond.code (⟨"TwelvehundredModel", "street", "(II)I"⟩ : MethodName) prog_15_method_9_code 3 (some .int) ∈ Tgl := inT_6 98 rfl (by decide +kernel)
set_option maxRecDepth 20000 in
theorem tw_1345 : Jvm.Cond.methodLink "TwelvehundredModel" 42 (⟨"TwelvehundredModel", "is", "(III)Z"⟩ : MethodName) ∈ Tgl := inT_6 99 rfl (by decide +kernel)
set_option maxRecDepth 20000 in
theorem tw_1346 : Jvm.Cond.static (⟨"TwelvehundredModel", "is", "(III)Z"⟩ : MethodName) ∈ Tgl := inT_6 100 rfl (by decide +kernel)
set_option maxRecDepth 20000 in
theorem tw_1347 : Jvm.Cond.code (⟨"TwelvehundredModel", "is", "(III)Z"⟩ : MethodName) prog_15_method_4_code 3 (some .boolean) ∈ Tgl := inT_6 101 rfl (by decide +kernel)
set_option maxRecDepth 20000 in
theorem tw_1348 : Jvm.Cond.methodLink "TwelvehundredModel" 46 (⟨"TwelvehundredModel", "refuse", "(I)I"⟩ : MethodName) ∈ Tgl := inT_6 102 rfl (by decide +kernel)
set_option maxRecDepth 20000 in
theorem tw_1350 : Jvm.Cond.instanceMethod (⟨"TwelvehundredModel", "refuse", "(I)I"⟩ : MethodName) ∈ Tgl := inT_6 104 rfl (by decide +kernel)
set_option maxRecDepth 20000 in
theorem tw_1351 : Jvm.Cond.code (⟨"TwelvehundredModel", "refuse", "(I)I"⟩ : MethodName) prog_15_method_3_code 2 (some .int) ∈ Tgl := inT_6 105 rfl (by decide +kernel)
set_option maxRecDepth 20000 in
theorem tw_1352 : Jvm.Cond.methodLink "TwelvehundredModel" 38 (⟨"java/util/ArrayList", "size", "()I"⟩ : MethodName) ∈ Tgl := inT_6 106 rfl (by decide +kernel)
set_option maxRecDepth 20000 in
theorem tw_1353 : Jvm.Cond.methodLink "TwelvehundredModel" 50 (⟨"java/util/ArrayList", "add", "(Ljava/lang/Object;)Z"⟩ : MethodName) ∈ Tgl := inT_6 107 rfl (by decide +kernel)
set_option maxRecDepth 20000 in
theorem tw_1354 : Jvm.Cond.methodLink "TwelvehundredLaw" 104 (⟨"TwelvehundredModel", "hall", "(II)I"⟩ : MethodName) ∈ Tgl := inT_6 108 rfl (by decide +kernel)
set_option maxRecDepth 20000 in
theorem tw_1355 : Jvm.Cond.instanceMethod (⟨"TwelvehundredModel", "hall", "(II)I"⟩ : MethodName) ∈ Tgl := inT_6 109 rfl (by decide +kernel)
set_option maxRecDepth 20000 in
theorem tw_1356 : Jvm.Cond.selects "TwelvehundredModel" (⟨"TwelvehundredModel", "hall", "(II)I"⟩ : MethodName) (⟨"TwelvehundredModel", "hall", "(II)I"⟩ : MethodName) ∈ Tgl := inT_6 110 rfl (by decide +kernel)
set_option maxRecDepth 20000 in
theorem tw_1357 : Jvm.Cond.code (⟨"TwelvehundredModel", "hall", "(II)I"⟩ : MethodName) prog_15_method_10_code 3 (some .int) ∈ Tgl := inT_6 111 rfl (by decide +kernel)
set_option maxRecDepth 20000 in
theorem tw_1358 : Jvm.Cond.methodLink "TwelvehundredLaw" 107 (⟨"TwelvehundredModel", "rooms", "(II)I"⟩ : MethodName) ∈ Tgl := inT_6 112 rfl (by decide +kernel)
set_option maxRecDepth 20000 in
theorem tw_1359 : Jvm.Cond.instanceMethod (⟨"TwelvehundredModel", "rooms", "(II)I"⟩ : MethodName) ∈ Tgl := inT_6 113 rfl (by decide +kernel)
set_option maxRecDepth 20000 in
theorem tw_1360 : Jvm.Cond.selects "TwelvehundredModel" (⟨"TwelvehundredModel", "rooms", "(II)I"⟩ : MethodName) (⟨"TwelvehundredModel", "rooms", "(II)I"⟩ : MethodName) ∈ Tgl := inT_6 114 rfl (by decide +kernel)
set_option maxRecDepth 20000 in
theorem tw_1361 : Jvm.Cond.code (⟨"TwelvehundredModel", "rooms", "(II)I"⟩ : MethodName) prog_15_method_11_code 4 (some .int) ∈ Tgl := inT_6 115 rfl (by decide +kernel)
set_option maxRecDepth 20000 in
theorem tw_1362 : Jvm.Cond.methodLink "TwelvehundredModel" 54 (⟨"TwelvehundredModel", "isHall", "(I)Z"⟩ : MethodName) ∈ Tgl := inT_6 116 rfl (by decide +kernel)
set_option maxRecDepth 20000 in
theorem tw_1364 : Jvm.Cond.instanceMethod (⟨"TwelvehundredModel", "isHall", "(I)Z"⟩ : MethodName) ∈ Tgl := inT_6 118 rfl (by decide +kernel)
set_option maxRecDepth 20000 in
theorem tw_1365 : Jvm.Cond.code (⟨"TwelvehundredModel", "isHall", "(I)Z"⟩ : MethodName) prog_15_method_7_code 2 (some .boolean) ∈ Tgl := inT_6 119 rfl (by decide +kernel)
set_option maxRecDepth 20000 in
theorem tw_1366 : Jvm.Cond.methodLink "TwelvehundredModel" 58 (⟨"java/util/ArrayList", "get", "(I)Ljava/lang/Object;"⟩ : MethodName) ∈ Tgl := inT_6 120 rfl (by decide +kernel)
set_option maxRecDepth 20000 in
theorem tw_1367 : Jvm.Cond.classLink "TwelvehundredModel" 62 "[I" ∈ Tgl := inT_6 121 rfl (by decide +kernel)
set_option maxRecDepth 20000 in
theorem tw_1368 : Jvm.Cond.methodLink "TwelvehundredLaw" 111 (⟨"TwelvehundredModel", "household", "(IIZ)I"⟩ : MethodName) ∈ Tgl := inT_6 122 rfl (by decide +kernel)
set_option maxRecDepth 20000 in
theorem tw_1369 : Jvm.Cond.instanceMethod (⟨"TwelvehundredModel", "household", "(IIZ)I"⟩ : MethodName) ∈ Tgl := inT_6 123 rfl (by decide +kernel)
set_option maxRecDepth 20000 in
theorem tw_1370 : Jvm.Cond.selects "TwelvehundredModel" (⟨"TwelvehundredModel", "household", "(IIZ)I"⟩ : MethodName) (⟨"TwelvehundredModel", "household", "(IIZ)I"⟩ : MethodName) ∈ Tgl := inT_6 124 rfl (by decide +kernel)
set_option maxRecDepth 20000 in
theorem tw_1371 : Jvm.Cond.code (⟨"TwelvehundredModel", "household", "(IIZ)I"⟩ : MethodName) prog_15_method_13_code 5 (some .int) ∈ Tgl := inT_6 125 rfl (by decide +kernel)
set_option maxRecDepth 20000 in
theorem tw_1372 : Jvm.Cond.methodLink "TwelvehundredModel" 64 (⟨"TwelvehundredModel", "isStreet", "(I)Z"⟩ : MethodName) ∈ Tgl := inT_6 126 rfl (by decide +kernel)
set_option maxRecDepth 20000 in
theorem tw_1374 : Jvm.Cond.instanceMethod (⟨"TwelvehundredModel", "isStreet", "(I)Z"⟩ : MethodName) ∈ Tgl := inT_6 128 rfl (by decide +kernel)
set_option maxRecDepth 20000 in
theorem tw_1375 : Jvm.Cond.code (⟨"TwelvehundredModel", "isStreet", "(I)Z"⟩ : MethodName) prog_15_method_6_code 2 (some .boolean) ∈ Tgl := inT_6 129 rfl (by decide +kernel)
set_option maxRecDepth 20000 in
theorem tw_1376 : Jvm.Cond.classLink "TwelvehundredModel" 67 "TwelvehundredModel$Household" ∈ Tgl := inT_6 130 rfl (by decide +kernel)
set_option maxRecDepth 20000 in
theorem tw_1377 : Jvm.Cond.instantiable "TwelvehundredModel$Household" 4 ∈ Tgl := inT_6 131 rfl (by decide +kernel)
set_option maxRecDepth 20000 in
theorem tw_1379 : Jvm.Cond.instanceMethod (⟨"TwelvehundredModel$Household", "<init>", "()V"⟩ : MethodName) ∈ Tgl := inT_6 133 rfl (by decide +kernel)
set_option maxRecDepth 20000 in
theorem tw_1380 : Jvm.Cond.code (⟨"TwelvehundredModel$Household", "<init>", "()V"⟩ : MethodName) prog_16_method_1_code 1 (none) ∈ Tgl := inT_6 134 rfl (by decide +kernel)
set_option maxRecDepth 20000 in
theorem tw_1381 : Jvm.Cond.methodLink "TwelvehundredModel$Household" 1 (⟨"java/lang/Object", "<init>", "()V"⟩ : MethodName) ∈ Tgl := inT_6 135 rfl (by decide +kernel)
set_option maxRecDepth 20000 in
theorem tw_1386 : Jvm.Cond.lays "TwelvehundredModel$Household" "TwelvehundredModel$Household" "street" "I" ∈ Tgl := inT_6 140 rfl (by decide +kernel)
set_option maxRecDepth 20000 in
theorem tw_1388 : Jvm.Cond.lays "TwelvehundredModel$Household" "TwelvehundredModel$Household" "people" "I" ∈ Tgl := inT_6 142 rfl (by decide +kernel)
set_option maxRecDepth 20000 in
theorem tw_1390 : Jvm.Cond.lays "TwelvehundredModel$Household" "TwelvehundredModel$Household" "isFrail" "Z" ∈ Tgl := inT_6 144 rfl (by decide +kernel)
set_option maxRecDepth 20000 in
theorem tw_1392 : Jvm.Cond.lays "TwelvehundredModel$Household" "TwelvehundredModel$Household" "state" "I" ∈ Tgl := inT_6 146 rfl (by decide +kernel)
set_option maxRecDepth 20000 in
theorem tw_1395 : Jvm.Cond.methodLink "TwelvehundredModel" 80 (⟨"TwelvehundredModel", "isFlooded", "(I)Z"⟩ : MethodName) ∈ Tgl := inT_6 149 rfl (by decide +kernel)
set_option maxRecDepth 20000 in
theorem tw_1397 : Jvm.Cond.instanceMethod (⟨"TwelvehundredModel", "isFlooded", "(I)Z"⟩ : MethodName) ∈ Tgl := inT_6 151 rfl (by decide +kernel)
set_option maxRecDepth 20000 in
theorem tw_1398 : Jvm.Cond.code (⟨"TwelvehundredModel", "isFlooded", "(I)Z"⟩ : MethodName) prog_15_method_12_code 2 (some .boolean) ∈ Tgl := inT_6 152 rfl (by decide +kernel)
set_option maxRecDepth 20000 in
theorem tw_1399 : Jvm.Cond.methodLink "TwelvehundredLaw" 114 (⟨"TwelvehundredModel", "river", "(II)I"⟩ : MethodName) ∈ Tgl := inT_6 153 rfl (by decide +kernel)
set_option maxRecDepth 20000 in
theorem tw_1400 : Jvm.Cond.instanceMethod (⟨"TwelvehundredModel", "river", "(II)I"⟩ : MethodName) ∈ Tgl := inT_6 154 rfl (by decide +kernel)
set_option maxRecDepth 20000 in
theorem tw_1401 : Jvm.Cond.selects "TwelvehundredModel" (⟨"TwelvehundredModel", "river", "(II)I"⟩ : MethodName) (⟨"TwelvehundredModel", "river", "(II)I"⟩ : MethodName) ∈ Tgl := inT_6 155 rfl (by decide +kernel)
set_option maxRecDepth 20000 in
theorem tw_1402 : Jvm.Cond.code (⟨"TwelvehundredModel", "river", "(II)I"⟩ : MethodName) prog_15_method_14_code 4 (some .int) ∈ Tgl := inT_6 156 rfl (by decide +kernel)
set_option maxRecDepth 20000 in
theorem tw_1403 : Jvm.Cond.methodLink "TwelvehundredLaw" 118 (⟨"TwelvehundredModel", "buses", "(I)I"⟩ : MethodName) ∈ Tgl := inT_6 157 rfl (by decide +kernel)
set_option maxRecDepth 20000 in
theorem tw_1404 : Jvm.Cond.instanceMethod (⟨"TwelvehundredModel", "buses", "(I)I"⟩ : MethodName) ∈ Tgl := inT_6 158 rfl (by decide +kernel)
set_option maxRecDepth 20000 in
theorem tw_1405 : Jvm.Cond.selects "TwelvehundredModel" (⟨"TwelvehundredModel", "buses", "(I)I"⟩ : MethodName) (⟨"TwelvehundredModel", "buses", "(I)I"⟩ : MethodName) ∈ Tgl := inT_6 159 rfl (by decide +kernel)
set_option maxRecDepth 20000 in
theorem tw_1406 : Jvm.Cond.code (⟨"TwelvehundredModel", "buses", "(I)I"⟩ : MethodName) prog_15_method_15_code 3 (some .int) ∈ Tgl := inT_6 160 rfl (by decide +kernel)
set_option maxRecDepth 20000 in
theorem tw_1407 : Jvm.Cond.methodLink "TwelvehundredLaw" 121 (⟨"TwelvehundredModel", "fetch", "(I)I"⟩ : MethodName) ∈ Tgl := inT_6 161 rfl (by decide +kernel)
set_option maxRecDepth 20000 in
theorem tw_1408 : Jvm.Cond.instanceMethod (⟨"TwelvehundredModel", "fetch", "(I)I"⟩ : MethodName) ∈ Tgl := inT_6 162 rfl (by decide +kernel)
set_option maxRecDepth 20000 in
theorem tw_1409 : Jvm.Cond.selects "TwelvehundredModel" (⟨"TwelvehundredModel", "fetch", "(I)I"⟩ : MethodName) (⟨"TwelvehundredModel", "fetch", "(I)I"⟩ : MethodName) ∈ Tgl := inT_6 163 rfl (by decide +kernel)
set_option maxRecDepth 20000 in
theorem tw_1410 : Jvm.Cond.code (⟨"TwelvehundredModel", "fetch", "(I)I"⟩ : MethodName) prog_15_method_16_code 2 (some .int) ∈ Tgl := inT_6 164 rfl (by decide +kernel)
set_option maxRecDepth 20000 in
theorem tw_1411 : Jvm.Cond.methodLink "TwelvehundredModel" 89 (⟨"TwelvehundredModel", "isHousehold", "(I)Z"⟩ : MethodName) ∈ Tgl := inT_6 165 rfl (by decide +kernel)
set_option maxRecDepth 20000 in
theorem tw_1413 : Jvm.Cond.instanceMethod (⟨"TwelvehundredModel", "isHousehold", "(I)Z"⟩ : MethodName) ∈ Tgl := inT_6 167 rfl (by decide +kernel)
set_option maxRecDepth 20000 in
theorem tw_1414 : Jvm.Cond.code (⟨"TwelvehundredModel", "isHousehold", "(I)Z"⟩ : MethodName) prog_15_method_8_code 2 (some .boolean) ∈ Tgl := inT_6 168 rfl (by decide +kernel)
set_option maxRecDepth 20000 in
theorem tw_1415 : Jvm.Cond.methodLink "TwelvehundredLaw" 124 (⟨"TwelvehundredModel", "pass", "(I)I"⟩ : MethodName) ∈ Tgl := inT_6 169 rfl (by decide +kernel)
set_option maxRecDepth 20000 in
theorem tw_1416 : Jvm.Cond.instanceMethod (⟨"TwelvehundredModel", "pass", "(I)I"⟩ : MethodName) ∈ Tgl := inT_6 170 rfl (by decide +kernel)
set_option maxRecDepth 20000 in
theorem tw_1417 : Jvm.Cond.selects "TwelvehundredModel" (⟨"TwelvehundredModel", "pass", "(I)I"⟩ : MethodName) (⟨"TwelvehundredModel", "pass", "(I)I"⟩ : MethodName) ∈ Tgl := inT_6 171 rfl (by decide +kernel)
set_option maxRecDepth 20000 in
theorem tw_1418 : Jvm.Cond.code (⟨"TwelvehundredModel", "pass", "(I)I"⟩ : MethodName) prog_15_method_18_code 4 (some .int) ∈ Tgl := inT_6 172 rfl (by decide +kernel)
set_option maxRecDepth 20000 in
theorem tw_1419 : Jvm.Cond.methodLink "TwelvehundredModel" 124 (⟨"TwelvehundredModel", "hourGoes", "()I"⟩ : MethodName) ∈ Tgl := inT_6 173 rfl (by decide +kernel)
set_option maxRecDepth 20000 in
theorem tw_1421 : Jvm.Cond.instanceMethod (⟨"TwelvehundredModel", "hourGoes", "()I"⟩ : MethodName) ∈ Tgl := inT_6 175 rfl (by decide +kernel)
set_option maxRecDepth 20000 in
theorem tw_1422 : Jvm.Cond.code (⟨"TwelvehundredModel", "hourGoes", "()I"⟩ : MethodName) prog_15_method_17_code 4 (some .int) ∈ Tgl := inT_6 176 rfl (by decide +kernel)
set_option maxRecDepth 20000 in
theorem tw_1423 : Jvm.Cond.methodLink "TwelvehundredModel" 95 (⟨"java/lang/Math", "min", "(II)I"⟩ : MethodName) ∈ Tgl := inT_6 177 rfl (by decide +kernel)
set_option maxRecDepth 20000 in
theorem tw_1424 : Jvm.Cond.methodLink "TwelvehundredModel" 101 (⟨"java/lang/Math", "max", "(II)I"⟩ : MethodName) ∈ Tgl := inT_6 178 rfl (by decide +kernel)
set_option maxRecDepth 20000 in
theorem tw_1425 : Jvm.Cond.methodLink "TwelvehundredModel" 107 (⟨"java/util/ArrayList", "iterator", "()Ljava/util/Iterator;"⟩ : MethodName) ∈ Tgl := inT_6 179 rfl (by decide +kernel)
set_option maxRecDepth 20000 in
theorem tw_1426 : Jvm.Cond.instanceMethod (⟨"java/util/ArrayList", "iterator", "()Ljava/util/Iterator;"⟩ : MethodName) ∈ Tgl := inT_6 180 rfl (by decide +kernel)
set_option maxRecDepth 20000 in
theorem tw_1427 : Jvm.Cond.selects "java/util/ArrayList" (⟨"java/util/ArrayList", "iterator", "()Ljava/util/Iterator;"⟩ : MethodName) (⟨"java/util/ArrayList", "iterator", "()Ljava/util/Iterator;"⟩ : MethodName) ∈ Tgl := inT_6 181 rfl (by decide +kernel)
set_option maxRecDepth 20000 in
theorem tw_1428 : Jvm.Cond.code (⟨"java/util/ArrayList", "iterator", "()Ljava/util/Iterator;"⟩ : MethodName) prog_43_method_55_code 1 (some (.object "java/util/Iterator")) ∈ Tgl := inT_6 182 rfl (by decide +kernel)
set_option maxRecDepth 20000 in
theorem tw_1429 : Jvm.Cond.classLink "java/util/ArrayList" 267 "java/util/ArrayList$Itr" ∈ Tgl := inT_6 183 rfl (by decide +kernel)
set_option maxRecDepth 20000 in
theorem tw_1430 : Jvm.Cond.instantiable "java/util/ArrayList$Itr" 4 ∈ Tgl := inT_6 184 rfl (by decide +kernel)
set_option maxRecDepth 20000 in
theorem tw_1431 : Jvm.Cond.methodLink "java/util/ArrayList" 269 (⟨"java/util/ArrayList$Itr", "<init>", "(Ljava/util/ArrayList;)V"⟩ : MethodName) ∈ Tgl := inT_6 185 rfl (by decide +kernel)
set_option maxRecDepth 20000 in
theorem tw_1432 : Jvm.Cond.instanceMethod (⟨"java/util/ArrayList$Itr", "<init>", "(Ljava/util/ArrayList;)V"⟩ : MethodName) ∈ Tgl := inT_6 186 rfl (by decide +kernel)
set_option maxRecDepth 20000 in
theorem tw_1433 : Jvm.Cond.code (⟨"java/util/ArrayList$Itr", "<init>", "(Ljava/util/ArrayList;)V"⟩ : MethodName) prog_44_method_1_code 2 (none) ∈ Tgl := inT_6 187 rfl (by decide +kernel)
set_option maxRecDepth 20000 in
theorem tw_1434 : Jvm.Cond.methodLink "java/util/ArrayList$Itr" 7 (⟨"java/lang/Object", "<init>", "()V"⟩ : MethodName) ∈ Tgl := inT_6 188 rfl (by decide +kernel)
set_option maxRecDepth 20000 in
theorem tw_1435 : Jvm.Cond.fieldLink "java/util/ArrayList$Itr" 25 "java/util/ArrayList$Itr" "cursor" "I" ∈ Tgl := inT_6 189 rfl (by decide +kernel)
set_option maxRecDepth 20000 in
theorem tw_1436 : Jvm.Cond.fieldLink "java/util/ArrayList$Itr" 13 "java/util/ArrayList$Itr" "lastRet" "I" ∈ Tgl := inT_6 190 rfl (by decide +kernel)
set_option maxRecDepth 20000 in
theorem tw_1437 : Jvm.Cond.fieldLink "java/util/ArrayList$Itr" 22 "java/util/ArrayList$Itr" "expectedModCount" "I" ∈ Tgl := inT_6 191 rfl (by decide +kernel)
set_option maxRecDepth 20000 in
theorem tw_1438 : Jvm.Cond.fieldLink "java/util/ArrayList$Itr" 1 "java/util/ArrayList$Itr" "this$0" "Ljava/util/ArrayList;" ∈ Tgl := inT_6 192 rfl (by decide +kernel)
set_option maxRecDepth 20000 in
theorem tw_1439 : Jvm.Cond.lays "java/util/ArrayList$Itr" "java/util/ArrayList$Itr" "cursor" "I" ∈ Tgl := inT_6 193 rfl (by decide +kernel)
set_option maxRecDepth 20000 in
theorem tw_1441 : Jvm.Cond.lays "java/util/ArrayList$Itr" "java/util/ArrayList$Itr" "lastRet" "I" ∈ Tgl := inT_6 195 rfl (by decide +kernel)
set_option maxRecDepth 20000 in
theorem tw_1443 : Jvm.Cond.lays "java/util/ArrayList$Itr" "java/util/ArrayList$Itr" "expectedModCount" "I" ∈ Tgl := inT_6 197 rfl (by decide +kernel)
set_option maxRecDepth 20000 in
theorem tw_1445 : Jvm.Cond.laysFinal "java/util/ArrayList$Itr" "java/util/ArrayList$Itr" "this$0" "Ljava/util/ArrayList;" ∈ Tgl := inT_6 199 rfl (by decide +kernel)
set_option maxRecDepth 20000 in
theorem tw_1449 : Jvm.Cond.methodLink "TwelvehundredModel" 111 (⟨"java/util/Iterator", "hasNext", "()Z"⟩ : MethodName) ∈ Tgl := inT_6 203 rfl (by decide +kernel)
set_option maxRecDepth 20000 in
theorem tw_1453 : Jvm.Cond.selects "java/util/ArrayList$Itr" (⟨"java/util/Iterator", "hasNext", "()Z"⟩ : MethodName) (⟨"java/util/ArrayList$Itr", "hasNext", "()Z"⟩ : MethodName) ∈ Tgl := inT_6 207 rfl (by decide +kernel)
set_option maxRecDepth 20000 in
theorem tw_1455 : Jvm.Cond.instanceMethod (⟨"java/util/ArrayList$Itr", "hasNext", "()Z"⟩ : MethodName) ∈ Tgl := inT_6 209 rfl (by decide +kernel)
set_option maxRecDepth 20000 in
theorem tw_1457 : Jvm.Cond.code (⟨"java/util/ArrayList$Itr", "hasNext", "()Z"⟩ : MethodName) prog_44_method_2_code 1 (some .boolean) ∈ Tgl := inT_6 211 rfl (by decide +kernel)
set_option maxRecDepth 20000 in
theorem tw_1459 : Jvm.Cond.methodLink "TwelvehundredModel" 117 (⟨"java/util/Iterator", "next", "()Ljava/lang/Object;"⟩ : MethodName) ∈ Tgl := inT_6 213 rfl (by decide +kernel)
set_option maxRecDepth 20000 in
theorem tw_1462 : Jvm.Cond.selects "java/util/ArrayList$Itr" (⟨"java/util/Iterator", "next", "()Ljava/lang/Object;"⟩ : MethodName) (⟨"java/util/ArrayList$Itr", "next", "()Ljava/lang/Object;"⟩ : MethodName) ∈ Tgl := inT_6 216 rfl (by decide +kernel)
set_option maxRecDepth 20000 in
theorem tw_1464 : Jvm.Cond.instanceMethod (⟨"java/util/ArrayList$Itr", "next", "()Ljava/lang/Object;"⟩ : MethodName) ∈ Tgl := inT_6 218 rfl (by decide +kernel)
set_option maxRecDepth 20000 in
theorem tw_1466 : Jvm.Cond.code (⟨"java/util/ArrayList$Itr", "next", "()Ljava/lang/Object;"⟩ : MethodName) prog_44_method_3_code 3 (some (.object "java/lang/Object")) ∈ Tgl := inT_6 220 rfl (by decide +kernel)
set_option maxRecDepth 20000 in
theorem tw_1467 : Jvm.Cond.methodLink "java/util/ArrayList$Itr" 31 (⟨"java/util/ArrayList$Itr", "checkForComodification", "()V"⟩ : MethodName) ∈ Tgl := inT_6 221 rfl (by decide +kernel)
set_option maxRecDepth 20000 in
theorem tw_1468 : Jvm.Cond.instanceMethod (⟨"java/util/ArrayList$Itr", "checkForComodification", "()V"⟩ : MethodName) ∈ Tgl := inT_6 222 rfl (by decide +kernel)
set_option maxRecDepth 20000 in
theorem tw_1469 : Jvm.Cond.selects "java/util/ArrayList$Itr" (⟨"java/util/ArrayList$Itr", "checkForComodification", "()V"⟩ : MethodName) (⟨"java/util/ArrayList$Itr", "checkForComodification", "()V"⟩ : MethodName) ∈ Tgl := inT_6 223 rfl (by decide +kernel)
set_option maxRecDepth 20000 in
theorem tw_1470 : Jvm.Cond.code (⟨"java/util/ArrayList$Itr", "checkForComodification", "()V"⟩ : MethodName) prog_44_method_6_code 1 (none) ∈ Tgl := inT_6 224 rfl (by decide +kernel)
set_option maxRecDepth 20000 in
theorem tw_1471 : Jvm.Cond.methodLink "TwelvehundredLaw" 127 (⟨"TwelvehundredModel", "lot", "(II)I"⟩ : MethodName) ∈ Tgl := inT_6 225 rfl (by decide +kernel)
set_option maxRecDepth 20000 in
theorem tw_1472 : Jvm.Cond.instanceMethod (⟨"TwelvehundredModel", "lot", "(II)I"⟩ : MethodName) ∈ Tgl := inT_6 226 rfl (by decide +kernel)
set_option maxRecDepth 20000 in
theorem tw_1473 : Jvm.Cond.selects "TwelvehundredModel" (⟨"TwelvehundredModel", "lot", "(II)I"⟩ : MethodName) (⟨"TwelvehundredModel", "lot", "(II)I"⟩ : MethodName) ∈ Tgl := inT_6 227 rfl (by decide +kernel)
set_option maxRecDepth 20000 in
theorem tw_1474 : Jvm.Cond.code (⟨"TwelvehundredModel", "lot", "(II)I"⟩ : MethodName) prog_15_method_19_code 3 (some .int) ∈ Tgl := inT_6 228 rfl (by decide +kernel)
set_option maxRecDepth 20000 in
theorem tw_1475 : Jvm.Cond.methodLink "TwelvehundredLaw" 130 (⟨"TwelvehundredModel", "give", "(I)I"⟩ : MethodName) ∈ Tgl := inT_6 229 rfl (by decide +kernel)
set_option maxRecDepth 20000 in
theorem tw_1476 : Jvm.Cond.instanceMethod (⟨"TwelvehundredModel", "give", "(I)I"⟩ : MethodName) ∈ Tgl := inT_6 230 rfl (by decide +kernel)
set_option maxRecDepth 20000 in
theorem tw_1477 : Jvm.Cond.selects "TwelvehundredModel" (⟨"TwelvehundredModel", "give", "(I)I"⟩ : MethodName) (⟨"TwelvehundredModel", "give", "(I)I"⟩ : MethodName) ∈ Tgl := inT_6 231 rfl (by decide +kernel)
set_option maxRecDepth 20000 in
theorem tw_1478 : Jvm.Cond.code (⟨"TwelvehundredModel", "give", "(I)I"⟩ : MethodName) prog_15_method_20_code 7 (some .int) ∈ Tgl := inT_6 232 rfl (by decide +kernel)
set_option maxRecDepth 20000 in
theorem tw_1479 : Jvm.Cond.methodLink "TwelvehundredLaw" 133 (⟨"TwelvehundredModel", "list", "(I)I"⟩ : MethodName) ∈ Tgl := inT_6 233 rfl (by decide +kernel)
set_option maxRecDepth 20000 in
theorem tw_1480 : Jvm.Cond.instanceMethod (⟨"TwelvehundredModel", "list", "(I)I"⟩ : MethodName) ∈ Tgl := inT_6 234 rfl (by decide +kernel)
set_option maxRecDepth 20000 in
theorem tw_1481 : Jvm.Cond.selects "TwelvehundredModel" (⟨"TwelvehundredModel", "list", "(I)I"⟩ : MethodName) (⟨"TwelvehundredModel", "list", "(I)I"⟩ : MethodName) ∈ Tgl := inT_6 235 rfl (by decide +kernel)
set_option maxRecDepth 20000 in
theorem tw_1482 : Jvm.Cond.code (⟨"TwelvehundredModel", "list", "(I)I"⟩ : MethodName) prog_15_method_22_code 2 (some .int) ∈ Tgl := inT_6 236 rfl (by decide +kernel)
set_option maxRecDepth 20000 in
theorem tw_1483 : Jvm.Cond.methodLink "TwelvehundredModel" 137 (⟨"TwelvehundredModel", "isName", "(I)Z"⟩ : MethodName) ∈ Tgl := inT_6 237 rfl (by decide +kernel)
set_option maxRecDepth 20000 in
theorem tw_1484 : Jvm.Cond.static (⟨"TwelvehundredModel", "isName", "(I)Z"⟩ : MethodName) ∈ Tgl := inT_6 238 rfl (by decide +kernel)
set_option maxRecDepth 20000 in
theorem tw_1485 : Jvm.Cond.code (⟨"TwelvehundredModel", "isName", "(I)Z"⟩ : MethodName) prog_15_method_21_code 2 (some .boolean) ∈ Tgl := inT_6 239 rfl (by decide +kernel)
set_option maxRecDepth 20000 in
theorem tw_1486 : Jvm.Cond.constant "TwelvehundredModel" 136 (Int32.ofNat 99999) ∈ Tgl := inT_7 0 rfl (by decide +kernel)
set_option maxRecDepth 20000 in
theorem tw_1487 : Jvm.Cond.methodLink "TwelvehundredModel" 140 (⟨"java/lang/Integer", "valueOf", "(I)Ljava/lang/Integer;"⟩ : MethodName) ∈ Tgl := inT_7 1 rfl (by decide +kernel)
set_option maxRecDepth 20000 in
theorem tw_1488 : Jvm.Cond.static (⟨"java/lang/Integer", "valueOf", "(I)Ljava/lang/Integer;"⟩ : MethodName) ∈ Tgl := inT_7 2 rfl (by decide +kernel)
set_option maxRecDepth 20000 in
theorem tw_1489 : Jvm.Cond.code (⟨"java/lang/Integer", "valueOf", "(I)Ljava/lang/Integer;"⟩ : MethodName) prog_27_method_22_code 1 (some (.object "java/lang/Integer")) ∈ Tgl := inT_7 3 rfl (by decide +kernel)
set_option maxRecDepth 20000 in
theorem tw_1490 : Jvm.Cond.fieldLink "java/lang/Integer" 191 "java/lang/Integer$IntegerCache" "high" "I" ∈ Tgl := inT_7 4 rfl (by decide +kernel)
set_option maxRecDepth 20000 in
theorem tw_1492 : Jvm.Cond.fieldLink "java/lang/Integer" 195 "java/lang/Integer$IntegerCache" "cache" "[Ljava/lang/Integer;" ∈ Tgl := inT_7 6 rfl (by decide +kernel)
set_option maxRecDepth 20000 in
theorem tw_1494 : Jvm.Cond.classLink "java/lang/Integer" 1 "java/lang/Integer" ∈ Tgl := inT_7 8 rfl (by decide +kernel)
set_option maxRecDepth 20000 in
theorem tw_1495 : Jvm.Cond.instantiable "java/lang/Integer" 1 ∈ Tgl := inT_7 9 rfl (by decide +kernel)
set_option maxRecDepth 20000 in
theorem tw_1496 : Jvm.Cond.methodLink "java/lang/Integer" 199 (⟨"java/lang/Integer", "<init>", "(I)V"⟩ : MethodName) ∈ Tgl := inT_7 10 rfl (by decide +kernel)
set_option maxRecDepth 20000 in
theorem tw_1497 : Jvm.Cond.instanceMethod (⟨"java/lang/Integer", "<init>", "(I)V"⟩ : MethodName) ∈ Tgl := inT_7 11 rfl (by decide +kernel)
set_option maxRecDepth 20000 in
theorem tw_1498 : Jvm.Cond.code (⟨"java/lang/Integer", "<init>", "(I)V"⟩ : MethodName) prog_27_method_23_code 2 (none) ∈ Tgl := inT_7 12 rfl (by decide +kernel)
set_option maxRecDepth 20000 in
theorem tw_1499 : Jvm.Cond.methodLink "java/lang/Integer" 202 (⟨"java/lang/Number", "<init>", "()V"⟩ : MethodName) ∈ Tgl := inT_7 13 rfl (by decide +kernel)
set_option maxRecDepth 20000 in
theorem tw_1500 : Jvm.Cond.instanceMethod (⟨"java/lang/Number", "<init>", "()V"⟩ : MethodName) ∈ Tgl := inT_7 14 rfl (by decide +kernel)
set_option maxRecDepth 20000 in
theorem tw_1501 : Jvm.Cond.code (⟨"java/lang/Number", "<init>", "()V"⟩ : MethodName) prog_31_method_1_code 1 (none) ∈ Tgl := inT_7 15 rfl (by decide +kernel)
set_option maxRecDepth 20000 in
theorem tw_1502 : Jvm.Cond.methodLink "java/lang/Number" 1 (⟨"java/lang/Object", "<init>", "()V"⟩ : MethodName) ∈ Tgl := inT_7 16 rfl (by decide +kernel)
set_option maxRecDepth 20000 in
theorem tw_1503 : Jvm.Cond.fieldLink "java/lang/Integer" 205 "java/lang/Integer" "value" "I" ∈ Tgl := inT_7 17 rfl (by decide +kernel)
set_option maxRecDepth 20000 in
theorem tw_1504 : Jvm.Cond.laysFinal "java/lang/Integer" "java/lang/Integer" "value" "I" ∈ Tgl := inT_7 18 rfl (by decide +kernel)
set_option maxRecDepth 20000 in
theorem tw_1507 : Jvm.Cond.methodLink "TwelvehundredLaw" 137 (⟨"TwelvehundredModel", "strike", "(IZ)I"⟩ : MethodName) ∈ Tgl := inT_7 21 rfl (by decide +kernel)
set_option maxRecDepth 20000 in
theorem tw_1508 : Jvm.Cond.instanceMethod (⟨"TwelvehundredModel", "strike", "(IZ)I"⟩ : MethodName) ∈ Tgl := inT_7 22 rfl (by decide +kernel)
set_option maxRecDepth 20000 in
theorem tw_1509 : Jvm.Cond.selects "TwelvehundredModel" (⟨"TwelvehundredModel", "strike", "(IZ)I"⟩ : MethodName) (⟨"TwelvehundredModel", "strike", "(IZ)I"⟩ : MethodName) ∈ Tgl := inT_7 23 rfl (by decide +kernel)
set_option maxRecDepth 20000 in
theorem tw_1510 : Jvm.Cond.code (⟨"TwelvehundredModel", "strike", "(IZ)I"⟩ : MethodName) prog_15_method_27_code 3 (some .int) ∈ Tgl := inT_7 24 rfl (by decide +kernel)
set_option maxRecDepth 20000 in
theorem tw_1511 : Jvm.Cond.methodLink "TwelvehundredModel" 171 (⟨"TwelvehundredModel", "persons", "()I"⟩ : MethodName) ∈ Tgl := inT_7 25 rfl (by decide +kernel)
set_option maxRecDepth 20000 in
theorem tw_1513 : Jvm.Cond.instanceMethod (⟨"TwelvehundredModel", "persons", "()I"⟩ : MethodName) ∈ Tgl := inT_7 27 rfl (by decide +kernel)
set_option maxRecDepth 20000 in
theorem tw_1514 : Jvm.Cond.code (⟨"TwelvehundredModel", "persons", "()I"⟩ : MethodName) prog_15_method_26_code 7 (some .int) ∈ Tgl := inT_7 28 rfl (by decide +kernel)
set_option maxRecDepth 20000 in
theorem tw_1515 : Jvm.Cond.methodLink "TwelvehundredModel" 159 (⟨"java/lang/Integer", "lowestOneBit", "(I)I"⟩ : MethodName) ∈ Tgl := inT_7 29 rfl (by decide +kernel)
set_option maxRecDepth 20000 in
theorem tw_1516 : Jvm.Cond.static (⟨"java/lang/Integer", "lowestOneBit", "(I)I"⟩ : MethodName) ∈ Tgl := inT_7 30 rfl (by decide +kernel)
set_option maxRecDepth 20000 in
theorem tw_1517 : Jvm.Cond.code (⟨"java/lang/Integer", "lowestOneBit", "(I)I"⟩ : MethodName) prog_27_method_46_code 1 (some .int) ∈ Tgl := inT_7 31 rfl (by decide +kernel)
set_option maxRecDepth 20000 in
theorem tw_1518 : Jvm.Cond.methodLink "TwelvehundredModel" 162 (⟨"TwelvehundredModel", "isIn", "(II)Z"⟩ : MethodName) ∈ Tgl := inT_7 32 rfl (by decide +kernel)
set_option maxRecDepth 20000 in
theorem tw_1519 : Jvm.Cond.static (⟨"TwelvehundredModel", "isIn", "(II)Z"⟩ : MethodName) ∈ Tgl := inT_7 33 rfl (by decide +kernel)
set_option maxRecDepth 20000 in
theorem tw_1520 : Jvm.Cond.code (⟨"TwelvehundredModel", "isIn", "(II)Z"⟩ : MethodName) prog_15_method_5_code 2 (some .boolean) ∈ Tgl := inT_7 34 rfl (by decide +kernel)
set_option maxRecDepth 20000 in
theorem tw_1521 : Jvm.Cond.classLink "TwelvehundredModel" 141 "java/lang/Integer" ∈ Tgl := inT_7 35 rfl (by decide +kernel)
set_option maxRecDepth 20000 in
theorem tw_1522 : Jvm.Cond.methodLink "TwelvehundredModel" 165 (⟨"java/lang/Integer", "intValue", "()I"⟩ : MethodName) ∈ Tgl := inT_7 36 rfl (by decide +kernel)
set_option maxRecDepth 20000 in
theorem tw_1523 : Jvm.Cond.instanceMethod (⟨"java/lang/Integer", "intValue", "()I"⟩ : MethodName) ∈ Tgl := inT_7 37 rfl (by decide +kernel)
set_option maxRecDepth 20000 in
theorem tw_1524 : Jvm.Cond.selects "java/lang/Integer" (⟨"java/lang/Integer", "intValue", "()I"⟩ : MethodName) (⟨"java/lang/Integer", "intValue", "()I"⟩ : MethodName) ∈ Tgl := inT_7 38 rfl (by decide +kernel)
set_option maxRecDepth 20000 in
theorem tw_1525 : Jvm.Cond.code (⟨"java/lang/Integer", "intValue", "()I"⟩ : MethodName) prog_27_method_27_code 1 (some .int) ∈ Tgl := inT_7 39 rfl (by decide +kernel)
set_option maxRecDepth 20000 in
theorem tw_1526 : Jvm.Cond.methodLink "TwelvehundredModel" 168 (⟨"TwelvehundredModel", "areLike", "(II)Z"⟩ : MethodName) ∈ Tgl := inT_7 40 rfl (by decide +kernel)
set_option maxRecDepth 20000 in
theorem tw_1527 : Jvm.Cond.static (⟨"TwelvehundredModel", "areLike", "(II)Z"⟩ : MethodName) ∈ Tgl := inT_7 41 rfl (by decide +kernel)
set_option maxRecDepth 20000 in
theorem tw_1528 : Jvm.Cond.code (⟨"TwelvehundredModel", "areLike", "(II)Z"⟩ : MethodName) prog_15_method_25_code 5 (some .boolean) ∈ Tgl := inT_7 42 rfl (by decide +kernel)
set_option maxRecDepth 20000 in
theorem tw_1529 : Jvm.Cond.methodLink "TwelvehundredModel" 146 (⟨"TwelvehundredModel", "digits", "(I)I"⟩ : MethodName) ∈ Tgl := inT_7 43 rfl (by decide +kernel)
set_option maxRecDepth 20000 in
theorem tw_1530 : Jvm.Cond.static (⟨"TwelvehundredModel", "digits", "(I)I"⟩ : MethodName) ∈ Tgl := inT_7 44 rfl (by decide +kernel)
set_option maxRecDepth 20000 in
theorem tw_1531 : Jvm.Cond.code (⟨"TwelvehundredModel", "digits", "(I)I"⟩ : MethodName) prog_15_method_24_code 1 (some .int) ∈ Tgl := inT_7 45 rfl (by decide +kernel)
set_option maxRecDepth 20000 in
theorem tw_1532 : Jvm.Cond.methodLink "TwelvehundredModel" 149 (⟨"java/lang/Math", "abs", "(I)I"⟩ : MethodName) ∈ Tgl := inT_7 46 rfl (by decide +kernel)
set_option maxRecDepth 20000 in
theorem tw_1533 : Jvm.Cond.methodLink "TwelvehundredModel" 152 (⟨"TwelvehundredModel", "leaves", "(II)Z"⟩ : MethodName) ∈ Tgl := inT_7 47 rfl (by decide +kernel)
set_option maxRecDepth 20000 in
theorem tw_1534 : Jvm.Cond.static (⟨"TwelvehundredModel", "leaves", "(II)Z"⟩ : MethodName) ∈ Tgl := inT_7 48 rfl (by decide +kernel)
set_option maxRecDepth 20000 in
theorem tw_1535 : Jvm.Cond.code (⟨"TwelvehundredModel", "leaves", "(II)Z"⟩ : MethodName) prog_15_method_23_code 3 (some .boolean) ∈ Tgl := inT_7 49 rfl (by decide +kernel)
set_option maxRecDepth 20000 in
theorem tw_1536 : Jvm.Cond.methodLink "TwelvehundredLaw" 141 (⟨"TwelvehundredModel", "knock", "()I"⟩ : MethodName) ∈ Tgl := inT_7 50 rfl (by decide +kernel)
set_option maxRecDepth 20000 in
theorem tw_1537 : Jvm.Cond.instanceMethod (⟨"TwelvehundredModel", "knock", "()I"⟩ : MethodName) ∈ Tgl := inT_7 51 rfl (by decide +kernel)
set_option maxRecDepth 20000 in
theorem tw_1538 : Jvm.Cond.selects "TwelvehundredModel" (⟨"TwelvehundredModel", "knock", "()I"⟩ : MethodName) (⟨"TwelvehundredModel", "knock", "()I"⟩ : MethodName) ∈ Tgl := inT_7 52 rfl (by decide +kernel)
set_option maxRecDepth 20000 in
theorem tw_1539 : Jvm.Cond.code (⟨"TwelvehundredModel", "knock", "()I"⟩ : MethodName) prog_15_method_28_code 1 (some .int) ∈ Tgl := inT_7 53 rfl (by decide +kernel)
set_option maxRecDepth 20000 in
theorem tw_1540 : Jvm.Cond.methodLink "TwelvehundredLaw" 144 (⟨"TwelvehundredModel", "ofStreet", "(II)I"⟩ : MethodName) ∈ Tgl := inT_7 54 rfl (by decide +kernel)
set_option maxRecDepth 20000 in
theorem tw_1541 : Jvm.Cond.instanceMethod (⟨"TwelvehundredModel", "ofStreet", "(II)I"⟩ : MethodName) ∈ Tgl := inT_7 55 rfl (by decide +kernel)
set_option maxRecDepth 20000 in
theorem tw_1542 : Jvm.Cond.selects "TwelvehundredModel" (⟨"TwelvehundredModel", "ofStreet", "(II)I"⟩ : MethodName) (⟨"TwelvehundredModel", "ofStreet", "(II)I"⟩ : MethodName) ∈ Tgl := inT_7 56 rfl (by decide +kernel)
set_option maxRecDepth 20000 in
theorem tw_1543 : Jvm.Cond.code (⟨"TwelvehundredModel", "ofStreet", "(II)I"⟩ : MethodName) prog_15_method_43_code 3 (some .int) ∈ Tgl := inT_7 57 rfl (by decide +kernel)
set_option maxRecDepth 20000 in
theorem tw_1544 : Jvm.Cond.methodLink "TwelvehundredModel" 205 (⟨"TwelvehundredModel", "ofStreetNow", "(II)I"⟩ : MethodName) ∈ Tgl := inT_7 58 rfl (by decide +kernel)
set_option maxRecDepth 20000 in
theorem tw_1546 : Jvm.Cond.instanceMethod (⟨"TwelvehundredModel", "ofStreetNow", "(II)I"⟩ : MethodName) ∈ Tgl := inT_7 60 rfl (by decide +kernel)
set_option maxRecDepth 20000 in
theorem tw_1547 : Jvm.Cond.code (⟨"TwelvehundredModel", "ofStreetNow", "(II)I"⟩ : MethodName) prog_15_method_42_code 3 (some .int) ∈ Tgl := inT_7 61 rfl (by decide +kernel)
set_option maxRecDepth 20000 in
theorem tw_1548 : Jvm.Cond.methodLink "TwelvehundredModel" 177 (⟨"TwelvehundredModel", "limit", "(I)I"⟩ : MethodName) ∈ Tgl := inT_7 62 rfl (by decide +kernel)
set_option maxRecDepth 20000 in
theorem tw_1550 : Jvm.Cond.instanceMethod (⟨"TwelvehundredModel", "limit", "(I)I"⟩ : MethodName) ∈ Tgl := inT_7 64 rfl (by decide +kernel)
set_option maxRecDepth 20000 in
theorem tw_1551 : Jvm.Cond.code (⟨"TwelvehundredModel", "limit", "(I)I"⟩ : MethodName) prog_15_method_29_code 3 (some .int) ∈ Tgl := inT_7 65 rfl (by decide +kernel)
set_option maxRecDepth 20000 in
theorem tw_1552 : Jvm.Cond.methodLink "TwelvehundredModel" 202 (⟨"TwelvehundredModel", "homes", "(II)I"⟩ : MethodName) ∈ Tgl := inT_7 66 rfl (by decide +kernel)
set_option maxRecDepth 20000 in
theorem tw_1554 : Jvm.Cond.instanceMethod (⟨"TwelvehundredModel", "homes", "(II)I"⟩ : MethodName) ∈ Tgl := inT_7 68 rfl (by decide +kernel)
set_option maxRecDepth 20000 in
theorem tw_1555 : Jvm.Cond.code (⟨"TwelvehundredModel", "homes", "(II)I"⟩ : MethodName) prog_15_method_41_code 6 (some .int) ∈ Tgl := inT_7 69 rfl (by decide +kernel)
set_option maxRecDepth 20000 in
theorem tw_1556 : Jvm.Cond.methodLink "TwelvehundredLaw" 147 (⟨"TwelvehundredModel", "ofHousehold", "(II)I"⟩ : MethodName) ∈ Tgl := inT_7 70 rfl (by decide +kernel)
set_option maxRecDepth 20000 in
theorem tw_1557 : Jvm.Cond.instanceMethod (⟨"TwelvehundredModel", "ofHousehold", "(II)I"⟩ : MethodName) ∈ Tgl := inT_7 71 rfl (by decide +kernel)
set_option maxRecDepth 20000 in
theorem tw_1558 : Jvm.Cond.selects "TwelvehundredModel" (⟨"TwelvehundredModel", "ofHousehold", "(II)I"⟩ : MethodName) (⟨"TwelvehundredModel", "ofHousehold", "(II)I"⟩ : MethodName) ∈ Tgl := inT_7 72 rfl (by decide +kernel)
set_option maxRecDepth 20000 in
theorem tw_1559 : Jvm.Cond.code (⟨"TwelvehundredModel", "ofHousehold", "(II)I"⟩ : MethodName) prog_15_method_45_code 3 (some .int) ∈ Tgl := inT_7 73 rfl (by decide +kernel)
set_option maxRecDepth 20000 in
theorem tw_1560 : Jvm.Cond.methodLink "TwelvehundredModel" 215 (⟨"TwelvehundredModel", "ofHouseholdNow", "(II)I"⟩ : MethodName) ∈ Tgl := inT_7 74 rfl (by decide +kernel)
set_option maxRecDepth 20000 in
theorem tw_1562 : Jvm.Cond.instanceMethod (⟨"TwelvehundredModel", "ofHouseholdNow", "(II)I"⟩ : MethodName) ∈ Tgl := inT_7 76 rfl (by decide +kernel)
set_option maxRecDepth 20000 in
theorem tw_1563 : Jvm.Cond.code (⟨"TwelvehundredModel", "ofHouseholdNow", "(II)I"⟩ : MethodName) prog_15_method_44_code 4 (some .int) ∈ Tgl := inT_7 77 rfl (by decide +kernel)
set_option maxRecDepth 20000 in
theorem tw_1564 : Jvm.Cond.methodLink "TwelvehundredModel" 208 (⟨"TwelvehundredModel", "placing", "()[I"⟩ : MethodName) ∈ Tgl := inT_7 78 rfl (by decide +kernel)
set_option maxRecDepth 20000 in
theorem tw_1566 : Jvm.Cond.instanceMethod (⟨"TwelvehundredModel", "placing", "()[I"⟩ : MethodName) ∈ Tgl := inT_7 80 rfl (by decide +kernel)
set_option maxRecDepth 20000 in
theorem tw_1567 : Jvm.Cond.code (⟨"TwelvehundredModel", "placing", "()[I"⟩ : MethodName) prog_15_method_37_code 6 (some (.array .int)) ∈ Tgl := inT_7 81 rfl (by decide +kernel)
set_option maxRecDepth 20000 in
theorem tw_1568 : Jvm.Cond.methodLink "TwelvehundredModel" 186 (⟨"TwelvehundredModel", "fetchedSet", "()I"⟩ : MethodName) ∈ Tgl := inT_7 82 rfl (by decide +kernel)
set_option maxRecDepth 20000 in
theorem tw_1570 : Jvm.Cond.instanceMethod (⟨"TwelvehundredModel", "fetchedSet", "()I"⟩ : MethodName) ∈ Tgl := inT_7 84 rfl (by decide +kernel)
set_option maxRecDepth 20000 in
theorem tw_1571 : Jvm.Cond.code (⟨"TwelvehundredModel", "fetchedSet", "()I"⟩ : MethodName) prog_15_method_36_code 3 (some .int) ∈ Tgl := inT_7 85 rfl (by decide +kernel)
set_option maxRecDepth 20000 in
theorem tw_1572 : Jvm.Cond.methodLink "TwelvehundredModel" 189 (⟨"TwelvehundredModel", "isBetterLiked", "(II)Z"⟩ : MethodName) ∈ Tgl := inT_7 86 rfl (by decide +kernel)
set_option maxRecDepth 20000 in
theorem tw_1574 : Jvm.Cond.instanceMethod (⟨"TwelvehundredModel", "isBetterLiked", "(II)Z"⟩ : MethodName) ∈ Tgl := inT_7 88 rfl (by decide +kernel)
set_option maxRecDepth 20000 in
theorem tw_1575 : Jvm.Cond.code (⟨"TwelvehundredModel", "isBetterLiked", "(II)Z"⟩ : MethodName) prog_15_method_35_code 5 (some .boolean) ∈ Tgl := inT_7 89 rfl (by decide +kernel)
set_option maxRecDepth 20000 in
theorem tw_1576 : Jvm.Cond.methodLink "TwelvehundredModel" 192 (⟨"TwelvehundredModel", "ratherHas", "(III)Z"⟩ : MethodName) ∈ Tgl := inT_7 90 rfl (by decide +kernel)
set_option maxRecDepth 20000 in
theorem tw_1578 : Jvm.Cond.instanceMethod (⟨"TwelvehundredModel", "ratherHas", "(III)Z"⟩ : MethodName) ∈ Tgl := inT_7 92 rfl (by decide +kernel)
set_option maxRecDepth 20000 in
theorem tw_1579 : Jvm.Cond.code (⟨"TwelvehundredModel", "ratherHas", "(III)Z"⟩ : MethodName) prog_15_method_34_code 5 (some .boolean) ∈ Tgl := inT_7 93 rfl (by decide +kernel)
set_option maxRecDepth 20000 in
theorem tw_1580 : Jvm.Cond.methodLink "TwelvehundredModel" 183 (⟨"TwelvehundredModel", "miles", "(II)I"⟩ : MethodName) ∈ Tgl := inT_7 94 rfl (by decide +kernel)
set_option maxRecDepth 20000 in
theorem tw_1582 : Jvm.Cond.instanceMethod (⟨"TwelvehundredModel", "miles", "(II)I"⟩ : MethodName) ∈ Tgl := inT_7 96 rfl (by decide +kernel)
set_option maxRecDepth 20000 in
theorem tw_1583 : Jvm.Cond.code (⟨"TwelvehundredModel", "miles", "(II)I"⟩ : MethodName) prog_15_method_33_code 3 (some .int) ∈ Tgl := inT_7 97 rfl (by decide +kernel)
set_option maxRecDepth 20000 in
theorem tw_1584 : Jvm.Cond.methodLink "TwelvehundredModel" 212 (⟨"TwelvehundredModel", "chosenSet", "()I"⟩ : MethodName) ∈ Tgl := inT_7 98 rfl (by decide +kernel)
set_option maxRecDepth 20000 in
theorem tw_1586 : Jvm.Cond.instanceMethod (⟨"TwelvehundredModel", "chosenSet", "()I"⟩ : MethodName) ∈ Tgl := inT_7 100 rfl (by decide +kernel)
set_option maxRecDepth 20000 in
theorem tw_1587 : Jvm.Cond.code (⟨"TwelvehundredModel", "chosenSet", "()I"⟩ : MethodName) prog_15_method_31_code 4 (some .int) ∈ Tgl := inT_7 101 rfl (by decide +kernel)
set_option maxRecDepth 20000 in
theorem tw_1588 : Jvm.Cond.methodLink "TwelvehundredModel" 180 (⟨"TwelvehundredModel", "canNow", "(I)Z"⟩ : MethodName) ∈ Tgl := inT_7 102 rfl (by decide +kernel)
set_option maxRecDepth 20000 in
theorem tw_1590 : Jvm.Cond.instanceMethod (⟨"TwelvehundredModel", "canNow", "(I)Z"⟩ : MethodName) ∈ Tgl := inT_7 104 rfl (by decide +kernel)
set_option maxRecDepth 20000 in
theorem tw_1591 : Jvm.Cond.code (⟨"TwelvehundredModel", "canNow", "(I)Z"⟩ : MethodName) prog_15_method_30_code 6 (some .boolean) ∈ Tgl := inT_7 105 rfl (by decide +kernel)
set_option maxRecDepth 20000 in
theorem tw_1592 : Jvm.Cond.methodLink "TwelvehundredLaw" 150 (⟨"TwelvehundredModel", "ofHall", "(II)I"⟩ : MethodName) ∈ Tgl := inT_7 106 rfl (by decide +kernel)
set_option maxRecDepth 20000 in
theorem tw_1593 : Jvm.Cond.instanceMethod (⟨"TwelvehundredModel", "ofHall", "(II)I"⟩ : MethodName) ∈ Tgl := inT_7 107 rfl (by decide +kernel)
set_option maxRecDepth 20000 in
theorem tw_1594 : Jvm.Cond.selects "TwelvehundredModel" (⟨"TwelvehundredModel", "ofHall", "(II)I"⟩ : MethodName) (⟨"TwelvehundredModel", "ofHall", "(II)I"⟩ : MethodName) ∈ Tgl := inT_7 108 rfl (by decide +kernel)
set_option maxRecDepth 20000 in
theorem tw_1595 : Jvm.Cond.code (⟨"TwelvehundredModel", "ofHall", "(II)I"⟩ : MethodName) prog_15_method_47_code 3 (some .int) ∈ Tgl := inT_7 109 rfl (by decide +kernel)
set_option maxRecDepth 20000 in
theorem tw_1596 : Jvm.Cond.methodLink "TwelvehundredModel" 221 (⟨"TwelvehundredModel", "ofHallNow", "(II)I"⟩ : MethodName) ∈ Tgl := inT_7 110 rfl (by decide +kernel)
set_option maxRecDepth 20000 in
theorem tw_1598 : Jvm.Cond.instanceMethod (⟨"TwelvehundredModel", "ofHallNow", "(II)I"⟩ : MethodName) ∈ Tgl := inT_7 112 rfl (by decide +kernel)
set_option maxRecDepth 20000 in
theorem tw_1599 : Jvm.Cond.code (⟨"TwelvehundredModel", "ofHallNow", "(II)I"⟩ : MethodName) prog_15_method_46_code 3 (some .int) ∈ Tgl := inT_7 113 rfl (by decide +kernel)
set_option maxRecDepth 20000 in
theorem tw_1600 : Jvm.Cond.methodLink "TwelvehundredModel" 195 (⟨"TwelvehundredModel", "having", "([II)I"⟩ : MethodName) ∈ Tgl := inT_7 114 rfl (by decide +kernel)
set_option maxRecDepth 20000 in
theorem tw_1602 : Jvm.Cond.instanceMethod (⟨"TwelvehundredModel", "having", "([II)I"⟩ : MethodName) ∈ Tgl := inT_7 116 rfl (by decide +kernel)
set_option maxRecDepth 20000 in
theorem tw_1603 : Jvm.Cond.code (⟨"TwelvehundredModel", "having", "([II)I"⟩ : MethodName) prog_15_method_39_code 5 (some .int) ∈ Tgl := inT_7 117 rfl (by decide +kernel)
set_option maxRecDepth 20000 in
theorem tw_1604 : Jvm.Cond.methodLink "TwelvehundredModel" 218 (⟨"TwelvehundredModel", "peopleOf", "(I)I"⟩ : MethodName) ∈ Tgl := inT_7 118 rfl (by decide +kernel)
set_option maxRecDepth 20000 in
theorem tw_1606 : Jvm.Cond.instanceMethod (⟨"TwelvehundredModel", "peopleOf", "(I)I"⟩ : MethodName) ∈ Tgl := inT_7 120 rfl (by decide +kernel)
set_option maxRecDepth 20000 in
theorem tw_1607 : Jvm.Cond.code (⟨"TwelvehundredModel", "peopleOf", "(I)I"⟩ : MethodName) prog_15_method_32_code 4 (some .int) ∈ Tgl := inT_7 121 rfl (by decide +kernel)
set_option maxRecDepth 20000 in
theorem tw_1608 : Jvm.Cond.methodLink "TwelvehundredLaw" 153 (⟨"TwelvehundredModel", "ofLot", "(II)I"⟩ : MethodName) ∈ Tgl := inT_7 122 rfl (by decide +kernel)
set_option maxRecDepth 20000 in
theorem tw_1609 : Jvm.Cond.instanceMethod (⟨"TwelvehundredModel", "ofLot", "(II)I"⟩ : MethodName) ∈ Tgl := inT_7 123 rfl (by decide +kernel)
set_option maxRecDepth 20000 in
theorem tw_1610 : Jvm.Cond.selects "TwelvehundredModel" (⟨"TwelvehundredModel", "ofLot", "(II)I"⟩ : MethodName) (⟨"TwelvehundredModel", "ofLot", "(II)I"⟩ : MethodName) ∈ Tgl := inT_7 124 rfl (by decide +kernel)
set_option maxRecDepth 20000 in
theorem tw_1611 : Jvm.Cond.code (⟨"TwelvehundredModel", "ofLot", "(II)I"⟩ : MethodName) prog_15_method_48_code 3 (some .int) ∈ Tgl := inT_7 125 rfl (by decide +kernel)
set_option maxRecDepth 20000 in
theorem tw_1612 : Jvm.Cond.methodLink "TwelvehundredLaw" 156 (⟨"TwelvehundredModel", "county", "(I)I"⟩ : MethodName) ∈ Tgl := inT_7 126 rfl (by decide +kernel)
set_option maxRecDepth 20000 in
theorem tw_1613 : Jvm.Cond.instanceMethod (⟨"TwelvehundredModel", "county", "(I)I"⟩ : MethodName) ∈ Tgl := inT_7 127 rfl (by decide +kernel)
set_option maxRecDepth 20000 in
theorem tw_1614 : Jvm.Cond.selects "TwelvehundredModel" (⟨"TwelvehundredModel", "county", "(I)I"⟩ : MethodName) (⟨"TwelvehundredModel", "county", "(I)I"⟩ : MethodName) ∈ Tgl := inT_7 128 rfl (by decide +kernel)
set_option maxRecDepth 20000 in
theorem tw_1615 : Jvm.Cond.code (⟨"TwelvehundredModel", "county", "(I)I"⟩ : MethodName) prog_15_method_51_code 2 (some .int) ∈ Tgl := inT_7 129 rfl (by decide +kernel)
set_option maxRecDepth 20000 in
theorem tw_1616 : Jvm.Cond.methodLink "TwelvehundredModel" 231 (⟨"TwelvehundredModel", "countyNow", "(I)I"⟩ : MethodName) ∈ Tgl := inT_7 130 rfl (by decide +kernel)
set_option maxRecDepth 20000 in
theorem tw_1618 : Jvm.Cond.instanceMethod (⟨"TwelvehundredModel", "countyNow", "(I)I"⟩ : MethodName) ∈ Tgl := inT_7 132 rfl (by decide +kernel)
set_option maxRecDepth 20000 in
theorem tw_1619 : Jvm.Cond.code (⟨"TwelvehundredModel", "countyNow", "(I)I"⟩ : MethodName) prog_15_method_50_code 2 (some .int) ∈ Tgl := inT_7 133 rfl (by decide +kernel)
set_option maxRecDepth 20000 in
theorem tw_1620 : Jvm.Cond.methodLink "TwelvehundredModel" 224 (⟨"TwelvehundredModel", "asked", "([I)I"⟩ : MethodName) ∈ Tgl := inT_7 134 rfl (by decide +kernel)
set_option maxRecDepth 20000 in
theorem tw_1622 : Jvm.Cond.instanceMethod (⟨"TwelvehundredModel", "asked", "([I)I"⟩ : MethodName) ∈ Tgl := inT_7 136 rfl (by decide +kernel)
set_option maxRecDepth 20000 in
theorem tw_1623 : Jvm.Cond.code (⟨"TwelvehundredModel", "asked", "([I)I"⟩ : MethodName) prog_15_method_38_code 6 (some .int) ∈ Tgl := inT_7 137 rfl (by decide +kernel)
set_option maxRecDepth 20000 in
theorem tw_1624 : Jvm.Cond.methodLink "TwelvehundredModel" 228 (⟨"TwelvehundredModel", "mealsLeft", "()I"⟩ : MethodName) ∈ Tgl := inT_7 138 rfl (by decide +kernel)
set_option maxRecDepth 20000 in
theorem tw_1626 : Jvm.Cond.instanceMethod (⟨"TwelvehundredModel", "mealsLeft", "()I"⟩ : MethodName) ∈ Tgl := inT_7 140 rfl (by decide +kernel)
set_option maxRecDepth 20000 in
theorem tw_1627 : Jvm.Cond.code (⟨"TwelvehundredModel", "mealsLeft", "()I"⟩ : MethodName) prog_15_method_49_code 4 (some .int) ∈ Tgl := inT_7 141 rfl (by decide +kernel)
set_option maxRecDepth 20000 in
theorem tw_1628 : Jvm.Cond.methodLink "TwelvehundredLaw" 161 (⟨"TwelvehundredModel", "signs", "()Ljava/lang/String;"⟩ : MethodName) ∈ Tgl := inT_7 142 rfl (by decide +kernel)
set_option maxRecDepth 20000 in
theorem tw_1629 : Jvm.Cond.instanceMethod (⟨"TwelvehundredModel", "signs", "()Ljava/lang/String;"⟩ : MethodName) ∈ Tgl := inT_7 143 rfl (by decide +kernel)
set_option maxRecDepth 20000 in
theorem tw_1630 : Jvm.Cond.selects "TwelvehundredModel" (⟨"TwelvehundredModel", "signs", "()Ljava/lang/String;"⟩ : MethodName) (⟨"TwelvehundredModel", "signs", "()Ljava/lang/String;"⟩ : MethodName) ∈ Tgl := inT_7 144 rfl (by decide +kernel)
set_option maxRecDepth 20000 in
theorem tw_1631 : Jvm.Cond.code (⟨"TwelvehundredModel", "signs", "()Ljava/lang/String;"⟩ : MethodName) prog_15_method_53_code 1 (some (.object "java/lang/String")) ∈ Tgl := inT_7 145 rfl (by decide +kernel)
set_option maxRecDepth 20000 in
theorem tw_1632 : Jvm.Cond.methodLink "TwelvehundredModel" 245 (⟨"TwelvehundredModel", "signsNow", "()Ljava/lang/String;"⟩ : MethodName) ∈ Tgl := inT_7 146 rfl (by decide +kernel)
set_option maxRecDepth 20000 in
theorem tw_1634 : Jvm.Cond.instanceMethod (⟨"TwelvehundredModel", "signsNow", "()Ljava/lang/String;"⟩ : MethodName) ∈ Tgl := inT_7 148 rfl (by decide +kernel)
set_option maxRecDepth 20000 in
theorem tw_1635 : Jvm.Cond.code (⟨"TwelvehundredModel", "signsNow", "()Ljava/lang/String;"⟩ : MethodName) prog_15_method_52_code 5 (some (.object "java/lang/String")) ∈ Tgl := inT_7 149 rfl (by decide +kernel)
set_option maxRecDepth 20000 in
theorem tw_1636 : Jvm.Cond.classLink "TwelvehundredModel" 234 "java/lang/StringBuilder" ∈ Tgl := inT_7 150 rfl (by decide +kernel)
set_option maxRecDepth 20000 in
theorem tw_1637 : Jvm.Cond.methodLink "TwelvehundredModel" 236 (⟨"java/lang/StringBuilder", "<init>", "()V"⟩ : MethodName) ∈ Tgl := inT_7 151 rfl (by decide +kernel)
set_option maxRecDepth 20000 in
theorem tw_1638 : Jvm.Cond.methodLink "TwelvehundredModel" 237 (⟨"java/lang/StringBuilder", "append", "(C)Ljava/lang/StringBuilder;"⟩ : MethodName) ∈ Tgl := inT_7 152 rfl (by decide +kernel)
set_option maxRecDepth 20000 in
theorem tw_1639 : Jvm.Cond.methodLink "TwelvehundredModel" 241 (⟨"java/lang/StringBuilder", "toString", "()Ljava/lang/String;"⟩ : MethodName) ∈ Tgl := inT_7 153 rfl (by decide +kernel)
set_option maxRecDepth 20000 in
theorem tw_1640 : Jvm.Cond.methodLink "TwelvehundredLaw" 170 (⟨"TwelvehundredModel", "can", "(I)Z"⟩ : MethodName) ∈ Tgl := inT_7 154 rfl (by decide +kernel)
set_option maxRecDepth 20000 in
theorem tw_1641 : Jvm.Cond.instanceMethod (⟨"TwelvehundredModel", "can", "(I)Z"⟩ : MethodName) ∈ Tgl := inT_7 155 rfl (by decide +kernel)
set_option maxRecDepth 20000 in
theorem tw_1642 : Jvm.Cond.selects "TwelvehundredModel" (⟨"TwelvehundredModel", "can", "(I)Z"⟩ : MethodName) (⟨"TwelvehundredModel", "can", "(I)Z"⟩ : MethodName) ∈ Tgl := inT_7 156 rfl (by decide +kernel)
set_option maxRecDepth 20000 in
theorem tw_1643 : Jvm.Cond.code (⟨"TwelvehundredModel", "can", "(I)Z"⟩ : MethodName) prog_15_method_54_code 2 (some .boolean) ∈ Tgl := inT_7 157 rfl (by decide +kernel)
set_option maxRecDepth 20000 in
theorem tw_1644 : Jvm.Cond.methodLink "TwelvehundredLaw" 174 (⟨"TwelvehundredModel", "chosen", "()I"⟩ : MethodName) ∈ Tgl := inT_7 158 rfl (by decide +kernel)
set_option maxRecDepth 20000 in
theorem tw_1645 : Jvm.Cond.instanceMethod (⟨"TwelvehundredModel", "chosen", "()I"⟩ : MethodName) ∈ Tgl := inT_7 159 rfl (by decide +kernel)
set_option maxRecDepth 20000 in
theorem tw_1646 : Jvm.Cond.selects "TwelvehundredModel" (⟨"TwelvehundredModel", "chosen", "()I"⟩ : MethodName) (⟨"TwelvehundredModel", "chosen", "()I"⟩ : MethodName) ∈ Tgl := inT_7 160 rfl (by decide +kernel)
set_option maxRecDepth 20000 in
theorem tw_1647 : Jvm.Cond.code (⟨"TwelvehundredModel", "chosen", "()I"⟩ : MethodName) prog_15_method_55_code 1 (some .int) ∈ Tgl := inT_7 161 rfl (by decide +kernel)
set_option maxRecDepth 20000 in
theorem tw_1648 : Jvm.Cond.methodLink "TwelvehundredLaw" 178 (⟨"TwelvehundredModel", "isStable", "(I)Z"⟩ : MethodName) ∈ Tgl := inT_7 162 rfl (by decide +kernel)
set_option maxRecDepth 20000 in
theorem tw_1649 : Jvm.Cond.instanceMethod (⟨"TwelvehundredModel", "isStable", "(I)Z"⟩ : MethodName) ∈ Tgl := inT_7 163 rfl (by decide +kernel)
set_option maxRecDepth 20000 in
theorem tw_1650 : Jvm.Cond.selects "TwelvehundredModel" (⟨"TwelvehundredModel", "isStable", "(I)Z"⟩ : MethodName) (⟨"TwelvehundredModel", "isStable", "(I)Z"⟩ : MethodName) ∈ Tgl := inT_7 164 rfl (by decide +kernel)
set_option maxRecDepth 20000 in
theorem tw_1651 : Jvm.Cond.code (⟨"TwelvehundredModel", "isStable", "(I)Z"⟩ : MethodName) prog_15_method_56_code 5 (some .boolean) ∈ Tgl := inT_7 165 rfl (by decide +kernel)
set_option maxRecDepth 20000 in
theorem tw_1652 : Jvm.Cond.methodLink "TwelvehundredModel" 248 (⟨"TwelvehundredModel", "isStableNow", "([I)Z"⟩ : MethodName) ∈ Tgl := inT_7 166 rfl (by decide +kernel)
set_option maxRecDepth 20000 in
theorem tw_1654 : Jvm.Cond.instanceMethod (⟨"TwelvehundredModel", "isStableNow", "([I)Z"⟩ : MethodName) ∈ Tgl := inT_7 168 rfl (by decide +kernel)
set_option maxRecDepth 20000 in
theorem tw_1655 : Jvm.Cond.code (⟨"TwelvehundredModel", "isStableNow", "([I)Z"⟩ : MethodName) prog_15_method_40_code 9 (some .boolean) ∈ Tgl := inT_7 169 rfl (by decide +kernel)
set_option maxRecDepth 20000 in
theorem tw_1656 : Jvm.Cond.methodLink "TwelvehundredModel" 199 (⟨"java/lang/Integer", "bitCount", "(I)I"⟩ : MethodName) ∈ Tgl := inT_7 170 rfl (by decide +kernel)
set_option maxRecDepth 20000 in
theorem tw_1657 : Jvm.Cond.methodLink "TwelvehundredLaw" 181 (⟨"TwelvehundredModel", "would", "(II)I"⟩ : MethodName) ∈ Tgl := inT_7 171 rfl (by decide +kernel)
set_option maxRecDepth 20000 in
theorem tw_1658 : Jvm.Cond.instanceMethod (⟨"TwelvehundredModel", "would", "(II)I"⟩ : MethodName) ∈ Tgl := inT_7 172 rfl (by decide +kernel)
set_option maxRecDepth 20000 in
theorem tw_1659 : Jvm.Cond.selects "TwelvehundredModel" (⟨"TwelvehundredModel", "would", "(II)I"⟩ : MethodName) (⟨"TwelvehundredModel", "would", "(II)I"⟩ : MethodName) ∈ Tgl := inT_7 173 rfl (by decide +kernel)
set_option maxRecDepth 20000 in
theorem tw_1660 : Jvm.Cond.code (⟨"TwelvehundredModel", "would", "(II)I"⟩ : MethodName) prog_15_method_58_code 3 (some .int) ∈ Tgl := inT_7 174 rfl (by decide +kernel)
set_option maxRecDepth 20000 in
theorem tw_1661 : Jvm.Cond.methodLink "TwelvehundredModel" 252 (⟨"TwelvehundredModel", "wouldNow", "(II)I"⟩ : MethodName) ∈ Tgl := inT_7 175 rfl (by decide +kernel)
set_option maxRecDepth 20000 in
theorem tw_1663 : Jvm.Cond.instanceMethod (⟨"TwelvehundredModel", "wouldNow", "(II)I"⟩ : MethodName) ∈ Tgl := inT_7 177 rfl (by decide +kernel)
set_option maxRecDepth 20000 in
theorem tw_1664 : Jvm.Cond.code (⟨"TwelvehundredModel", "wouldNow", "(II)I"⟩ : MethodName) prog_15_method_57_code 6 (some .int) ∈ Tgl := inT_7 178 rfl (by decide +kernel)
set_option maxRecDepth 20000 in
theorem tw_1665 : Jvm.Cond.methodLink "TwelvehundredLaw" 184 (⟨"TwelvehundredModel", "areAlike", "(II)Z"⟩ : MethodName) ∈ Tgl := inT_7 179 rfl (by decide +kernel)
set_option maxRecDepth 20000 in
theorem tw_1666 : Jvm.Cond.instanceMethod (⟨"TwelvehundredModel", "areAlike", "(II)Z"⟩ : MethodName) ∈ Tgl := inT_7 180 rfl (by decide +kernel)
set_option maxRecDepth 20000 in
theorem tw_1667 : Jvm.Cond.selects "TwelvehundredModel" (⟨"TwelvehundredModel", "areAlike", "(II)Z"⟩ : MethodName) (⟨"TwelvehundredModel", "areAlike", "(II)Z"⟩ : MethodName) ∈ Tgl := inT_7 181 rfl (by decide +kernel)
set_option maxRecDepth 20000 in
theorem tw_1668 : Jvm.Cond.code (⟨"TwelvehundredModel", "areAlike", "(II)Z"⟩ : MethodName) prog_15_method_59_code 3 (some .boolean) ∈ Tgl := inT_7 182 rfl (by decide +kernel)
set_option maxRecDepth 20000 in
theorem tw_1669 : Jvm.Cond.methodLink "TwelvehundredLaw" 189 (⟨"TwelvehundredModel", "isSound", "()Z"⟩ : MethodName) ∈ Tgl := inT_7 183 rfl (by decide +kernel)
set_option maxRecDepth 20000 in
theorem tw_1670 : Jvm.Cond.instanceMethod (⟨"TwelvehundredModel", "isSound", "()Z"⟩ : MethodName) ∈ Tgl := inT_7 184 rfl (by decide +kernel)
set_option maxRecDepth 20000 in
theorem tw_1671 : Jvm.Cond.selects "TwelvehundredModel" (⟨"TwelvehundredModel", "isSound", "()Z"⟩ : MethodName) (⟨"TwelvehundredModel", "isSound", "()Z"⟩ : MethodName) ∈ Tgl := inT_7 185 rfl (by decide +kernel)
set_option maxRecDepth 20000 in
theorem tw_1672 : Jvm.Cond.code (⟨"TwelvehundredModel", "isSound", "()Z"⟩ : MethodName) prog_15_method_62_code 1 (some .boolean) ∈ Tgl := inT_7 186 rfl (by decide +kernel)
set_option maxRecDepth 20000 in
theorem tw_1673 : Jvm.Cond.methodLink "TwelvehundredModel" 259 (⟨"TwelvehundredModel", "isSoundNow", "()Z"⟩ : MethodName) ∈ Tgl := inT_7 187 rfl (by decide +kernel)
set_option maxRecDepth 20000 in
theorem tw_1675 : Jvm.Cond.instanceMethod (⟨"TwelvehundredModel", "isSoundNow", "()Z"⟩ : MethodName) ∈ Tgl := inT_7 189 rfl (by decide +kernel)
set_option maxRecDepth 20000 in
theorem tw_1676 : Jvm.Cond.code (⟨"TwelvehundredModel", "isSoundNow", "()Z"⟩ : MethodName) prog_15_method_61_code 4 (some .boolean) ∈ Tgl := inT_7 190 rfl (by decide +kernel)
set_option maxRecDepth 20000 in
theorem tw_1677 : Jvm.Cond.methodLink "TwelvehundredModel" 255 (⟨"TwelvehundredModel", "isBest", "([I[II)Z"⟩ : MethodName) ∈ Tgl := inT_7 191 rfl (by decide +kernel)
set_option maxRecDepth 20000 in
theorem tw_1679 : Jvm.Cond.instanceMethod (⟨"TwelvehundredModel", "isBest", "([I[II)Z"⟩ : MethodName) ∈ Tgl := inT_7 193 rfl (by decide +kernel)
set_option maxRecDepth 20000 in
theorem tw_1680 : Jvm.Cond.code (⟨"TwelvehundredModel", "isBest", "([I[II)Z"⟩ : MethodName) prog_15_method_60_code 6 (some .boolean) ∈ Tgl := inT_7 194 rfl (by decide +kernel)
set_option maxRecDepth 20000 in
theorem tw_1681 : Jvm.Cond.methodLink "TwelvehundredLaw" 194 (⟨"TwelvehundredModel", "digest", "()J"⟩ : MethodName) ∈ Tgl := inT_7 195 rfl (by decide +kernel)
set_option maxRecDepth 20000 in
theorem tw_1682 : Jvm.Cond.instanceMethod (⟨"TwelvehundredModel", "digest", "()J"⟩ : MethodName) ∈ Tgl := inT_7 196 rfl (by decide +kernel)
set_option maxRecDepth 20000 in
theorem tw_1683 : Jvm.Cond.selects "TwelvehundredModel" (⟨"TwelvehundredModel", "digest", "()J"⟩ : MethodName) (⟨"TwelvehundredModel", "digest", "()J"⟩ : MethodName) ∈ Tgl := inT_7 197 rfl (by decide +kernel)
set_option maxRecDepth 20000 in
theorem tw_1684 : Jvm.Cond.code (⟨"TwelvehundredModel", "digest", "()J"⟩ : MethodName) prog_15_method_64_code 3 (some .long) ∈ Tgl := inT_7 198 rfl (by decide +kernel)
set_option maxRecDepth 20000 in
theorem tw_1685 : Jvm.Cond.constantLong "TwelvehundredModel" 268 (Int64.ofNat 8609) ∈ Tgl := inT_7 199 rfl (by decide +kernel)
set_option maxRecDepth 20000 in
theorem tw_1686 : Jvm.Cond.methodLink "TwelvehundredModel" 270 (⟨"TwelvehundredModel", "add", "(J)V"⟩ : MethodName) ∈ Tgl := inT_7 200 rfl (by decide +kernel)
set_option maxRecDepth 20000 in
theorem tw_1688 : Jvm.Cond.instanceMethod (⟨"TwelvehundredModel", "add", "(J)V"⟩ : MethodName) ∈ Tgl := inT_7 202 rfl (by decide +kernel)
set_option maxRecDepth 20000 in
theorem tw_1689 : Jvm.Cond.code (⟨"TwelvehundredModel", "add", "(J)V"⟩ : MethodName) prog_15_method_63_code 3 (none) ∈ Tgl := inT_7 203 rfl (by decide +kernel)
set_option maxRecDepth 20000 in
theorem tw_1690 : Jvm.Cond.constantLong "TwelvehundredModel" 266 (Int64.ofNat 31) ∈ Tgl := inT_7 204 rfl (by decide +kernel)
set_option maxRecDepth 20000 in
theorem tw_1691 : Jvm.Cond.methodLink "TwelvehundredModel" 273 (⟨"java/lang/String", "length", "()I"⟩ : MethodName) ∈ Tgl := inT_7 205 rfl (by decide +kernel)
set_option maxRecDepth 20000 in
theorem tw_1692 : Jvm.Cond.methodLink "TwelvehundredLaw" 162 (⟨"java/lang/String", "equals", "(Ljava/lang/Object;)Z"⟩ : MethodName) ∈ Tgl := inT_7 206 rfl (by decide +kernel)
set_option maxRecDepth 20000 in
theorem tw_1693 : Jvm.Cond.instanceMethod (⟨"java/lang/String", "equals", "(Ljava/lang/Object;)Z"⟩ : MethodName) ∈ Tgl := inT_7 207 rfl (by decide +kernel)
set_option maxRecDepth 20000 in
theorem tw_1694 : Jvm.Cond.selects "java/lang/String" (⟨"java/lang/String", "equals", "(Ljava/lang/Object;)Z"⟩ : MethodName) (⟨"java/lang/String", "equals", "(Ljava/lang/Object;)Z"⟩ : MethodName) ∈ Tgl := inT_7 208 rfl (by decide +kernel)
set_option maxRecDepth 20000 in
theorem tw_1695 : Jvm.Cond.code (⟨"java/lang/String", "equals", "(Ljava/lang/Object;)Z"⟩ : MethodName) prog_33_method_66_code 3 (some .boolean) ∈ Tgl := inT_7 209 rfl (by decide +kernel)
set_option maxRecDepth 20000 in
theorem tw_1696 : Jvm.Cond.classLink "java/lang/String" 10 "java/lang/String" ∈ Tgl := inT_7 210 rfl (by decide +kernel)
set_option maxRecDepth 20000 in
theorem tw_1697 : Jvm.Cond.methodLink "java/lang/String" 541 (⟨"java/lang/StringLatin1", "equals", "([B[B)Z"⟩ : MethodName) ∈ Tgl := inT_7 211 rfl (by decide +kernel)
set_option maxRecDepth 20000 in
theorem tw_1698 : Jvm.Cond.static (⟨"java/lang/StringLatin1", "equals", "([B[B)Z"⟩ : MethodName) ∈ Tgl := inT_7 212 rfl (by decide +kernel)
set_option maxRecDepth 20000 in
theorem tw_1699 : Jvm.Cond.code (⟨"java/lang/StringLatin1", "equals", "([B[B)Z"⟩ : MethodName) prog_35_method_13_code 3 (some .boolean) ∈ Tgl := inT_7 213 rfl (by decide +kernel)
set_option maxRecDepth 20000 in
theorem tw_1700 : Jvm.Cond.sameMethod "java/lang/AbstractStringBuilder" "java/lang/AbstractStringBuilder" "append" "(C)Ljava/lang/AbstractStringBuilder;" ∈ Tgl := inT_7 214 rfl (by decide +kernel)
set_option maxRecDepth 20000 in
theorem tw_1701 : Jvm.Cond.sameMethod "java/lang/AbstractStringBuilder" "java/lang/AbstractStringBuilder" "ensureCapacityInternal" "(I)V" ∈ Tgl := inT_7 215 rfl (by decide +kernel)
set_option maxRecDepth 20000 in
theorem tw_1704 : Jvm.Cond.sameMethod "java/lang/Throwable" "java/lang/Throwable" "fillInStackTrace" "(I)Ljava/lang/Throwable;" ∈ Tgl := inT_7 218 rfl (by decide +kernel)
set_option maxRecDepth 20000 in
theorem tw_1735 : Jvm.Cond.selects "[Ljava/lang/Object;" (⟨"java/lang/Object", "getClass", "()Ljava/lang/Class;"⟩ : MethodName) (⟨"java/lang/Object", "getClass", "()Ljava/lang/Class;"⟩ : MethodName) ∈ Tgl := inT_8 9 rfl (by decide +kernel)
set_option maxRecDepth 20000 in
theorem tw_1741 : Jvm.Cond.selects "java/lang/StringBuilder" (⟨"java/lang/AbstractStringBuilder", "ensureCapacityInternal", "(I)V"⟩ : MethodName) (⟨"java/lang/AbstractStringBuilder", "ensureCapacityInternal", "(I)V"⟩ : MethodName) ∈ Tgl := inT_99 0 (by decide +kernel) (by decide +kernel)
set_option maxRecDepth 20000 in
theorem nw_96 : Jvm.Cond.methodLinkNest "Twelvehundred" 9 (⟨"Twelvehundred$River", "<init>", "()V"⟩ : MethodName) "Twelvehundred" ∈ Ntl := inN_1 50 rfl (by decide +kernel)
set_option maxRecDepth 20000 in
theorem nw_101 : Jvm.Cond.fieldLinkNest "Twelvehundred" 151 "Twelvehundred$River" "level" "I" "Twelvehundred" ∈ Ntl := inN_1 55 rfl (by decide +kernel)
set_option maxRecDepth 20000 in
theorem nw_103 : Jvm.Cond.fieldLinkNest "Twelvehundred" 154 "Twelvehundred$River" "rise" "I" "Twelvehundred" ∈ Ntl := inN_1 57 rfl (by decide +kernel)
set_option maxRecDepth 20000 in
theorem nw_105 : Jvm.Cond.fieldLinkNest "Twelvehundred" 171 "Twelvehundred$River" "hour" "I" "Twelvehundred" ∈ Ntl := inN_1 59 rfl (by decide +kernel)
set_option maxRecDepth 20000 in
theorem nw_129 : Jvm.Cond.fieldLinkNest "java/util/ArrayList$Itr" 28 "java/util/ArrayList" "size" "I" "java/util/ArrayList" ∈ Ntl := inN_1 83 rfl (by decide +kernel)
set_option maxRecDepth 20000 in
theorem nw_169 : Jvm.Cond.fieldLinkNest "Twelvehundred" 159 "Twelvehundred$Rescue" "busCount" "I" "Twelvehundred" ∈ Ntl := inN_1 123 rfl (by decide +kernel)
set_option maxRecDepth 20000 in
theorem nw_171 : Jvm.Cond.fieldLinkNest "Twelvehundred" 164 "Twelvehundred$Rescue" "fetchedThisHour" "I" "Twelvehundred" ∈ Ntl := inN_1 125 rfl (by decide +kernel)
set_option maxRecDepth 20000 in
theorem nw_192 : Jvm.Cond.fieldLinkNest "Twelvehundred" 296 "Twelvehundred$Asking" "askedCount" "I" "Twelvehundred" ∈ Ntl := inN_1 146 rfl (by decide +kernel)
set_option maxRecDepth 20000 in
theorem nw_207 : Jvm.Cond.methodLinkNest "Twelvehundred" 61 (⟨"Twelvehundred$Larder", "<init>", "()V"⟩ : MethodName) "Twelvehundred" ∈ Ntl := inN_1 161 rfl (by decide +kernel)
set_option maxRecDepth 20000 in
theorem nw_214 : Jvm.Cond.fieldLinkNest "Twelvehundred" 188 "Twelvehundred$Larder" "lots" "Ljava/util/ArrayList;" "Twelvehundred" ∈ Ntl := inN_1 168 rfl (by decide +kernel)
set_option maxRecDepth 20000 in
theorem nw_216 : Jvm.Cond.fieldLinkNest "Twelvehundred" 302 "Twelvehundred$Larder" "given" "I" "Twelvehundred" ∈ Ntl := inN_1 170 rfl (by decide +kernel)
set_option maxRecDepth 20000 in
theorem nw_218 : Jvm.Cond.fieldLinkNest "Twelvehundred" 305 "Twelvehundred$Larder" "spoilt" "I" "Twelvehundred" ∈ Ntl := inN_1 172 rfl (by decide +kernel)
set_option maxRecDepth 20000 in
theorem nw_220 : Jvm.Cond.fieldLinkNest "Twelvehundred" 308 "Twelvehundred$Larder" "missing" "I" "Twelvehundred" ∈ Ntl := inN_1 174 rfl (by decide +kernel)
set_option maxRecDepth 20000 in
theorem nw_232 : Jvm.Cond.methodLinkNest "Twelvehundred" 68 (⟨"Twelvehundred$Bulletin", "<init>", "()V"⟩ : MethodName) "Twelvehundred" ∈ Ntl := inN_1 186 rfl (by decide +kernel)
set_option maxRecDepth 20000 in
theorem nw_239 : Jvm.Cond.fieldLinkNest "Twelvehundred" 210 "Twelvehundred$Bulletin" "listed" "Ljava/util/ArrayList;" "Twelvehundred" ∈ Ntl := inN_1 193 rfl (by decide +kernel)
set_option maxRecDepth 20000 in
theorem nw_241 : Jvm.Cond.fieldLinkNest "Twelvehundred" 228 "Twelvehundred$Bulletin" "refused" "I" "Twelvehundred" ∈ Ntl := inN_1 195 rfl (by decide +kernel)
set_option maxRecDepth 20000 in
theorem nw_476 : Jvm.Cond.castable "java/lang/IllegalArgumentException" "java/lang/IllegalArgumentException" ∈ Ntl := inN_2 190 rfl (by decide +kernel)
set_option maxRecDepth 20000 in
theorem nw_477 : Jvm.Cond.declares (⟨"java/lang/RuntimeException", "<init>", "()V"⟩ : MethodName) ∈ Ntl := inN_2 191 rfl (by decide +kernel)
set_option maxRecDepth 20000 in
theorem nw_478 : Jvm.Cond.declares (⟨"java/lang/RuntimeException", "<init>", "(Ljava/lang/String;)V"⟩ : MethodName) ∈ Ntl := inN_2 192 rfl (by decide +kernel)
set_option maxRecDepth 20000 in
theorem nw_479 : Jvm.Cond.declares (⟨"java/lang/Exception", "<init>", "()V"⟩ : MethodName) ∈ Ntl := inN_2 193 rfl (by decide +kernel)
set_option maxRecDepth 20000 in
theorem nw_480 : Jvm.Cond.declares (⟨"java/lang/Exception", "<init>", "(Ljava/lang/String;)V"⟩ : MethodName) ∈ Ntl := inN_2 194 rfl (by decide +kernel)
set_option maxRecDepth 20000 in
theorem nw_481 : Jvm.Cond.declares (⟨"java/lang/Throwable", "<init>", "()V"⟩ : MethodName) ∈ Ntl := inN_2 195 rfl (by decide +kernel)
set_option maxRecDepth 20000 in
theorem nw_482 : Jvm.Cond.declares (⟨"java/lang/Throwable", "<init>", "(Ljava/lang/String;)V"⟩ : MethodName) ∈ Ntl := inN_2 196 rfl (by decide +kernel)
set_option maxRecDepth 20000 in
theorem nw_655 : Jvm.Cond.methodLinkNest "Twelvehundred$Rescue" 55 (⟨"Twelvehundred", "hasMember", "(II)Z"⟩ : MethodName) "Twelvehundred" ∈ Ntl := inN_3 129 rfl (by decide +kernel)
set_option maxRecDepth 20000 in
theorem nw_670 : Jvm.Cond.methodLinkNest "Twelvehundred$Rescue" 41 (⟨"Twelvehundred", "oneIf", "(Z)I"⟩ : MethodName) "Twelvehundred" ∈ Ntl := inN_3 144 rfl (by decide +kernel)
set_option maxRecDepth 20000 in
theorem nw_747 : Jvm.Cond.methodLinkNest "Twelvehundred" 357 (⟨"Twelvehundred$Placing", "isBeaten", "(LTwelvehundred$Placing;LTwelvehundred$Placing;I)Z"⟩ : MethodName) "Twelvehundred" ∈ Ntl := inN_3 221 rfl (by decide +kernel)
set_option maxRecDepth 20000 in
theorem nw_775 : Jvm.Cond.methodLinkNest "Twelvehundred$Bulletin" 40 (⟨"Twelvehundred", "oneIf", "(Z)I"⟩ : MethodName) "Twelvehundred" ∈ Ntl := inN_4 9 rfl (by decide +kernel)
set_option maxRecDepth 20000 in
theorem nw_813 : Jvm.Cond.castable "java/lang/IndexOutOfBoundsException" "java/lang/IndexOutOfBoundsException" ∈ Ntl := inN_4 47 rfl (by decide +kernel)
set_option maxRecDepth 20000 in
theorem nw_873 : Jvm.Cond.methodLinkNest "TwelvehundredLaw" 91 (⟨"TwelvehundredLaw$Out", "<init>", "()V"⟩ : MethodName) "TwelvehundredLaw" ∈ Ntl := inN_4 107 rfl (by decide +kernel)
set_option maxRecDepth 20000 in
theorem nw_877 : Jvm.Cond.fieldLinkNest "TwelvehundredLaw" 13 "TwelvehundredLaw$Out" "n" "J" "TwelvehundredLaw" ∈ Ntl := inN_4 111 rfl (by decide +kernel)
set_option maxRecDepth 20000 in
theorem nw_893 : Jvm.Cond.castable "java/lang/IllegalStateException" "java/lang/IllegalStateException" ∈ Ntl := inN_4 127 rfl (by decide +kernel)
set_option maxRecDepth 20000 in
theorem nw_913 : Jvm.Cond.fieldLinkNest "Twelvehundred" 250 "Twelvehundred$Street" "number" "I" "Twelvehundred" ∈ Ntl := inN_4 147 rfl (by decide +kernel)
set_option maxRecDepth 20000 in
theorem nw_915 : Jvm.Cond.fieldLinkNest "Twelvehundred$River" 30 "Twelvehundred$Street" "height" "I" "Twelvehundred" ∈ Ntl := inN_4 149 rfl (by decide +kernel)
set_option maxRecDepth 20000 in
theorem nw_916 : Jvm.Cond.fieldLinkNest "Twelvehundred" 231 "Twelvehundred$Street" "height" "I" "Twelvehundred" ∈ Ntl := inN_4 150 rfl (by decide +kernel)
set_option maxRecDepth 20000 in
theorem nw_918 : Jvm.Cond.fieldLinkNest "Twelvehundred$Household" 34 "Twelvehundred$Street" "place" "I" "Twelvehundred" ∈ Ntl := inN_4 152 rfl (by decide +kernel)
set_option maxRecDepth 20000 in
theorem nw_919 : Jvm.Cond.fieldLinkNest "Twelvehundred" 234 "Twelvehundred$Street" "place" "I" "Twelvehundred" ∈ Ntl := inN_4 153 rfl (by decide +kernel)
set_option maxRecDepth 20000 in
theorem nw_997 : Jvm.Cond.fieldLinkNest "Twelvehundred$Household" 43 "Twelvehundred$Hall" "number" "I" "Twelvehundred" ∈ Ntl := inN_4 231 rfl (by decide +kernel)
set_option maxRecDepth 20000 in
theorem nw_998 : Jvm.Cond.fieldLinkNest "Twelvehundred$Asking" 77 "Twelvehundred$Hall" "number" "I" "Twelvehundred" ∈ Ntl := inN_4 232 rfl (by decide +kernel)
set_option maxRecDepth 20000 in
theorem nw_999 : Jvm.Cond.fieldLinkNest "Twelvehundred" 263 "Twelvehundred$Hall" "number" "I" "Twelvehundred" ∈ Ntl := inN_4 233 rfl (by decide +kernel)
set_option maxRecDepth 20000 in
theorem nw_1001 : Jvm.Cond.fieldLinkNest "Twelvehundred$Household" 29 "Twelvehundred$Hall" "place" "I" "Twelvehundred" ∈ Ntl := inN_4 235 rfl (by decide +kernel)
set_option maxRecDepth 20000 in
theorem nw_1002 : Jvm.Cond.fieldLinkNest "Twelvehundred" 273 "Twelvehundred$Hall" "place" "I" "Twelvehundred" ∈ Ntl := inN_4 236 rfl (by decide +kernel)
set_option maxRecDepth 20000 in
theorem nw_1004 : Jvm.Cond.fieldLinkNest "Twelvehundred" 123 "Twelvehundred$Hall" "roomCount" "I" "Twelvehundred" ∈ Ntl := inN_4 238 rfl (by decide +kernel)
set_option maxRecDepth 20000 in
theorem nw_1005 : Jvm.Cond.fieldLinkNest "Twelvehundred$Placing" 60 "Twelvehundred$Hall" "roomCount" "I" "Twelvehundred" ∈ Ntl := inN_4 239 rfl (by decide +kernel)
set_option maxRecDepth 20000 in
theorem nw_1035 : Jvm.Cond.methodLinkNest "Twelvehundred$Asking" 78 (⟨"Twelvehundred", "hasMember", "(II)Z"⟩ : MethodName) "Twelvehundred" ∈ Ntl := inN_5 29 rfl (by decide +kernel)
set_option maxRecDepth 20000 in
theorem nw_1072 : Jvm.Cond.fieldLinkNest "Twelvehundred$Placing" 24 "Twelvehundred$Household" "number" "I" "Twelvehundred" ∈ Ntl := inN_5 66 rfl (by decide +kernel)
set_option maxRecDepth 20000 in
theorem nw_1073 : Jvm.Cond.fieldLinkNest "Twelvehundred$Asking" 74 "Twelvehundred$Household" "number" "I" "Twelvehundred" ∈ Ntl := inN_5 67 rfl (by decide +kernel)
set_option maxRecDepth 20000 in
theorem nw_1075 : Jvm.Cond.fieldLinkNest "Twelvehundred$Rescue" 45 "Twelvehundred$Household" "home" "LTwelvehundred$Street;" "Twelvehundred" ∈ Ntl := inN_5 69 rfl (by decide +kernel)
set_option maxRecDepth 20000 in
theorem nw_1076 : Jvm.Cond.fieldLinkNest "Twelvehundred" 138 "Twelvehundred$Household" "home" "LTwelvehundred$Street;" "Twelvehundred" ∈ Ntl := inN_5 70 rfl (by decide +kernel)
set_option maxRecDepth 20000 in
theorem nw_1078 : Jvm.Cond.fieldLinkNest "Twelvehundred$Rescue" 59 "Twelvehundred$Household" "people" "I" "Twelvehundred" ∈ Ntl := inN_5 72 rfl (by decide +kernel)
set_option maxRecDepth 20000 in
theorem nw_1079 : Jvm.Cond.fieldLinkNest "Twelvehundred" 253 "Twelvehundred$Household" "people" "I" "Twelvehundred" ∈ Ntl := inN_5 73 rfl (by decide +kernel)
set_option maxRecDepth 20000 in
theorem nw_1081 : Jvm.Cond.fieldLinkNest "Twelvehundred" 256 "Twelvehundred$Household" "isFrail" "Z" "Twelvehundred" ∈ Ntl := inN_5 75 rfl (by decide +kernel)
set_option maxRecDepth 20000 in
theorem nw_1083 : Jvm.Cond.fieldLinkNest "Twelvehundred$Rescue" 38 "Twelvehundred$Household" "state" "I" "Twelvehundred" ∈ Ntl := inN_5 77 rfl (by decide +kernel)
set_option maxRecDepth 20000 in
theorem nw_1084 : Jvm.Cond.fieldLinkNest "Twelvehundred$Asking" 50 "Twelvehundred$Household" "state" "I" "Twelvehundred" ∈ Ntl := inN_5 78 rfl (by decide +kernel)
set_option maxRecDepth 20000 in
theorem nw_1085 : Jvm.Cond.fieldLinkNest "Twelvehundred$Placing" 43 "Twelvehundred$Household" "state" "I" "Twelvehundred" ∈ Ntl := inN_5 79 rfl (by decide +kernel)
set_option maxRecDepth 20000 in
theorem nw_1086 : Jvm.Cond.fieldLinkNest "Twelvehundred" 146 "Twelvehundred$Household" "state" "I" "Twelvehundred" ∈ Ntl := inN_5 80 rfl (by decide +kernel)
set_option maxRecDepth 20000 in
theorem nw_1160 : Jvm.Cond.fieldLinkNest "Twelvehundred$Larder" 52 "Twelvehundred$Lot" "came" "I" "Twelvehundred" ∈ Ntl := inN_5 154 rfl (by decide +kernel)
set_option maxRecDepth 20000 in
theorem nw_1162 : Jvm.Cond.fieldLinkNest "Twelvehundred$Larder" 49 "Twelvehundred$Lot" "lastHour" "I" "Twelvehundred" ∈ Ntl := inN_5 156 rfl (by decide +kernel)
set_option maxRecDepth 20000 in
theorem nw_1163 : Jvm.Cond.fieldLinkNest "Twelvehundred" 288 "Twelvehundred$Lot" "lastHour" "I" "Twelvehundred" ∈ Ntl := inN_5 157 rfl (by decide +kernel)
set_option maxRecDepth 20000 in
theorem nw_1165 : Jvm.Cond.fieldLinkNest "Twelvehundred$Larder" 34 "Twelvehundred$Lot" "left" "I" "Twelvehundred" ∈ Ntl := inN_5 159 rfl (by decide +kernel)
set_option maxRecDepth 20000 in
theorem nw_1166 : Jvm.Cond.fieldLinkNest "Twelvehundred" 285 "Twelvehundred$Lot" "left" "I" "Twelvehundred" ∈ Ntl := inN_5 160 rfl (by decide +kernel)
set_option maxRecDepth 20000 in
theorem nw_1211 : Jvm.Cond.fieldLinkNest "Twelvehundred$Bulletin" 52 "Twelvehundred$Listed" "name" "I" "Twelvehundred" ∈ Ntl := inN_5 205 rfl (by decide +kernel)
set_option maxRecDepth 20000 in
theorem nw_1213 : Jvm.Cond.fieldLinkNest "Twelvehundred$Bulletin" 36 "Twelvehundred$Listed" "isStruck" "Z" "Twelvehundred" ∈ Ntl := inN_5 207 rfl (by decide +kernel)
set_option maxRecDepth 20000 in
theorem nw_1214 : Jvm.Cond.fieldLinkNest "Twelvehundred" 221 "Twelvehundred$Listed" "isStruck" "Z" "Twelvehundred" ∈ Ntl := inN_5 208 rfl (by decide +kernel)
set_option maxRecDepth 20000 in
theorem nw_1216 : Jvm.Cond.fieldLinkNest "Twelvehundred$Bulletin" 33 "Twelvehundred$Listed" "group" "I" "Twelvehundred" ∈ Ntl := inN_5 210 rfl (by decide +kernel)
set_option maxRecDepth 20000 in
theorem nw_1378 : Jvm.Cond.methodLinkNest "TwelvehundredModel" 69 (⟨"TwelvehundredModel$Household", "<init>", "()V"⟩ : MethodName) "TwelvehundredModel" ∈ Ntl := inN_6 132 rfl (by decide +kernel)
set_option maxRecDepth 20000 in
theorem nw_1382 : Jvm.Cond.fieldLinkNest "TwelvehundredModel" 70 "TwelvehundredModel$Household" "street" "I" "TwelvehundredModel" ∈ Ntl := inN_6 136 rfl (by decide +kernel)
set_option maxRecDepth 20000 in
theorem nw_1383 : Jvm.Cond.fieldLinkNest "TwelvehundredModel" 73 "TwelvehundredModel$Household" "people" "I" "TwelvehundredModel" ∈ Ntl := inN_6 137 rfl (by decide +kernel)
set_option maxRecDepth 20000 in
theorem nw_1384 : Jvm.Cond.fieldLinkNest "TwelvehundredModel" 76 "TwelvehundredModel$Household" "isFrail" "Z" "TwelvehundredModel" ∈ Ntl := inN_6 138 rfl (by decide +kernel)
set_option maxRecDepth 20000 in
theorem nw_1385 : Jvm.Cond.fieldLinkNest "TwelvehundredModel" 83 "TwelvehundredModel$Household" "state" "I" "TwelvehundredModel" ∈ Ntl := inN_6 139 rfl (by decide +kernel)
set_option maxRecDepth 20000 in
theorem nw_1450 : Jvm.Cond.interfaceMethod "java/util/Iterator" "java/util/Iterator" "hasNext" "()Z" ∈ Ntl := inN_6 204 rfl (by decide +kernel)
set_option maxRecDepth 20000 in
theorem nw_1451 : Jvm.Cond.declares (⟨"java/util/Iterator", "hasNext", "()Z"⟩ : MethodName) ∈ Ntl := inN_6 205 rfl (by decide +kernel)
set_option maxRecDepth 20000 in
theorem nw_1452 : Jvm.Cond.castable "java/util/ArrayList$Itr" "java/util/Iterator" ∈ Ntl := inN_6 206 rfl (by decide +kernel)
set_option maxRecDepth 20000 in
theorem nw_1454 : Jvm.Cond.unhidden "java/util/ArrayList$Itr" "hasNext" "()Z" ∈ Ntl := inN_6 208 rfl (by decide +kernel)
set_option maxRecDepth 20000 in
theorem nw_1456 : Jvm.Cond.publicMethod (⟨"java/util/ArrayList$Itr", "hasNext", "()Z"⟩ : MethodName) ∈ Ntl := inN_6 210 rfl (by decide +kernel)
set_option maxRecDepth 20000 in
theorem nw_1460 : Jvm.Cond.interfaceMethod "java/util/Iterator" "java/util/Iterator" "next" "()Ljava/lang/Object;" ∈ Ntl := inN_6 214 rfl (by decide +kernel)
set_option maxRecDepth 20000 in
theorem nw_1461 : Jvm.Cond.declares (⟨"java/util/Iterator", "next", "()Ljava/lang/Object;"⟩ : MethodName) ∈ Ntl := inN_6 215 rfl (by decide +kernel)
set_option maxRecDepth 20000 in
theorem nw_1463 : Jvm.Cond.unhidden "java/util/ArrayList$Itr" "next" "()Ljava/lang/Object;" ∈ Ntl := inN_6 217 rfl (by decide +kernel)
set_option maxRecDepth 20000 in
theorem nw_1465 : Jvm.Cond.publicMethod (⟨"java/util/ArrayList$Itr", "next", "()Ljava/lang/Object;"⟩ : MethodName) ∈ Ntl := inN_6 219 rfl (by decide +kernel)
set_option maxRecDepth 20000 in
theorem nw_1710 : Jvm.Cond.castable "Twelvehundred$Hall" "java/lang/Object" ∈ Ntl := inN_7 224 rfl (by decide +kernel)
set_option maxRecDepth 20000 in
theorem nw_1711 : Jvm.Cond.castable "java/lang/Integer" "java/lang/Object" ∈ Ntl := inN_7 225 rfl (by decide +kernel)
set_option maxRecDepth 20000 in
theorem nw_1722 : Jvm.Cond.castable "java/lang/IllegalArgumentException" "java/lang/Object" ∈ Ntl := inN_7 236 rfl (by decide +kernel)
set_option maxRecDepth 20000 in
theorem nw_1723 : Jvm.Cond.castable "java/lang/IllegalStateException" "java/lang/Object" ∈ Ntl := inN_7 237 rfl (by decide +kernel)
set_option maxRecDepth 20000 in
theorem nw_1724 : Jvm.Cond.castable "Twelvehundred$Street" "java/lang/Object" ∈ Ntl := inN_7 238 rfl (by decide +kernel)
set_option maxRecDepth 20000 in
theorem nw_1725 : Jvm.Cond.castable "java/lang/IndexOutOfBoundsException" "java/lang/Object" ∈ Ntl := inN_7 239 rfl (by decide +kernel)
set_option maxRecDepth 20000 in
theorem nw_1726 : Jvm.Cond.castable "Twelvehundred$Household" "java/lang/Object" ∈ Ntl := inN_8 0 rfl (by decide +kernel)
set_option maxRecDepth 20000 in
theorem nw_1727 : Jvm.Cond.castable "TwelvehundredModel$Household" "java/lang/Object" ∈ Ntl := inN_8 1 rfl (by decide +kernel)
set_option maxRecDepth 20000 in
theorem nw_1729 : Jvm.Cond.castable "Twelvehundred$Lot" "java/lang/Object" ∈ Ntl := inN_8 3 rfl (by decide +kernel)
set_option maxRecDepth 20000 in
theorem nw_1730 : Jvm.Cond.castable "Twelvehundred$Listed" "java/lang/Object" ∈ Ntl := inN_8 4 rfl (by decide +kernel)
set_option maxRecDepth 20000 in
theorem nw_1733 : Jvm.Cond.castable "java/lang/Throwable" "java/lang/Object" ∈ Ntl := inN_8 7 rfl (by decide +kernel)
set_option maxRecDepth 20000 in
theorem nw_1736 : Jvm.Cond.declares (⟨"java/lang/Object", "getClass", "()Ljava/lang/Class;"⟩ : MethodName) ∈ Ntl := inN_8 10 rfl (by decide +kernel)
set_option maxRecDepth 20000 in
theorem nw_1738 : Jvm.Cond.castable "[I" "java/lang/Object" ∈ Ntl := inN_8 12 rfl (by decide +kernel)
