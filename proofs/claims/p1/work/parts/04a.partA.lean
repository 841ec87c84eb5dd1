-- ===== PART A: goes FIRST, ahead of the names: the tables' words, and 'selects' of the private methods out of them =====
/-- a private method of a class that the tables say can be made, by its rows of tables_1 -/
def lw_okq (q : MethodName × Nat) : Prop := (q.1.cls ≠ "java/lang/invoke/MethodHandle" ∧ q.1.cls ≠ "java/lang/invoke/VarHandle") ∧ Cond.instantiable q.1.cls q.2 ∈ tables_1 ∧ Cond.privateMethod q.1 ∈ tables_1 ∧ Cond.instanceMethod q.1 ∈ tables_1
theorem lw_m1 (k : Nat) {w : Jvm.Cond} (h : (tables_1_1 : List Jvm.Cond)[k]? = some w) : w ∈ tables_1 := List.mem_append_left _ (List.mem_of_getElem? h)
theorem lw_m2 (k : Nat) {w : Jvm.Cond} (h : (tables_1_2 : List Jvm.Cond)[k]? = some w) : w ∈ tables_1 := List.mem_append_right _ (List.mem_append_left _ (List.mem_of_getElem? h))
theorem lw_m3 (k : Nat) {w : Jvm.Cond} (h : (tables_1_3 : List Jvm.Cond)[k]? = some w) : w ∈ tables_1 := List.mem_append_right _ (List.mem_append_right _ (List.mem_append_left _ (List.mem_of_getElem? h)))
theorem lw_m4 (k : Nat) {w : Jvm.Cond} (h : (tables_1_4 : List Jvm.Cond)[k]? = some w) : w ∈ tables_1 := List.mem_append_right _ (List.mem_append_right _ (List.mem_append_right _ (List.mem_append_left _ (List.mem_of_getElem? h))))
theorem lw_m5 (k : Nat) {w : Jvm.Cond} (h : (tables_1_5 : List Jvm.Cond)[k]? = some w) : w ∈ tables_1 := List.mem_append_right _ (List.mem_append_right _ (List.mem_append_right _ (List.mem_append_right _ (List.mem_append_left _ (List.mem_of_getElem? h)))))
theorem lw_m6 (k : Nat) {w : Jvm.Cond} (h : (tables_1_6 : List Jvm.Cond)[k]? = some w) : w ∈ tables_1 := List.mem_append_right _ (List.mem_append_right _ (List.mem_append_right _ (List.mem_append_right _ (List.mem_append_right _ (List.mem_append_left _ (List.mem_of_getElem? h))))))
theorem lw_m7 (k : Nat) {w : Jvm.Cond} (h : (tables_1_7 : List Jvm.Cond)[k]? = some w) : w ∈ tables_1 := List.mem_append_right _ (List.mem_append_right _ (List.mem_append_right _ (List.mem_append_right _ (List.mem_append_right _ (List.mem_append_right _ (List.mem_append_left _ (List.mem_of_getElem? h)))))))
theorem lw_m8 (k : Nat) {w : Jvm.Cond} (h : (tables_1_8 : List Jvm.Cond)[k]? = some w) : w ∈ tables_1 := List.mem_append_right _ (List.mem_append_right _ (List.mem_append_right _ (List.mem_append_right _ (List.mem_append_right _ (List.mem_append_right _ (List.mem_append_right _ (List.mem_of_getElem? h)))))))
theorem lw_o0 : "Twelvehundred" ≠ "java/lang/invoke/MethodHandle" ∧ "Twelvehundred" ≠ "java/lang/invoke/VarHandle" := ⟨by decide +kernel, by decide +kernel⟩
theorem lw_o1 : "java/lang/Throwable" ≠ "java/lang/invoke/MethodHandle" ∧ "java/lang/Throwable" ≠ "java/lang/invoke/VarHandle" := ⟨by decide +kernel, by decide +kernel⟩
theorem lw_o2 : "Twelvehundred$Rescue" ≠ "java/lang/invoke/MethodHandle" ∧ "Twelvehundred$Rescue" ≠ "java/lang/invoke/VarHandle" := ⟨by decide +kernel, by decide +kernel⟩
theorem lw_o3 : "Twelvehundred$Placing" ≠ "java/lang/invoke/MethodHandle" ∧ "Twelvehundred$Placing" ≠ "java/lang/invoke/VarHandle" := ⟨by decide +kernel, by decide +kernel⟩
theorem lw_o4 : "Twelvehundred$Bulletin" ≠ "java/lang/invoke/MethodHandle" ∧ "Twelvehundred$Bulletin" ≠ "java/lang/invoke/VarHandle" := ⟨by decide +kernel, by decide +kernel⟩
theorem lw_o5 : "java/util/ArrayList" ≠ "java/lang/invoke/MethodHandle" ∧ "java/util/ArrayList" ≠ "java/lang/invoke/VarHandle" := ⟨by decide +kernel, by decide +kernel⟩
theorem lw_o6 : "Twelvehundred$Asking" ≠ "java/lang/invoke/MethodHandle" ∧ "Twelvehundred$Asking" ≠ "java/lang/invoke/VarHandle" := ⟨by decide +kernel, by decide +kernel⟩
theorem lw_o7 : "Twelvehundred$Larder" ≠ "java/lang/invoke/MethodHandle" ∧ "Twelvehundred$Larder" ≠ "java/lang/invoke/VarHandle" := ⟨by decide +kernel, by decide +kernel⟩
theorem lw_o8 : "TwelvehundredModel" ≠ "java/lang/invoke/MethodHandle" ∧ "TwelvehundredModel" ≠ "java/lang/invoke/VarHandle" := ⟨by decide +kernel, by decide +kernel⟩
set_option maxRecDepth 20000 in
theorem lw_p0 : lw_okq (⟨"Twelvehundred", "signOf", "(LTwelvehundred$Household;)C"⟩, 10) := ⟨lw_o0, (lw_m1 41 rfl), (lw_m2 52 rfl), (lw_m2 53 rfl)⟩
set_option maxRecDepth 20000 in
theorem lw_p1 : lw_okq (⟨"java/lang/Throwable", "fillInStackTrace", "(I)Ljava/lang/Throwable;"⟩, 6) := ⟨lw_o1, (lw_m2 227 rfl), (lw_m2 225 rfl), (lw_m2 226 rfl)⟩
set_option maxRecDepth 20000 in
theorem lw_p2 : lw_okq (⟨"Twelvehundred$Rescue", "canReachAsLateAs", "(LTwelvehundred$Household;I)Z"⟩, 4) := ⟨lw_o2, (lw_m1 115 rfl), (lw_m3 133 rfl), (lw_m3 134 rfl)⟩
set_option maxRecDepth 20000 in
theorem lw_p3 : lw_okq (⟨"Twelvehundred$Placing", "hasEnvyUpTo", "(I)Z"⟩, 3) := ⟨lw_o3, (lw_m1 97 rfl), (lw_m3 189 rfl), (lw_m3 190 rfl)⟩
set_option maxRecDepth 20000 in
theorem lw_p4 : lw_okq (⟨"Twelvehundred$Placing", "couldOust", "(LTwelvehundred$Household;LTwelvehundred$Household;)Z"⟩, 3) := ⟨lw_o3, (lw_m1 97 rfl), (lw_m3 193 rfl), (lw_m3 194 rfl)⟩
set_option maxRecDepth 20000 in
theorem lw_p5 : lw_okq (⟨"Twelvehundred$Placing", "wantsEmptyRoom", "(LTwelvehundred$Household;)Z"⟩, 3) := ⟨lw_o3, (lw_m1 97 rfl), (lw_m3 209 rfl), (lw_m3 210 rfl)⟩
set_option maxRecDepth 20000 in
theorem lw_p6 : lw_okq (⟨"Twelvehundred$Placing", "isBetterForAny", "(LTwelvehundred$Placing;)Z"⟩, 3) := ⟨lw_o3, (lw_m1 97 rfl), (lw_m3 225 rfl), (lw_m3 226 rfl)⟩
set_option maxRecDepth 20000 in
theorem lw_p7 : lw_okq (⟨"Twelvehundred$Bulletin", "join", "(II)V"⟩, 2) := ⟨lw_o4, (lw_m1 185 rfl), (lw_m4 17 rfl), (lw_m4 18 rfl)⟩
set_option maxRecDepth 20000 in
theorem lw_p8 : lw_okq (⟨"java/util/ArrayList", "add", "(Ljava/lang/Object;[Ljava/lang/Object;I)V"⟩, 3) := ⟨lw_o5, (lw_m1 68 rfl), (lw_m4 166 rfl), (lw_m4 167 rfl)⟩
set_option maxRecDepth 20000 in
theorem lw_p9 : lw_okq (⟨"java/util/ArrayList", "grow", "()[Ljava/lang/Object;"⟩, 3) := ⟨lw_o5, (lw_m1 68 rfl), (lw_m4 170 rfl), (lw_m4 171 rfl)⟩
set_option maxRecDepth 20000 in
theorem lw_p10 : lw_okq (⟨"java/util/ArrayList", "grow", "(I)[Ljava/lang/Object;"⟩, 3) := ⟨lw_o5, (lw_m1 68 rfl), (lw_m4 174 rfl), (lw_m4 175 rfl)⟩
set_option maxRecDepth 20000 in
theorem lw_p11 : lw_okq (⟨"Twelvehundred$Asking", "askNext", "()V"⟩, 5) := ⟨lw_o6, (lw_m1 136 rfl), (lw_m5 13 rfl), (lw_m5 14 rfl)⟩
set_option maxRecDepth 20000 in
theorem lw_p12 : lw_okq (⟨"Twelvehundred$Asking", "favouriteNotAsked", "(LTwelvehundred$Household;)LTwelvehundred$Hall;"⟩, 5) := ⟨lw_o6, (lw_m1 136 rfl), (lw_m5 21 rfl), (lw_m5 22 rfl)⟩
set_option maxRecDepth 20000 in
theorem lw_p13 : lw_okq (⟨"Twelvehundred$Asking", "hasAsked", "(LTwelvehundred$Household;LTwelvehundred$Hall;)Z"⟩, 5) := ⟨lw_o6, (lw_m1 136 rfl), (lw_m5 26 rfl), (lw_m5 27 rfl)⟩
set_option maxRecDepth 20000 in
theorem lw_p14 : lw_okq (⟨"Twelvehundred$Asking", "ask", "(LTwelvehundred$Household;LTwelvehundred$Hall;)V"⟩, 5) := ⟨lw_o6, (lw_m1 136 rfl), (lw_m5 32 rfl), (lw_m5 33 rfl)⟩
set_option maxRecDepth 20000 in
theorem lw_p15 : lw_okq (⟨"Twelvehundred$Larder", "nextToSpoil", "()LTwelvehundred$Lot;"⟩, 4) := ⟨lw_o7, (lw_m1 160 rfl), (lw_m5 181 rfl), (lw_m5 182 rfl)⟩
def lw_privs_1 : List (MethodName × Nat) := [(⟨"Twelvehundred", "signOf", "(LTwelvehundred$Household;)C"⟩, 10), (⟨"java/lang/Throwable", "fillInStackTrace", "(I)Ljava/lang/Throwable;"⟩, 6), (⟨"Twelvehundred$Rescue", "canReachAsLateAs", "(LTwelvehundred$Household;I)Z"⟩, 4), (⟨"Twelvehundred$Placing", "hasEnvyUpTo", "(I)Z"⟩, 3), (⟨"Twelvehundred$Placing", "couldOust", "(LTwelvehundred$Household;LTwelvehundred$Household;)Z"⟩, 3), (⟨"Twelvehundred$Placing", "wantsEmptyRoom", "(LTwelvehundred$Household;)Z"⟩, 3), (⟨"Twelvehundred$Placing", "isBetterForAny", "(LTwelvehundred$Placing;)Z"⟩, 3), (⟨"Twelvehundred$Bulletin", "join", "(II)V"⟩, 2), (⟨"java/util/ArrayList", "add", "(Ljava/lang/Object;[Ljava/lang/Object;I)V"⟩, 3), (⟨"java/util/ArrayList", "grow", "()[Ljava/lang/Object;"⟩, 3), (⟨"java/util/ArrayList", "grow", "(I)[Ljava/lang/Object;"⟩, 3), (⟨"Twelvehundred$Asking", "askNext", "()V"⟩, 5), (⟨"Twelvehundred$Asking", "favouriteNotAsked", "(LTwelvehundred$Household;)LTwelvehundred$Hall;"⟩, 5), (⟨"Twelvehundred$Asking", "hasAsked", "(LTwelvehundred$Household;LTwelvehundred$Hall;)Z"⟩, 5), (⟨"Twelvehundred$Asking", "ask", "(LTwelvehundred$Household;LTwelvehundred$Hall;)V"⟩, 5), (⟨"Twelvehundred$Larder", "nextToSpoil", "()LTwelvehundred$Lot;"⟩, 4)]
theorem lw_r1 : ∀ q ∈ lw_privs_1, lw_okq q := List.forall_mem_cons.mpr ⟨lw_p0, List.forall_mem_cons.mpr ⟨lw_p1, List.forall_mem_cons.mpr ⟨lw_p2, List.forall_mem_cons.mpr ⟨lw_p3, List.forall_mem_cons.mpr ⟨lw_p4, List.forall_mem_cons.mpr ⟨lw_p5, List.forall_mem_cons.mpr ⟨lw_p6, List.forall_mem_cons.mpr ⟨lw_p7, List.forall_mem_cons.mpr ⟨lw_p8, List.forall_mem_cons.mpr ⟨lw_p9, List.forall_mem_cons.mpr ⟨lw_p10, List.forall_mem_cons.mpr ⟨lw_p11, List.forall_mem_cons.mpr ⟨lw_p12, List.forall_mem_cons.mpr ⟨lw_p13, List.forall_mem_cons.mpr ⟨lw_p14, List.forall_mem_cons.mpr ⟨lw_p15, fun _ h => absurd h List.not_mem_nil⟩⟩⟩⟩⟩⟩⟩⟩⟩⟩⟩⟩⟩⟩⟩⟩
set_option maxRecDepth 20000 in
theorem lw_p16 : lw_okq (⟨"TwelvehundredModel", "refuse", "(I)I"⟩, 18) := ⟨lw_o8, (lw_m6 29 rfl), (lw_m6 103 rfl), (lw_m6 104 rfl)⟩
set_option maxRecDepth 20000 in
theorem lw_p17 : lw_okq (⟨"TwelvehundredModel", "isHall", "(I)Z"⟩, 18) := ⟨lw_o8, (lw_m6 29 rfl), (lw_m6 117 rfl), (lw_m6 118 rfl)⟩
set_option maxRecDepth 20000 in
theorem lw_p18 : lw_okq (⟨"TwelvehundredModel", "isStreet", "(I)Z"⟩, 18) := ⟨lw_o8, (lw_m6 29 rfl), (lw_m6 127 rfl), (lw_m6 128 rfl)⟩
set_option maxRecDepth 20000 in
theorem lw_p19 : lw_okq (⟨"TwelvehundredModel", "isFlooded", "(I)Z"⟩, 18) := ⟨lw_o8, (lw_m6 29 rfl), (lw_m6 150 rfl), (lw_m6 151 rfl)⟩
set_option maxRecDepth 20000 in
theorem lw_p20 : lw_okq (⟨"TwelvehundredModel", "isHousehold", "(I)Z"⟩, 18) := ⟨lw_o8, (lw_m6 29 rfl), (lw_m6 166 rfl), (lw_m6 167 rfl)⟩
set_option maxRecDepth 20000 in
theorem lw_p21 : lw_okq (⟨"TwelvehundredModel", "hourGoes", "()I"⟩, 18) := ⟨lw_o8, (lw_m6 29 rfl), (lw_m6 174 rfl), (lw_m6 175 rfl)⟩
set_option maxRecDepth 20000 in
theorem lw_p22 : lw_okq (⟨"TwelvehundredModel", "persons", "()I"⟩, 18) := ⟨lw_o8, (lw_m6 29 rfl), (lw_m7 26 rfl), (lw_m7 27 rfl)⟩
set_option maxRecDepth 20000 in
theorem lw_p23 : lw_okq (⟨"TwelvehundredModel", "ofStreetNow", "(II)I"⟩, 18) := ⟨lw_o8, (lw_m6 29 rfl), (lw_m7 59 rfl), (lw_m7 60 rfl)⟩
set_option maxRecDepth 20000 in
theorem lw_p24 : lw_okq (⟨"TwelvehundredModel", "limit", "(I)I"⟩, 18) := ⟨lw_o8, (lw_m6 29 rfl), (lw_m7 63 rfl), (lw_m7 64 rfl)⟩
set_option maxRecDepth 20000 in
theorem lw_p25 : lw_okq (⟨"TwelvehundredModel", "homes", "(II)I"⟩, 18) := ⟨lw_o8, (lw_m6 29 rfl), (lw_m7 67 rfl), (lw_m7 68 rfl)⟩
set_option maxRecDepth 20000 in
theorem lw_p26 : lw_okq (⟨"TwelvehundredModel", "ofHouseholdNow", "(II)I"⟩, 18) := ⟨lw_o8, (lw_m6 29 rfl), (lw_m7 75 rfl), (lw_m7 76 rfl)⟩
set_option maxRecDepth 20000 in
theorem lw_p27 : lw_okq (⟨"TwelvehundredModel", "placing", "()[I"⟩, 18) := ⟨lw_o8, (lw_m6 29 rfl), (lw_m7 79 rfl), (lw_m7 80 rfl)⟩
set_option maxRecDepth 20000 in
theorem lw_p28 : lw_okq (⟨"TwelvehundredModel", "fetchedSet", "()I"⟩, 18) := ⟨lw_o8, (lw_m6 29 rfl), (lw_m7 83 rfl), (lw_m7 84 rfl)⟩
set_option maxRecDepth 20000 in
theorem lw_p29 : lw_okq (⟨"TwelvehundredModel", "isBetterLiked", "(II)Z"⟩, 18) := ⟨lw_o8, (lw_m6 29 rfl), (lw_m7 87 rfl), (lw_m7 88 rfl)⟩
set_option maxRecDepth 20000 in
theorem lw_p30 : lw_okq (⟨"TwelvehundredModel", "ratherHas", "(III)Z"⟩, 18) := ⟨lw_o8, (lw_m6 29 rfl), (lw_m7 91 rfl), (lw_m7 92 rfl)⟩
set_option maxRecDepth 20000 in
theorem lw_p31 : lw_okq (⟨"TwelvehundredModel", "miles", "(II)I"⟩, 18) := ⟨lw_o8, (lw_m6 29 rfl), (lw_m7 95 rfl), (lw_m7 96 rfl)⟩
def lw_privs_2 : List (MethodName × Nat) := [(⟨"TwelvehundredModel", "refuse", "(I)I"⟩, 18), (⟨"TwelvehundredModel", "isHall", "(I)Z"⟩, 18), (⟨"TwelvehundredModel", "isStreet", "(I)Z"⟩, 18), (⟨"TwelvehundredModel", "isFlooded", "(I)Z"⟩, 18), (⟨"TwelvehundredModel", "isHousehold", "(I)Z"⟩, 18), (⟨"TwelvehundredModel", "hourGoes", "()I"⟩, 18), (⟨"TwelvehundredModel", "persons", "()I"⟩, 18), (⟨"TwelvehundredModel", "ofStreetNow", "(II)I"⟩, 18), (⟨"TwelvehundredModel", "limit", "(I)I"⟩, 18), (⟨"TwelvehundredModel", "homes", "(II)I"⟩, 18), (⟨"TwelvehundredModel", "ofHouseholdNow", "(II)I"⟩, 18), (⟨"TwelvehundredModel", "placing", "()[I"⟩, 18), (⟨"TwelvehundredModel", "fetchedSet", "()I"⟩, 18), (⟨"TwelvehundredModel", "isBetterLiked", "(II)Z"⟩, 18), (⟨"TwelvehundredModel", "ratherHas", "(III)Z"⟩, 18), (⟨"TwelvehundredModel", "miles", "(II)I"⟩, 18)]
theorem lw_r2 : ∀ q ∈ lw_privs_2, lw_okq q := List.forall_mem_cons.mpr ⟨lw_p16, List.forall_mem_cons.mpr ⟨lw_p17, List.forall_mem_cons.mpr ⟨lw_p18, List.forall_mem_cons.mpr ⟨lw_p19, List.forall_mem_cons.mpr ⟨lw_p20, List.forall_mem_cons.mpr ⟨lw_p21, List.forall_mem_cons.mpr ⟨lw_p22, List.forall_mem_cons.mpr ⟨lw_p23, List.forall_mem_cons.mpr ⟨lw_p24, List.forall_mem_cons.mpr ⟨lw_p25, List.forall_mem_cons.mpr ⟨lw_p26, List.forall_mem_cons.mpr ⟨lw_p27, List.forall_mem_cons.mpr ⟨lw_p28, List.forall_mem_cons.mpr ⟨lw_p29, List.forall_mem_cons.mpr ⟨lw_p30, List.forall_mem_cons.mpr ⟨lw_p31, fun _ h => absurd h List.not_mem_nil⟩⟩⟩⟩⟩⟩⟩⟩⟩⟩⟩⟩⟩⟩⟩⟩
set_option maxRecDepth 20000 in
theorem lw_p32 : lw_okq (⟨"TwelvehundredModel", "chosenSet", "()I"⟩, 18) := ⟨lw_o8, (lw_m6 29 rfl), (lw_m7 99 rfl), (lw_m7 100 rfl)⟩
set_option maxRecDepth 20000 in
theorem lw_p33 : lw_okq (⟨"TwelvehundredModel", "canNow", "(I)Z"⟩, 18) := ⟨lw_o8, (lw_m6 29 rfl), (lw_m7 103 rfl), (lw_m7 104 rfl)⟩
set_option maxRecDepth 20000 in
theorem lw_p34 : lw_okq (⟨"TwelvehundredModel", "ofHallNow", "(II)I"⟩, 18) := ⟨lw_o8, (lw_m6 29 rfl), (lw_m7 111 rfl), (lw_m7 112 rfl)⟩
set_option maxRecDepth 20000 in
theorem lw_p35 : lw_okq (⟨"TwelvehundredModel", "having", "([II)I"⟩, 18) := ⟨lw_o8, (lw_m6 29 rfl), (lw_m7 115 rfl), (lw_m7 116 rfl)⟩
set_option maxRecDepth 20000 in
theorem lw_p36 : lw_okq (⟨"TwelvehundredModel", "peopleOf", "(I)I"⟩, 18) := ⟨lw_o8, (lw_m6 29 rfl), (lw_m7 119 rfl), (lw_m7 120 rfl)⟩
set_option maxRecDepth 20000 in
theorem lw_p37 : lw_okq (⟨"TwelvehundredModel", "countyNow", "(I)I"⟩, 18) := ⟨lw_o8, (lw_m6 29 rfl), (lw_m7 131 rfl), (lw_m7 132 rfl)⟩
set_option maxRecDepth 20000 in
theorem lw_p38 : lw_okq (⟨"TwelvehundredModel", "asked", "([I)I"⟩, 18) := ⟨lw_o8, (lw_m6 29 rfl), (lw_m7 135 rfl), (lw_m7 136 rfl)⟩
set_option maxRecDepth 20000 in
theorem lw_p39 : lw_okq (⟨"TwelvehundredModel", "mealsLeft", "()I"⟩, 18) := ⟨lw_o8, (lw_m6 29 rfl), (lw_m7 139 rfl), (lw_m7 140 rfl)⟩
set_option maxRecDepth 20000 in
theorem lw_p40 : lw_okq (⟨"TwelvehundredModel", "signsNow", "()Ljava/lang/String;"⟩, 18) := ⟨lw_o8, (lw_m6 29 rfl), (lw_m7 147 rfl), (lw_m7 148 rfl)⟩
set_option maxRecDepth 20000 in
theorem lw_p41 : lw_okq (⟨"TwelvehundredModel", "isStableNow", "([I)Z"⟩, 18) := ⟨lw_o8, (lw_m6 29 rfl), (lw_m7 167 rfl), (lw_m7 168 rfl)⟩
set_option maxRecDepth 20000 in
theorem lw_p42 : lw_okq (⟨"TwelvehundredModel", "wouldNow", "(II)I"⟩, 18) := ⟨lw_o8, (lw_m6 29 rfl), (lw_m7 176 rfl), (lw_m7 177 rfl)⟩
set_option maxRecDepth 20000 in
theorem lw_p43 : lw_okq (⟨"TwelvehundredModel", "isSoundNow", "()Z"⟩, 18) := ⟨lw_o8, (lw_m6 29 rfl), (lw_m7 188 rfl), (lw_m7 189 rfl)⟩
set_option maxRecDepth 20000 in
theorem lw_p44 : lw_okq (⟨"TwelvehundredModel", "isBest", "([I[II)Z"⟩, 18) := ⟨lw_o8, (lw_m6 29 rfl), (lw_m7 192 rfl), (lw_m7 193 rfl)⟩
set_option maxRecDepth 20000 in
theorem lw_p45 : lw_okq (⟨"TwelvehundredModel", "add", "(J)V"⟩, 18) := ⟨lw_o8, (lw_m6 29 rfl), (lw_m7 201 rfl), (lw_m7 202 rfl)⟩
def lw_privs_3 : List (MethodName × Nat) := [(⟨"TwelvehundredModel", "chosenSet", "()I"⟩, 18), (⟨"TwelvehundredModel", "canNow", "(I)Z"⟩, 18), (⟨"TwelvehundredModel", "ofHallNow", "(II)I"⟩, 18), (⟨"TwelvehundredModel", "having", "([II)I"⟩, 18), (⟨"TwelvehundredModel", "peopleOf", "(I)I"⟩, 18), (⟨"TwelvehundredModel", "countyNow", "(I)I"⟩, 18), (⟨"TwelvehundredModel", "asked", "([I)I"⟩, 18), (⟨"TwelvehundredModel", "mealsLeft", "()I"⟩, 18), (⟨"TwelvehundredModel", "signsNow", "()Ljava/lang/String;"⟩, 18), (⟨"TwelvehundredModel", "isStableNow", "([I)Z"⟩, 18), (⟨"TwelvehundredModel", "wouldNow", "(II)I"⟩, 18), (⟨"TwelvehundredModel", "isSoundNow", "()Z"⟩, 18), (⟨"TwelvehundredModel", "isBest", "([I[II)Z"⟩, 18), (⟨"TwelvehundredModel", "add", "(J)V"⟩, 18)]
theorem lw_r3 : ∀ q ∈ lw_privs_3, lw_okq q := List.forall_mem_cons.mpr ⟨lw_p32, List.forall_mem_cons.mpr ⟨lw_p33, List.forall_mem_cons.mpr ⟨lw_p34, List.forall_mem_cons.mpr ⟨lw_p35, List.forall_mem_cons.mpr ⟨lw_p36, List.forall_mem_cons.mpr ⟨lw_p37, List.forall_mem_cons.mpr ⟨lw_p38, List.forall_mem_cons.mpr ⟨lw_p39, List.forall_mem_cons.mpr ⟨lw_p40, List.forall_mem_cons.mpr ⟨lw_p41, List.forall_mem_cons.mpr ⟨lw_p42, List.forall_mem_cons.mpr ⟨lw_p43, List.forall_mem_cons.mpr ⟨lw_p44, List.forall_mem_cons.mpr ⟨lw_p45, fun _ h => absurd h List.not_mem_nil⟩⟩⟩⟩⟩⟩⟩⟩⟩⟩⟩⟩⟩⟩
def lw_privs : List (MethodName × Nat) := lw_privs_1 ++ (lw_privs_2 ++ (lw_privs_3))
def lw_tbl : List Cond := k2_sels lw_privs ++ tables_1
theorem lw_privs_ok : ∀ q ∈ lw_privs, lw_okq q := by
  show ∀ q ∈ lw_privs_1 ++ (lw_privs_2 ++ (lw_privs_3)), lw_okq q
  exact List.forall_mem_append.mpr ⟨lw_r1, List.forall_mem_append.mpr ⟨lw_r2, lw_r3⟩⟩
