theorem k_0 : Cond.selects RX9 yX9_faultOfRound yX9_faultOfRound ∈ gtbl := gt_in (List.mem_append_left _ (List.mem_of_getElem? (i := 0) rfl)) rfl
theorem k_1 : Cond.selects RX9 yX9_readPair yX9_readPair ∈ gtbl := gt_in (List.mem_append_left _ (List.mem_of_getElem? (i := 1) rfl)) rfl
theorem k_2 : Cond.selects RX9 yX9_startWithSpare yX9_startWithSpare ∈ gtbl := gt_in (List.mem_append_left _ (List.mem_of_getElem? (i := 2) rfl)) rfl
theorem k_3 : Cond.selects RX9 yX9_countWithin yX9_countWithin ∈ gtbl := gt_in (List.mem_append_left _ (List.mem_of_getElem? (i := 3) rfl)) rfl
theorem k_4 : Cond.selects RX9 yX9_firstLessWithin yX9_firstLessWithin ∈ gtbl := gt_in (List.mem_append_left _ (List.mem_of_getElem? (i := 4) rfl)) rfl
theorem k_5 : Cond.selects RX9 yX9_getsInto yX9_getsInto ∈ gtbl := gt_in (List.mem_append_left _ (List.mem_of_getElem? (i := 5) rfl)) rfl
theorem k_6 : Cond.selects RX9 yX9_isTooFar yX9_isTooFar ∈ gtbl := gt_in (List.mem_append_left _ (List.mem_of_getElem? (i := 6) rfl)) rfl
theorem k_7 : Cond.selects "java/lang/Throwable" ⟨"java/lang/Throwable", "fillInStackTrace", "(I)Ljava/lang/Throwable;"⟩ ⟨"java/lang/Throwable", "fillInStackTrace", "(I)Ljava/lang/Throwable;"⟩ ∈ gtbl := gt_in (List.mem_append_left _ (List.mem_of_getElem? (i := 7) rfl)) rfl
theorem k_8 : Cond.selects RX10 yX10_readPair yX10_readPair ∈ gtbl := gt_in (List.mem_append_left _ (List.mem_of_getElem? (i := 8) rfl)) rfl
theorem k_9 : Cond.selects RX10 yX10_letter yX10_letter ∈ gtbl := gt_in (List.mem_append_left _ (List.mem_of_getElem? (i := 9) rfl)) rfl
theorem k_10 : Cond.selects RX10 yX10_isLetterNext yX10_isLetterNext ∈ gtbl := gt_in (List.mem_append_left _ (List.mem_of_getElem? (i := 10) rfl)) rfl
theorem k_11 : Cond.selects RX10 yX10_next yX10_next ∈ gtbl := gt_in (List.mem_append_left _ (List.mem_of_getElem? (i := 11) rfl)) rfl
theorem k_12 : Cond.selects RX10 yX10_wrong yX10_wrong ∈ gtbl := gt_in (List.mem_append_left _ (List.mem_of_getElem? (i := 12) rfl)) rfl
theorem k_13 : Cond.selects RX10 yX10_takes yX10_takes ∈ gtbl := gt_in (List.mem_append_left _ (List.mem_of_getElem? (i := 13) rfl)) rfl
theorem k_14 : Cond.selects RX10 yX10_isEnd yX10_isEnd ∈ gtbl := gt_in (List.mem_append_left _ (List.mem_of_getElem? (i := 14) rfl)) rfl
theorem k_15 : Cond.selects RX10 yX10_isWholeRound yX10_isWholeRound ∈ gtbl := gt_in (List.mem_append_left _ (List.mem_of_getElem? (i := 15) rfl)) rfl
theorem k_16 : Cond.selects RX10 yX10_begin yX10_begin ∈ gtbl := gt_in (List.mem_append_left _ (List.mem_of_getElem? (i := 16) rfl)) rfl
theorem k_17 : Cond.selects RX10 yX10_isPlayer yX10_isPlayer ∈ gtbl := gt_in (List.mem_append_left _ (List.mem_of_getElem? (i := 17) rfl)) rfl
theorem k_18 : Cond.selects RX10 yX10_beats yX10_beats ∈ gtbl := gt_in (List.mem_append_left _ (List.mem_of_getElem? (i := 18) rfl)) rfl
theorem k_19 : Cond.selects RX10 yX10_all yX10_all ∈ gtbl := gt_in (List.mem_append_left _ (List.mem_of_getElem? (i := 19) rfl)) rfl
theorem k_20 : Cond.selects RX10 yX10_covers yX10_covers ∈ gtbl := gt_in (List.mem_append_left _ (List.mem_of_getElem? (i := 20) rfl)) rfl
theorem k_21 : Cond.selects RX10 yX10_over yX10_over ∈ gtbl := gt_in (List.mem_append_left _ (List.mem_of_getElem? (i := 21) rfl)) rfl
theorem k_22 : Cond.selects RX10 yX10_isSome yX10_isSome ∈ gtbl := gt_in (List.mem_append_left _ (List.mem_of_getElem? (i := 22) rfl)) rfl
theorem k_23 : Cond.selects RX10 yX10_isRound yX10_isRound ∈ gtbl := gt_in (List.mem_append_left _ (List.mem_of_getElem? (i := 23) rfl)) rfl
theorem k_24 : Cond.selects RX10 yX10_remember yX10_remember ∈ gtbl := gt_in (List.mem_append_left _ (List.mem_of_getElem? (i := 24) rfl)) rfl
theorem k_25 : Cond.selects RX10 yX10_turnNow yX10_turnNow ∈ gtbl := gt_in (List.mem_append_left _ (List.mem_of_getElem? (i := 25) rfl)) rfl
theorem k_26 : Cond.selects RX10 yX10_many yX10_many ∈ gtbl := gt_in (List.mem_append_left _ (List.mem_of_getElem? (i := 26) rfl)) rfl
theorem k_27 : Cond.selects RX10 yX10_setOf yX10_setOf ∈ gtbl := gt_in (List.mem_append_left _ (List.mem_of_getElem? (i := 27) rfl)) rfl
theorem k_28 : Cond.selects RX10 yX10_top yX10_top ∈ gtbl := gt_in (List.mem_append_left _ (List.mem_of_getElem? (i := 28) rfl)) rfl
theorem k_29 : Cond.selects RX10 yX10_most yX10_most ∈ gtbl := gt_in (List.mem_append_left _ (List.mem_of_getElem? (i := 29) rfl)) rfl
theorem k_30 : Cond.selects RX10 yX10_winsOf yX10_winsOf ∈ gtbl := gt_in (List.mem_append_left _ (List.mem_of_getElem? (i := 30) rfl)) rfl
theorem k_31 : Cond.selects RX10 yX10_uncovered yX10_uncovered ∈ gtbl := gt_in (List.mem_append_left _ (List.mem_of_getElem? (i := 31) rfl)) rfl
theorem k_32 : Cond.selects RX10 yX10_againUncovered yX10_againUncovered ∈ gtbl := gt_in (List.mem_append_left _ (List.mem_of_getElem? (i := 32) rfl)) rfl
theorem k_33 : Cond.selects RX10 yX10_banks yX10_banks ∈ gtbl := gt_in (List.mem_append_left _ (List.mem_of_getElem? (i := 33) rfl)) rfl
theorem k_34 : Cond.selects RX10 yX10_hasChain yX10_hasChain ∈ gtbl := gt_in (List.mem_append_left _ (List.mem_of_getElem? (i := 34) rfl)) rfl
theorem k_35 : Cond.selects RX10 yX10_slater yX10_slater ∈ gtbl := gt_in (List.mem_append_left _ (List.mem_of_getElem? (i := 35) rfl)) rfl
theorem k_36 : Cond.selects RX10 yX10_layOrders yX10_layOrders ∈ gtbl := gt_in (List.mem_append_left _ (List.mem_of_getElem? (i := 36) rfl)) rfl
theorem k_37 : Cond.selects RX10 yX10_turnedBy yX10_turnedBy ∈ gtbl := gt_in (List.mem_append_left _ (List.mem_of_getElem? (i := 37) rfl)) rfl
theorem k_38 : Cond.selects RX10 yX10_covering yX10_covering ∈ gtbl := gt_in (List.mem_append_left _ (List.mem_of_getElem? (i := 38) rfl)) rfl
theorem k_39 : Cond.selects RX10 yX10_isCovering yX10_isCovering ∈ gtbl := gt_in (List.mem_append_left _ (List.mem_of_getElem? (i := 39) rfl)) rfl
theorem k_40 : Cond.selects RX10 yX10_balanced yX10_balanced ∈ gtbl := gt_in (List.mem_append_left _ (List.mem_of_getElem? (i := 40) rfl)) rfl
theorem k_41 : Cond.selects RX10 yX10_layPairings yX10_layPairings ∈ gtbl := gt_in (List.mem_append_left _ (List.mem_of_getElem? (i := 41) rfl)) rfl
theorem k_42 : Cond.selects RX10 yX10_against yX10_against ∈ gtbl := gt_in (List.mem_append_left _ (List.mem_of_getElem? (i := 42) rfl)) rfl
theorem k_43 : Cond.selects RX10 yX10_weighs yX10_weighs ∈ gtbl := gt_in (List.mem_append_left _ (List.mem_of_getElem? (i := 43) rfl)) rfl
theorem k_44 : Cond.selects RX10 yX10_nobodyGains yX10_nobodyGains ∈ gtbl := gt_in (List.mem_append_left _ (List.mem_of_getElem? (i := 44) rfl)) rfl
theorem k_45 : Cond.selects RX10 yX10_gains yX10_gains ∈ gtbl := gt_in (List.mem_append_left _ (List.mem_of_getElem? (i := 45) rfl)) rfl
theorem k_46 : Cond.selects RX10 yX10_layKeeping yX10_layKeeping ∈ gtbl := gt_in (List.mem_append_left _ (List.mem_of_getElem? (i := 46) rfl)) rfl
theorem k_47 : Cond.selects RX10 yX10_closed yX10_closed ∈ gtbl := gt_in (List.mem_append_left _ (List.mem_of_getElem? (i := 47) rfl)) rfl
theorem k_48 : Cond.selects RX10 yX10_cupOf yX10_cupOf ∈ gtbl := gt_in (List.mem_append_left _ (List.mem_of_getElem? (i := 48) rfl)) rfl
theorem k_49 : Cond.selects RX10 yX10_layCups yX10_layCups ∈ gtbl := gt_in (List.mem_append_left _ (List.mem_of_getElem? (i := 49) rfl)) rfl
theorem k_50 : Cond.selects RX10 yX10_layHalves yX10_layHalves ∈ gtbl := gt_in (List.mem_append_left _ (List.mem_of_getElem? (i := 50) rfl)) rfl
theorem k_51 : Cond.selects RX10 yX10_bestAt yX10_bestAt ∈ gtbl := gt_in (List.mem_append_left _ (List.mem_of_getElem? (i := 51) rfl)) rfl
theorem k_52 : Cond.selects RX10 yX10_isSo yX10_isSo ∈ gtbl := gt_in (List.mem_append_left _ (List.mem_of_getElem? (i := 52) rfl)) rfl
theorem k_53 : Cond.selects RX10 yX10_isKeeping yX10_isKeeping ∈ gtbl := gt_in (List.mem_append_left _ (List.mem_of_getElem? (i := 53) rfl)) rfl
theorem k_54 : Cond.selects RX10 yX10_firstOrder yX10_firstOrder ∈ gtbl := gt_in (List.mem_append_left _ (List.mem_of_getElem? (i := 54) rfl)) rfl
theorem k_55 : Cond.selects RX10 yX10_wins yX10_wins ∈ gtbl := gt_in (List.mem_append_left _ (List.mem_of_getElem? (i := 55) rfl)) rfl
theorem k_56 : Cond.selects RX10 yX10_nextOrder yX10_nextOrder ∈ gtbl := gt_in (List.mem_append_left _ (List.mem_of_getElem? (i := 56) rfl)) rfl
theorem k_57 : Cond.selects RX10 yX10_swap yX10_swap ∈ gtbl := gt_in (List.mem_append_left _ (List.mem_of_getElem? (i := 57) rfl)) rfl
theorem k_58 : Cond.selects RX10 yX10_readLine yX10_readLine ∈ gtbl := gt_in (List.mem_append_left _ (List.mem_of_getElem? (i := 58) rfl)) rfl
theorem k_59 : Cond.selects RX10 yX10_addNumber yX10_addNumber ∈ gtbl := gt_in (List.mem_append_left _ (List.mem_of_getElem? (i := 59) rfl)) rfl
theorem k_60 : Cond.selects RX10 yX10_isDigitNext yX10_isDigitNext ∈ gtbl := gt_in (List.mem_append_left _ (List.mem_of_getElem? (i := 60) rfl)) rfl
theorem k_61 : Cond.selects RX10 yX10_addLetter yX10_addLetter ∈ gtbl := gt_in (List.mem_append_left _ (List.mem_of_getElem? (i := 61) rfl)) rfl
theorem k_62 : Cond.selects RX10 yX10_whyWrong yX10_whyWrong ∈ gtbl := gt_in (List.mem_append_left _ (List.mem_of_getElem? (i := 62) rfl)) rfl
theorem k_63 : Cond.selects RX10 yX10_lettersOf yX10_lettersOf ∈ gtbl := gt_in (List.mem_append_left _ (List.mem_of_getElem? (i := 63) rfl)) rfl
theorem k_64 : Cond.selects RX10 yX10_lineEnd yX10_lineEnd ∈ gtbl := gt_in (List.mem_append_left _ (List.mem_of_getElem? (i := 64) rfl)) rfl
theorem k_65 : Cond.selects RX10 yX10_hasTwice yX10_hasTwice ∈ gtbl := gt_in (List.mem_append_left _ (List.mem_of_getElem? (i := 65) rfl)) rfl
theorem k_66 : Cond.selects RX10 yX10_isOtherWay yX10_isOtherWay ∈ gtbl := gt_in (List.mem_append_left _ (List.mem_of_getElem? (i := 66) rfl)) rfl
theorem k_67 : Cond.selects RX10 yX10_isTopped yX10_isTopped ∈ gtbl := gt_in (List.mem_append_left _ (List.mem_of_getElem? (i := 67) rfl)) rfl
theorem k_68 : Cond.selects RX10 yX10_sumOf yX10_sumOf ∈ gtbl := gt_in (List.mem_append_left _ (List.mem_of_getElem? (i := 68) rfl)) rfl
theorem k_69 : Cond.selects RX10 yX10_isOther yX10_isOther ∈ gtbl := gt_in (List.mem_append_left _ (List.mem_of_getElem? (i := 69) rfl)) rfl
theorem k_70 : Cond.selects RX10 yX10_isOtherOrder yX10_isOtherOrder ∈ gtbl := gt_in (List.mem_append_left _ (List.mem_of_getElem? (i := 70) rfl)) rfl
theorem k_71 : Cond.selects RX10 yX10_isOtherWeights yX10_isOtherWeights ∈ gtbl := gt_in (List.mem_append_left _ (List.mem_of_getElem? (i := 71) rfl)) rfl
theorem k_72 : Cond.selects RX10 yX10_wasSaid yX10_wasSaid ∈ gtbl := gt_in (List.mem_append_left _ (List.mem_of_getElem? (i := 72) rfl)) rfl
theorem k_73 : Cond.selects RX10 yX10_areAlike yX10_areAlike ∈ gtbl := gt_in (List.mem_append_left _ (List.mem_of_getElem? (i := 73) rfl)) rfl
theorem k_74 : Cond.selects RX10 yX10_isIn yX10_isIn ∈ gtbl := gt_in (List.mem_append_left _ (List.mem_of_getElem? (i := 74) rfl)) rfl
theorem k_75 : Cond.selects RX10 yX10_byOne yX10_byOne ∈ gtbl := gt_in (List.mem_append_left _ (List.mem_of_getElem? (i := 75) rfl)) rfl
theorem k_76 : Cond.selects RX10 yX10_areNames yX10_areNames ∈ gtbl := gt_in (List.mem_append_left _ (List.mem_of_getElem? (i := 76) rfl)) rfl
theorem k_77 : Cond.selects RX10 yX10_isAlike yX10_isAlike ∈ gtbl := gt_in (List.mem_append_left _ (List.mem_of_getElem? (i := 77) rfl)) rfl
theorem k_78 : Cond.selects RX10 yX10_cycles yX10_cycles ∈ gtbl := gt_in (List.mem_append_left _ (List.mem_of_getElem? (i := 78) rfl)) rfl
def S_1_0 : List Cond := [Cond.initialized RL, Cond.initialized RX9, Cond.initialized RX7, Cond.initialized RX1, Cond.initialized RX4, Cond.initialized RX3, Cond.initialized RX8, Cond.initialized RX0, Cond.initialized RX6, Cond.initialized RX5, Cond.initialized RX2, Cond.initialized RX10, Cond.initialized RJ9, Cond.initialized RJ6, Cond.initialized "java/lang/Throwable", Cond.initialized "java/lang/Exception", Cond.initialized "java/lang/RuntimeException", Cond.initialized "java/util/NoSuchElementException", Cond.initialized RJ10, Cond.classLink RL 8 RX9, Cond.instantiable RX9 11, Cond.methodLink RL 15 yX9_init, Cond.instanceMethod yX9_init, Cond.code yX9_init cX9_init 1 none, Cond.methodLink RX9 5 ⟨"java/lang/Object", "<init>", "()V"⟩, Cond.instanceMethod ⟨"java/lang/Object", "<init>", "()V"⟩, Cond.code Lib.objectInit ⟨#[0xb1]⟩ 1 none, Cond.classLink RX9 11 RX7, Cond.instantiable RX7 3, (Jvm.Cond.methodLinkNest "DuelRound" (13 : Nat) ({ cls := "DuelRound$Signs", name := "<init>", desc := "()V" } : Jvm.MethodName) "DuelRound")]
def S_1_1 : List Cond := [Cond.instanceMethod yX7_init, Cond.code yX7_init cX7_init 1 none, Cond.methodLink RX7 3 ⟨"java/lang/Object", "<init>", "()V"⟩, Cond.fieldLink RX7 9 "DuelRound$Signs" "signs" "[C", Cond.fieldLink RX7 15 "DuelRound$Signs" "length" "I", Cond.fieldLink RX9 292 "DuelRound$Signs" "length" "I", Cond.fieldLink RX5 41 "DuelRound$Signs" "at" "I", Cond.fieldLink RX7 19 "DuelRound$Signs" "at" "I", Cond.fieldLink RX9 301 "DuelRound$Signs" "at" "I", Cond.laysFinal RX7 "DuelRound$Signs" "signs" "[C", (Jvm.Cond.soleField "DuelRound$Signs" "signs"), Cond.lays RX7 "DuelRound$Signs" "length" "I", (Jvm.Cond.soleField "DuelRound$Signs" "length"), Cond.lays RX7 "DuelRound$Signs" "at" "I", (Jvm.Cond.soleField "DuelRound$Signs" "at"), (Jvm.Cond.superclass "DuelRound$Signs" "java/lang/Object"), Cond.arrayClass .char, Cond.classLink RX9 18 RX1, Cond.instantiable RX1 2, (Jvm.Cond.methodLinkNest "DuelRound" (20 : Nat) ({ cls := "DuelRound$Duels", name := "<init>", desc := "()V" } : Jvm.MethodName) "DuelRound"), Cond.instanceMethod yX1_init, Cond.code yX1_init cX1_init 1 none, Cond.methodLink RX1 3 ⟨"java/lang/Object", "<init>", "()V"⟩, Cond.fieldLink RX1 9 "DuelRound$Duels" "beats" "[I", Cond.fieldLink RX3 35 "DuelRound$Duels" "beats" "[I", Cond.fieldLink RX6 91 "DuelRound$Duels" "beats" "[I", Cond.fieldLink RX9 136 "DuelRound$Duels" "beats" "[I", Cond.fieldLink RX0 53 "DuelRound$Duels" "beats" "[I", Cond.fieldLink RX5 168 "DuelRound$Duels" "beats" "[I", Cond.fieldLink RX2 15 "DuelRound$Duels" "players" "I"]
def S_1_2 : List Cond := [Cond.fieldLink RX1 15 "DuelRound$Duels" "players" "I", Cond.fieldLink RX3 22 "DuelRound$Duels" "players" "I", Cond.fieldLink RX6 72 "DuelRound$Duels" "players" "I", Cond.fieldLink RX0 40 "DuelRound$Duels" "players" "I", Cond.fieldLink RX8 49 "DuelRound$Duels" "players" "I", Cond.fieldLink RX9 106 "DuelRound$Duels" "players" "I", Cond.fieldLink RX5 165 "DuelRound$Duels" "players" "I", Cond.laysFinal RX1 "DuelRound$Duels" "beats" "[I", (Jvm.Cond.soleField "DuelRound$Duels" "beats"), Cond.lays RX1 "DuelRound$Duels" "players" "I", (Jvm.Cond.soleField "DuelRound$Duels" "players"), (Jvm.Cond.superclass "DuelRound$Duels" "java/lang/Object"), Cond.arrayClass .int, Cond.classLink RX9 28 RX4, Cond.instantiable RX4 3, (Jvm.Cond.methodLinkNest "DuelRound" (30 : Nat) ({ cls := "DuelRound$Past", name := "<init>", desc := "()V" } : Jvm.MethodName) "DuelRound"), Cond.instanceMethod yX4_init, Cond.code yX4_init cX4_init 1 none, Cond.methodLink RX4 3 ⟨"java/lang/Object", "<init>", "()V"⟩, Cond.fieldLink RX4 9 "DuelRound$Past" "rounds" "[J", Cond.fieldLink RX4 15 "DuelRound$Past" "kept" "[J", Cond.fieldLink RX9 275 "DuelRound$Past" "kept" "[J", Cond.fieldLink RX4 18 "DuelRound$Past" "size" "I", Cond.fieldLink RX9 266 "DuelRound$Past" "size" "I", Cond.laysFinal RX4 "DuelRound$Past" "rounds" "[J", (Jvm.Cond.soleField "DuelRound$Past" "rounds"), Cond.laysFinal RX4 "DuelRound$Past" "kept" "[J", (Jvm.Cond.soleField "DuelRound$Past" "kept"), Cond.lays RX4 "DuelRound$Past" "size" "I", (Jvm.Cond.soleField "DuelRound$Past" "size")]
def S_1_3 : List Cond := [(Jvm.Cond.superclass "DuelRound$Past" "java/lang/Object"), Cond.arrayClass .long, Cond.classLink RX9 35 RX3, Cond.instantiable RX3 3, Cond.methodLink RX9 37 yX3_init, Cond.instanceMethod yX3_init, Cond.code yX3_init cX3_init 2 none, Cond.methodLink RX3 3 ⟨"java/lang/Object", "<init>", "()V"⟩, Cond.fieldLink RX3 18 "DuelRound$Orders" "duels" "LDuelRound$Duels;", Cond.fieldLink RX3 9 "DuelRound$Orders" "turned" "[I", Cond.fieldLink RX5 176 "DuelRound$Orders" "turned" "[I", Cond.fieldLink RX3 15 "DuelRound$Orders" "ways" "[I", Cond.laysFinal RX3 "DuelRound$Orders" "duels" "LDuelRound$Duels;", (Jvm.Cond.soleField "DuelRound$Orders" "duels"), Cond.laysFinal RX3 "DuelRound$Orders" "turned" "[I", (Jvm.Cond.soleField "DuelRound$Orders" "turned"), Cond.laysFinal RX3 "DuelRound$Orders" "ways" "[I", (Jvm.Cond.soleField "DuelRound$Orders" "ways"), (Jvm.Cond.superclass "DuelRound$Orders" "java/lang/Object"), Cond.classLink RX9 44 RX8, Cond.instantiable RX8 3, Cond.methodLink RX9 46 yX8_init, Cond.instanceMethod yX8_init, Cond.code yX8_init cX8_init 2 none, Cond.methodLink RX8 3 ⟨"java/lang/Object", "<init>", "()V"⟩, Cond.fieldLink RX8 18 "DuelRound$Weights" "duels" "LDuelRound$Duels;", Cond.fieldLink RX8 9 "DuelRound$Weights" "shares" "[I", Cond.fieldLink RX9 207 "DuelRound$Weights" "shares" "[I", Cond.fieldLink RX8 15 "DuelRound$Weights" "pfaffians" "[I", Cond.laysFinal RX8 "DuelRound$Weights" "duels" "LDuelRound$Duels;"]
def S_1_4 : List Cond := [(Jvm.Cond.soleField "DuelRound$Weights" "duels"), Cond.laysFinal RX8 "DuelRound$Weights" "shares" "[I", (Jvm.Cond.soleField "DuelRound$Weights" "shares"), Cond.laysFinal RX8 "DuelRound$Weights" "pfaffians" "[I", (Jvm.Cond.soleField "DuelRound$Weights" "pfaffians"), (Jvm.Cond.superclass "DuelRound$Weights" "java/lang/Object"), Cond.classLink RX9 51 RX0, Cond.instantiable RX0 2, Cond.methodLink RX9 53 yX0_init, Cond.instanceMethod yX0_init, Cond.code yX0_init cX0_init 2 none, Cond.methodLink RX0 3 ⟨"java/lang/Object", "<init>", "()V"⟩, Cond.fieldLink RX0 15 "DuelRound$Cups" "duels" "LDuelRound$Duels;", Cond.fieldLink RX0 9 "DuelRound$Cups" "row" "[I", Cond.laysFinal RX0 "DuelRound$Cups" "duels" "LDuelRound$Duels;", (Jvm.Cond.soleField "DuelRound$Cups" "duels"), Cond.laysFinal RX0 "DuelRound$Cups" "row" "[I", (Jvm.Cond.soleField "DuelRound$Cups" "row"), (Jvm.Cond.superclass "DuelRound$Cups" "java/lang/Object"), Cond.classLink RX9 58 RX6, Cond.instantiable RX6 6, Cond.methodLink RX9 60 yX6_init, Cond.instanceMethod yX6_init, Cond.code yX6_init cX6_init 5 none, Cond.methodLink RX6 3 ⟨"java/lang/Object", "<init>", "()V"⟩, Cond.fieldLink RX6 18 "DuelRound$Sets" "duels" "LDuelRound$Duels;", Cond.fieldLink RX6 22 "DuelRound$Sets" "orders" "LDuelRound$Orders;", Cond.fieldLink RX6 26 "DuelRound$Sets" "weights" "LDuelRound$Weights;", Cond.fieldLink RX6 30 "DuelRound$Sets" "cups" "LDuelRound$Cups;", Cond.fieldLink RX6 9 "DuelRound$Sets" "row" "[I"]
def S_1_5 : List Cond := [Cond.fieldLink RX9 188 "DuelRound$Sets" "row" "[I", Cond.fieldLink RX6 15 "DuelRound$Sets" "needs" "[I", Cond.laysFinal RX6 "DuelRound$Sets" "duels" "LDuelRound$Duels;", (Jvm.Cond.soleField "DuelRound$Sets" "duels"), Cond.laysFinal RX6 "DuelRound$Sets" "orders" "LDuelRound$Orders;", (Jvm.Cond.soleField "DuelRound$Sets" "orders"), Cond.laysFinal RX6 "DuelRound$Sets" "weights" "LDuelRound$Weights;", (Jvm.Cond.soleField "DuelRound$Sets" "weights"), Cond.laysFinal RX6 "DuelRound$Sets" "cups" "LDuelRound$Cups;", (Jvm.Cond.soleField "DuelRound$Sets" "cups"), Cond.laysFinal RX6 "DuelRound$Sets" "row" "[I", (Jvm.Cond.soleField "DuelRound$Sets" "row"), Cond.laysFinal RX6 "DuelRound$Sets" "needs" "[I", (Jvm.Cond.soleField "DuelRound$Sets" "needs"), (Jvm.Cond.superclass "DuelRound$Sets" "java/lang/Object"), Cond.classLink RX9 67 RX5, Cond.instantiable RX5 15, Cond.methodLink RX9 69 yX5_init, Cond.instanceMethod yX5_init, Cond.code yX5_init cX5_init 6 none, Cond.methodLink RX5 3 ⟨"java/lang/Object", "<init>", "()V"⟩, Cond.fieldLink RX5 21 "DuelRound$Proofs" "duels" "LDuelRound$Duels;", Cond.fieldLink RX5 25 "DuelRound$Proofs" "text" "LDuelRound$Signs;", Cond.fieldLink RX5 29 "DuelRound$Proofs" "sets" "LDuelRound$Sets;", Cond.fieldLink RX5 33 "DuelRound$Proofs" "orders" "LDuelRound$Orders;", Cond.fieldLink RX5 37 "DuelRound$Proofs" "weights" "LDuelRound$Weights;", Cond.fieldLink RX5 9 "DuelRound$Proofs" "words" "[I", Cond.fieldLink RX5 15 "DuelRound$Proofs" "starts" "[I", Cond.fieldLink RX5 18 "DuelRound$Proofs" "given" "[I", Cond.fieldLink RX5 47 "DuelRound$Proofs" "wordCount" "I"]
def S_1_6 : List Cond := [Cond.fieldLink RX5 50 "DuelRound$Proofs" "lineCount" "I", Cond.fieldLink RX5 87 "DuelRound$Proofs" "isJudged" "Z", Cond.fieldLink RX9 242 "DuelRound$Proofs" "isJudged" "Z", Cond.fieldLink RX5 91 "DuelRound$Proofs" "firstWrong" "I", Cond.fieldLink RX9 246 "DuelRound$Proofs" "firstWrong" "I", Cond.fieldLink RX5 94 "DuelRound$Proofs" "reason" "I", Cond.fieldLink RX9 249 "DuelRound$Proofs" "reason" "I", Cond.fieldLink RX5 97 "DuelRound$Proofs" "linesJudged" "I", Cond.fieldLink RX9 252 "DuelRound$Proofs" "linesJudged" "I", Cond.fieldLink RX5 100 "DuelRound$Proofs" "provedFirst" "I", Cond.fieldLink RX9 255 "DuelRound$Proofs" "provedFirst" "I", Cond.laysFinal RX5 "DuelRound$Proofs" "duels" "LDuelRound$Duels;", (Jvm.Cond.soleField "DuelRound$Proofs" "duels"), Cond.laysFinal RX5 "DuelRound$Proofs" "text" "LDuelRound$Signs;", (Jvm.Cond.soleField "DuelRound$Proofs" "text"), Cond.laysFinal RX5 "DuelRound$Proofs" "sets" "LDuelRound$Sets;", (Jvm.Cond.soleField "DuelRound$Proofs" "sets"), Cond.laysFinal RX5 "DuelRound$Proofs" "orders" "LDuelRound$Orders;", (Jvm.Cond.soleField "DuelRound$Proofs" "orders"), Cond.laysFinal RX5 "DuelRound$Proofs" "weights" "LDuelRound$Weights;", (Jvm.Cond.soleField "DuelRound$Proofs" "weights"), Cond.laysFinal RX5 "DuelRound$Proofs" "words" "[I", (Jvm.Cond.soleField "DuelRound$Proofs" "words"), Cond.laysFinal RX5 "DuelRound$Proofs" "starts" "[I", (Jvm.Cond.soleField "DuelRound$Proofs" "starts"), Cond.laysFinal RX5 "DuelRound$Proofs" "given" "[I", (Jvm.Cond.soleField "DuelRound$Proofs" "given"), Cond.lays RX5 "DuelRound$Proofs" "wordCount" "I", (Jvm.Cond.soleField "DuelRound$Proofs" "wordCount"), Cond.lays RX5 "DuelRound$Proofs" "lineCount" "I"]
def S_1_7 : List Cond := [(Jvm.Cond.soleField "DuelRound$Proofs" "lineCount"), Cond.lays RX5 "DuelRound$Proofs" "isJudged" "Z", (Jvm.Cond.soleField "DuelRound$Proofs" "isJudged"), Cond.lays RX5 "DuelRound$Proofs" "firstWrong" "I", (Jvm.Cond.soleField "DuelRound$Proofs" "firstWrong"), Cond.lays RX5 "DuelRound$Proofs" "reason" "I", (Jvm.Cond.soleField "DuelRound$Proofs" "reason"), Cond.lays RX5 "DuelRound$Proofs" "linesJudged" "I", (Jvm.Cond.soleField "DuelRound$Proofs" "linesJudged"), Cond.lays RX5 "DuelRound$Proofs" "provedFirst" "I", (Jvm.Cond.soleField "DuelRound$Proofs" "provedFirst"), (Jvm.Cond.superclass "DuelRound$Proofs" "java/lang/Object"), Cond.classLink RX9 76 RX2, Cond.instantiable RX2 1, (Jvm.Cond.methodLinkNest "DuelRound" (78 : Nat) ({ cls := "DuelRound$Names", name := "<init>", desc := "()V" } : Jvm.MethodName) "DuelRound"), Cond.instanceMethod yX2_init, Cond.code yX2_init cX2_init 1 none, Cond.methodLink RX2 3 ⟨"java/lang/Object", "<init>", "()V"⟩, Cond.fieldLink RX2 9 "DuelRound$Names" "named" "[I", Cond.laysFinal RX2 "DuelRound$Names" "named" "[I", (Jvm.Cond.soleField "DuelRound$Names" "named"), (Jvm.Cond.superclass "DuelRound$Names" "java/lang/Object"), Cond.fieldLink RX9 14 "DuelRound" "text" "LDuelRound$Signs;", Cond.fieldLink RX9 21 "DuelRound" "now" "LDuelRound$Duels;", Cond.fieldLink RX9 25 "DuelRound" "spare" "LDuelRound$Duels;", Cond.fieldLink RX9 31 "DuelRound" "past" "LDuelRound$Past;", Cond.fieldLink RX9 40 "DuelRound" "orders" "LDuelRound$Orders;", Cond.fieldLink RX9 47 "DuelRound" "weights" "LDuelRound$Weights;", Cond.fieldLink RX9 54 "DuelRound" "cups" "LDuelRound$Cups;", Cond.fieldLink RX9 63 "DuelRound" "sets" "LDuelRound$Sets;"]
set_option maxRecDepth 100000 in
theorem eq_1 : S_1_0 ++ (S_1_1 ++ (S_1_2 ++ (S_1_3 ++ (S_1_4 ++ (S_1_5 ++ (S_1_6 ++ (S_1_7))))))) = tables_1_1 := rfl
theorem in_S_1_0 : ∀ w ∈ S_1_0, w ∈ lw_tbl := fun w h => List.mem_append_right _ (List.mem_append_left _ (eq_1 ▸ (List.mem_append_left _ h : w ∈ S_1_0 ++ (S_1_1 ++ (S_1_2 ++ (S_1_3 ++ (S_1_4 ++ (S_1_5 ++ (S_1_6 ++ (S_1_7))))))))))
theorem k_79 : Cond.initialized RL ∈ gtbl := gt_in (in_S_1_0 _ (List.mem_of_getElem? (i := 0) rfl)) rfl
theorem k_80 : Cond.initialized RX9 ∈ gtbl := gt_in (in_S_1_0 _ (List.mem_of_getElem? (i := 1) rfl)) rfl
theorem k_81 : Cond.initialized RX7 ∈ gtbl := gt_in (in_S_1_0 _ (List.mem_of_getElem? (i := 2) rfl)) rfl
theorem k_82 : Cond.initialized RX1 ∈ gtbl := gt_in (in_S_1_0 _ (List.mem_of_getElem? (i := 3) rfl)) rfl
theorem k_83 : Cond.initialized RX4 ∈ gtbl := gt_in (in_S_1_0 _ (List.mem_of_getElem? (i := 4) rfl)) rfl
theorem k_84 : Cond.initialized RX3 ∈ gtbl := gt_in (in_S_1_0 _ (List.mem_of_getElem? (i := 5) rfl)) rfl
theorem k_85 : Cond.initialized RX8 ∈ gtbl := gt_in (in_S_1_0 _ (List.mem_of_getElem? (i := 6) rfl)) rfl
theorem k_86 : Cond.initialized RX0 ∈ gtbl := gt_in (in_S_1_0 _ (List.mem_of_getElem? (i := 7) rfl)) rfl
theorem k_87 : Cond.initialized RX6 ∈ gtbl := gt_in (in_S_1_0 _ (List.mem_of_getElem? (i := 8) rfl)) rfl
theorem k_88 : Cond.initialized RX5 ∈ gtbl := gt_in (in_S_1_0 _ (List.mem_of_getElem? (i := 9) rfl)) rfl
theorem k_89 : Cond.initialized RX2 ∈ gtbl := gt_in (in_S_1_0 _ (List.mem_of_getElem? (i := 10) rfl)) rfl
theorem k_90 : Cond.initialized RX10 ∈ gtbl := gt_in (in_S_1_0 _ (List.mem_of_getElem? (i := 11) rfl)) rfl
theorem k_91 : Cond.initialized RJ9 ∈ gtbl := gt_in (in_S_1_0 _ (List.mem_of_getElem? (i := 12) rfl)) rfl
theorem k_92 : Cond.initialized RJ6 ∈ gtbl := gt_in (in_S_1_0 _ (List.mem_of_getElem? (i := 13) rfl)) rfl
theorem k_93 : Cond.initialized "java/lang/Throwable" ∈ gtbl := gt_in (in_S_1_0 _ (List.mem_of_getElem? (i := 14) rfl)) rfl
theorem k_94 : Cond.initialized "java/lang/Exception" ∈ gtbl := gt_in (in_S_1_0 _ (List.mem_of_getElem? (i := 15) rfl)) rfl
theorem k_95 : Cond.initialized "java/lang/RuntimeException" ∈ gtbl := gt_in (in_S_1_0 _ (List.mem_of_getElem? (i := 16) rfl)) rfl
theorem k_96 : Cond.initialized "java/util/NoSuchElementException" ∈ gtbl := gt_in (in_S_1_0 _ (List.mem_of_getElem? (i := 17) rfl)) rfl
theorem k_97 : Cond.initialized RJ10 ∈ gtbl := gt_in (in_S_1_0 _ (List.mem_of_getElem? (i := 18) rfl)) rfl
theorem k_98 : Cond.classLink RL 8 RX9 ∈ gtbl := gt_in (in_S_1_0 _ (List.mem_of_getElem? (i := 19) rfl)) rfl
theorem k_99 : Cond.instantiable RX9 11 ∈ gtbl := gt_in (in_S_1_0 _ (List.mem_of_getElem? (i := 20) rfl)) rfl
theorem k_100 : Cond.methodLink RL 15 yX9_init ∈ gtbl := gt_in (in_S_1_0 _ (List.mem_of_getElem? (i := 21) rfl)) rfl
theorem k_101 : Cond.instanceMethod yX9_init ∈ gtbl := gt_in (in_S_1_0 _ (List.mem_of_getElem? (i := 22) rfl)) rfl
theorem k_102 : Cond.code yX9_init cX9_init 1 none ∈ gtbl := gt_in (in_S_1_0 _ (List.mem_of_getElem? (i := 23) rfl)) rfl
theorem k_103 : Cond.methodLink RX9 5 ⟨"java/lang/Object", "<init>", "()V"⟩ ∈ gtbl := gt_in (in_S_1_0 _ (List.mem_of_getElem? (i := 24) rfl)) rfl
theorem k_104 : Cond.instanceMethod ⟨"java/lang/Object", "<init>", "()V"⟩ ∈ gtbl := gt_in (in_S_1_0 _ (List.mem_of_getElem? (i := 25) rfl)) rfl
theorem k_105 : Cond.code Lib.objectInit ⟨#[0xb1]⟩ 1 none ∈ gtbl := gt_in (in_S_1_0 _ (List.mem_of_getElem? (i := 26) rfl)) rfl
theorem k_106 : Cond.classLink RX9 11 RX7 ∈ gtbl := gt_in (in_S_1_0 _ (List.mem_of_getElem? (i := 27) rfl)) rfl
theorem k_107 : Cond.instantiable RX7 3 ∈ gtbl := gt_in (in_S_1_0 _ (List.mem_of_getElem? (i := 28) rfl)) rfl
theorem in_S_1_1 : ∀ w ∈ S_1_1, w ∈ lw_tbl := fun w h => List.mem_append_right _ (List.mem_append_left _ (eq_1 ▸ (List.mem_append_right _ (List.mem_append_left _ h) : w ∈ S_1_0 ++ (S_1_1 ++ (S_1_2 ++ (S_1_3 ++ (S_1_4 ++ (S_1_5 ++ (S_1_6 ++ (S_1_7))))))))))
theorem k_109 : Cond.instanceMethod yX7_init ∈ gtbl := gt_in (in_S_1_1 _ (List.mem_of_getElem? (i := 0) rfl)) rfl
theorem k_110 : Cond.code yX7_init cX7_init 1 none ∈ gtbl := gt_in (in_S_1_1 _ (List.mem_of_getElem? (i := 1) rfl)) rfl
theorem k_111 : Cond.methodLink RX7 3 ⟨"java/lang/Object", "<init>", "()V"⟩ ∈ gtbl := gt_in (in_S_1_1 _ (List.mem_of_getElem? (i := 2) rfl)) rfl
theorem k_112 : Cond.fieldLink RX7 9 "DuelRound$Signs" "signs" "[C" ∈ gtbl := gt_in (in_S_1_1 _ (List.mem_of_getElem? (i := 3) rfl)) rfl
theorem k_113 : Cond.fieldLink RX7 15 "DuelRound$Signs" "length" "I" ∈ gtbl := gt_in (in_S_1_1 _ (List.mem_of_getElem? (i := 4) rfl)) rfl
theorem k_114 : Cond.fieldLink RX9 292 "DuelRound$Signs" "length" "I" ∈ gtbl := gt_in (in_S_1_1 _ (List.mem_of_getElem? (i := 5) rfl)) rfl
theorem k_115 : Cond.fieldLink RX5 41 "DuelRound$Signs" "at" "I" ∈ gtbl := gt_in (in_S_1_1 _ (List.mem_of_getElem? (i := 6) rfl)) rfl
theorem k_116 : Cond.fieldLink RX7 19 "DuelRound$Signs" "at" "I" ∈ gtbl := gt_in (in_S_1_1 _ (List.mem_of_getElem? (i := 7) rfl)) rfl
theorem k_117 : Cond.fieldLink RX9 301 "DuelRound$Signs" "at" "I" ∈ gtbl := gt_in (in_S_1_1 _ (List.mem_of_getElem? (i := 8) rfl)) rfl
theorem k_118 : Cond.laysFinal RX7 "DuelRound$Signs" "signs" "[C" ∈ gtbl := gt_in (in_S_1_1 _ (List.mem_of_getElem? (i := 9) rfl)) rfl
theorem k_120 : Cond.lays RX7 "DuelRound$Signs" "length" "I" ∈ gtbl := gt_in (in_S_1_1 _ (List.mem_of_getElem? (i := 11) rfl)) rfl
theorem k_122 : Cond.lays RX7 "DuelRound$Signs" "at" "I" ∈ gtbl := gt_in (in_S_1_1 _ (List.mem_of_getElem? (i := 13) rfl)) rfl
theorem k_125 : Cond.arrayClass .char ∈ gtbl := gt_in (in_S_1_1 _ (List.mem_of_getElem? (i := 16) rfl)) rfl
theorem k_126 : Cond.classLink RX9 18 RX1 ∈ gtbl := gt_in (in_S_1_1 _ (List.mem_of_getElem? (i := 17) rfl)) rfl
theorem k_127 : Cond.instantiable RX1 2 ∈ gtbl := gt_in (in_S_1_1 _ (List.mem_of_getElem? (i := 18) rfl)) rfl
theorem k_129 : Cond.instanceMethod yX1_init ∈ gtbl := gt_in (in_S_1_1 _ (List.mem_of_getElem? (i := 20) rfl)) rfl
theorem k_130 : Cond.code yX1_init cX1_init 1 none ∈ gtbl := gt_in (in_S_1_1 _ (List.mem_of_getElem? (i := 21) rfl)) rfl
theorem k_131 : Cond.methodLink RX1 3 ⟨"java/lang/Object", "<init>", "()V"⟩ ∈ gtbl := gt_in (in_S_1_1 _ (List.mem_of_getElem? (i := 22) rfl)) rfl
theorem k_132 : Cond.fieldLink RX1 9 "DuelRound$Duels" "beats" "[I" ∈ gtbl := gt_in (in_S_1_1 _ (List.mem_of_getElem? (i := 23) rfl)) rfl
theorem k_133 : Cond.fieldLink RX3 35 "DuelRound$Duels" "beats" "[I" ∈ gtbl := gt_in (in_S_1_1 _ (List.mem_of_getElem? (i := 24) rfl)) rfl
theorem k_134 : Cond.fieldLink RX6 91 "DuelRound$Duels" "beats" "[I" ∈ gtbl := gt_in (in_S_1_1 _ (List.mem_of_getElem? (i := 25) rfl)) rfl
theorem k_135 : Cond.fieldLink RX9 136 "DuelRound$Duels" "beats" "[I" ∈ gtbl := gt_in (in_S_1_1 _ (List.mem_of_getElem? (i := 26) rfl)) rfl
theorem k_136 : Cond.fieldLink RX0 53 "DuelRound$Duels" "beats" "[I" ∈ gtbl := gt_in (in_S_1_1 _ (List.mem_of_getElem? (i := 27) rfl)) rfl
theorem k_137 : Cond.fieldLink RX5 168 "DuelRound$Duels" "beats" "[I" ∈ gtbl := gt_in (in_S_1_1 _ (List.mem_of_getElem? (i := 28) rfl)) rfl
theorem k_138 : Cond.fieldLink RX2 15 "DuelRound$Duels" "players" "I" ∈ gtbl := gt_in (in_S_1_1 _ (List.mem_of_getElem? (i := 29) rfl)) rfl
theorem in_S_1_2 : ∀ w ∈ S_1_2, w ∈ lw_tbl := fun w h => List.mem_append_right _ (List.mem_append_left _ (eq_1 ▸ (List.mem_append_right _ (List.mem_append_right _ (List.mem_append_left _ h)) : w ∈ S_1_0 ++ (S_1_1 ++ (S_1_2 ++ (S_1_3 ++ (S_1_4 ++ (S_1_5 ++ (S_1_6 ++ (S_1_7))))))))))
theorem k_139 : Cond.fieldLink RX1 15 "DuelRound$Duels" "players" "I" ∈ gtbl := gt_in (in_S_1_2 _ (List.mem_of_getElem? (i := 0) rfl)) rfl
theorem k_140 : Cond.fieldLink RX3 22 "DuelRound$Duels" "players" "I" ∈ gtbl := gt_in (in_S_1_2 _ (List.mem_of_getElem? (i := 1) rfl)) rfl
theorem k_141 : Cond.fieldLink RX6 72 "DuelRound$Duels" "players" "I" ∈ gtbl := gt_in (in_S_1_2 _ (List.mem_of_getElem? (i := 2) rfl)) rfl
theorem k_142 : Cond.fieldLink RX0 40 "DuelRound$Duels" "players" "I" ∈ gtbl := gt_in (in_S_1_2 _ (List.mem_of_getElem? (i := 3) rfl)) rfl
theorem k_143 : Cond.fieldLink RX8 49 "DuelRound$Duels" "players" "I" ∈ gtbl := gt_in (in_S_1_2 _ (List.mem_of_getElem? (i := 4) rfl)) rfl
theorem k_144 : Cond.fieldLink RX9 106 "DuelRound$Duels" "players" "I" ∈ gtbl := gt_in (in_S_1_2 _ (List.mem_of_getElem? (i := 5) rfl)) rfl
theorem k_145 : Cond.fieldLink RX5 165 "DuelRound$Duels" "players" "I" ∈ gtbl := gt_in (in_S_1_2 _ (List.mem_of_getElem? (i := 6) rfl)) rfl
theorem k_146 : Cond.laysFinal RX1 "DuelRound$Duels" "beats" "[I" ∈ gtbl := gt_in (in_S_1_2 _ (List.mem_of_getElem? (i := 7) rfl)) rfl
theorem k_148 : Cond.lays RX1 "DuelRound$Duels" "players" "I" ∈ gtbl := gt_in (in_S_1_2 _ (List.mem_of_getElem? (i := 9) rfl)) rfl
theorem k_151 : Cond.arrayClass .int ∈ gtbl := gt_in (in_S_1_2 _ (List.mem_of_getElem? (i := 12) rfl)) rfl
theorem k_152 : Cond.classLink RX9 28 RX4 ∈ gtbl := gt_in (in_S_1_2 _ (List.mem_of_getElem? (i := 13) rfl)) rfl
theorem k_153 : Cond.instantiable RX4 3 ∈ gtbl := gt_in (in_S_1_2 _ (List.mem_of_getElem? (i := 14) rfl)) rfl
theorem k_155 : Cond.instanceMethod yX4_init ∈ gtbl := gt_in (in_S_1_2 _ (List.mem_of_getElem? (i := 16) rfl)) rfl
theorem k_156 : Cond.code yX4_init cX4_init 1 none ∈ gtbl := gt_in (in_S_1_2 _ (List.mem_of_getElem? (i := 17) rfl)) rfl
theorem k_157 : Cond.methodLink RX4 3 ⟨"java/lang/Object", "<init>", "()V"⟩ ∈ gtbl := gt_in (in_S_1_2 _ (List.mem_of_getElem? (i := 18) rfl)) rfl
theorem k_158 : Cond.fieldLink RX4 9 "DuelRound$Past" "rounds" "[J" ∈ gtbl := gt_in (in_S_1_2 _ (List.mem_of_getElem? (i := 19) rfl)) rfl
theorem k_159 : Cond.fieldLink RX4 15 "DuelRound$Past" "kept" "[J" ∈ gtbl := gt_in (in_S_1_2 _ (List.mem_of_getElem? (i := 20) rfl)) rfl
theorem k_160 : Cond.fieldLink RX9 275 "DuelRound$Past" "kept" "[J" ∈ gtbl := gt_in (in_S_1_2 _ (List.mem_of_getElem? (i := 21) rfl)) rfl
theorem k_161 : Cond.fieldLink RX4 18 "DuelRound$Past" "size" "I" ∈ gtbl := gt_in (in_S_1_2 _ (List.mem_of_getElem? (i := 22) rfl)) rfl
theorem k_162 : Cond.fieldLink RX9 266 "DuelRound$Past" "size" "I" ∈ gtbl := gt_in (in_S_1_2 _ (List.mem_of_getElem? (i := 23) rfl)) rfl
theorem k_163 : Cond.laysFinal RX4 "DuelRound$Past" "rounds" "[J" ∈ gtbl := gt_in (in_S_1_2 _ (List.mem_of_getElem? (i := 24) rfl)) rfl
theorem k_165 : Cond.laysFinal RX4 "DuelRound$Past" "kept" "[J" ∈ gtbl := gt_in (in_S_1_2 _ (List.mem_of_getElem? (i := 26) rfl)) rfl
theorem k_167 : Cond.lays RX4 "DuelRound$Past" "size" "I" ∈ gtbl := gt_in (in_S_1_2 _ (List.mem_of_getElem? (i := 28) rfl)) rfl
theorem in_S_1_3 : ∀ w ∈ S_1_3, w ∈ lw_tbl := fun w h => List.mem_append_right _ (List.mem_append_left _ (eq_1 ▸ (List.mem_append_right _ (List.mem_append_right _ (List.mem_append_right _ (List.mem_append_left _ h))) : w ∈ S_1_0 ++ (S_1_1 ++ (S_1_2 ++ (S_1_3 ++ (S_1_4 ++ (S_1_5 ++ (S_1_6 ++ (S_1_7))))))))))
theorem k_170 : Cond.arrayClass .long ∈ gtbl := gt_in (in_S_1_3 _ (List.mem_of_getElem? (i := 1) rfl)) rfl
theorem k_171 : Cond.classLink RX9 35 RX3 ∈ gtbl := gt_in (in_S_1_3 _ (List.mem_of_getElem? (i := 2) rfl)) rfl
theorem k_172 : Cond.instantiable RX3 3 ∈ gtbl := gt_in (in_S_1_3 _ (List.mem_of_getElem? (i := 3) rfl)) rfl
theorem k_173 : Cond.methodLink RX9 37 yX3_init ∈ gtbl := gt_in (in_S_1_3 _ (List.mem_of_getElem? (i := 4) rfl)) rfl
theorem k_174 : Cond.instanceMethod yX3_init ∈ gtbl := gt_in (in_S_1_3 _ (List.mem_of_getElem? (i := 5) rfl)) rfl
theorem k_175 : Cond.code yX3_init cX3_init 2 none ∈ gtbl := gt_in (in_S_1_3 _ (List.mem_of_getElem? (i := 6) rfl)) rfl
theorem k_176 : Cond.methodLink RX3 3 ⟨"java/lang/Object", "<init>", "()V"⟩ ∈ gtbl := gt_in (in_S_1_3 _ (List.mem_of_getElem? (i := 7) rfl)) rfl
theorem k_177 : Cond.fieldLink RX3 18 "DuelRound$Orders" "duels" "LDuelRound$Duels;" ∈ gtbl := gt_in (in_S_1_3 _ (List.mem_of_getElem? (i := 8) rfl)) rfl
theorem k_178 : Cond.fieldLink RX3 9 "DuelRound$Orders" "turned" "[I" ∈ gtbl := gt_in (in_S_1_3 _ (List.mem_of_getElem? (i := 9) rfl)) rfl
theorem k_179 : Cond.fieldLink RX5 176 "DuelRound$Orders" "turned" "[I" ∈ gtbl := gt_in (in_S_1_3 _ (List.mem_of_getElem? (i := 10) rfl)) rfl
theorem k_180 : Cond.fieldLink RX3 15 "DuelRound$Orders" "ways" "[I" ∈ gtbl := gt_in (in_S_1_3 _ (List.mem_of_getElem? (i := 11) rfl)) rfl
theorem k_181 : Cond.laysFinal RX3 "DuelRound$Orders" "duels" "LDuelRound$Duels;" ∈ gtbl := gt_in (in_S_1_3 _ (List.mem_of_getElem? (i := 12) rfl)) rfl
theorem k_183 : Cond.laysFinal RX3 "DuelRound$Orders" "turned" "[I" ∈ gtbl := gt_in (in_S_1_3 _ (List.mem_of_getElem? (i := 14) rfl)) rfl
theorem k_185 : Cond.laysFinal RX3 "DuelRound$Orders" "ways" "[I" ∈ gtbl := gt_in (in_S_1_3 _ (List.mem_of_getElem? (i := 16) rfl)) rfl
theorem k_188 : Cond.classLink RX9 44 RX8 ∈ gtbl := gt_in (in_S_1_3 _ (List.mem_of_getElem? (i := 19) rfl)) rfl
theorem k_189 : Cond.instantiable RX8 3 ∈ gtbl := gt_in (in_S_1_3 _ (List.mem_of_getElem? (i := 20) rfl)) rfl
theorem k_190 : Cond.methodLink RX9 46 yX8_init ∈ gtbl := gt_in (in_S_1_3 _ (List.mem_of_getElem? (i := 21) rfl)) rfl
theorem k_191 : Cond.instanceMethod yX8_init ∈ gtbl := gt_in (in_S_1_3 _ (List.mem_of_getElem? (i := 22) rfl)) rfl
theorem k_192 : Cond.code yX8_init cX8_init 2 none ∈ gtbl := gt_in (in_S_1_3 _ (List.mem_of_getElem? (i := 23) rfl)) rfl
theorem k_193 : Cond.methodLink RX8 3 ⟨"java/lang/Object", "<init>", "()V"⟩ ∈ gtbl := gt_in (in_S_1_3 _ (List.mem_of_getElem? (i := 24) rfl)) rfl
theorem k_194 : Cond.fieldLink RX8 18 "DuelRound$Weights" "duels" "LDuelRound$Duels;" ∈ gtbl := gt_in (in_S_1_3 _ (List.mem_of_getElem? (i := 25) rfl)) rfl
theorem k_195 : Cond.fieldLink RX8 9 "DuelRound$Weights" "shares" "[I" ∈ gtbl := gt_in (in_S_1_3 _ (List.mem_of_getElem? (i := 26) rfl)) rfl
theorem k_196 : Cond.fieldLink RX9 207 "DuelRound$Weights" "shares" "[I" ∈ gtbl := gt_in (in_S_1_3 _ (List.mem_of_getElem? (i := 27) rfl)) rfl
theorem k_197 : Cond.fieldLink RX8 15 "DuelRound$Weights" "pfaffians" "[I" ∈ gtbl := gt_in (in_S_1_3 _ (List.mem_of_getElem? (i := 28) rfl)) rfl
theorem k_198 : Cond.laysFinal RX8 "DuelRound$Weights" "duels" "LDuelRound$Duels;" ∈ gtbl := gt_in (in_S_1_3 _ (List.mem_of_getElem? (i := 29) rfl)) rfl
theorem in_S_1_4 : ∀ w ∈ S_1_4, w ∈ lw_tbl := fun w h => List.mem_append_right _ (List.mem_append_left _ (eq_1 ▸ (List.mem_append_right _ (List.mem_append_right _ (List.mem_append_right _ (List.mem_append_right _ (List.mem_append_left _ h)))) : w ∈ S_1_0 ++ (S_1_1 ++ (S_1_2 ++ (S_1_3 ++ (S_1_4 ++ (S_1_5 ++ (S_1_6 ++ (S_1_7))))))))))
theorem k_200 : Cond.laysFinal RX8 "DuelRound$Weights" "shares" "[I" ∈ gtbl := gt_in (in_S_1_4 _ (List.mem_of_getElem? (i := 1) rfl)) rfl
theorem k_202 : Cond.laysFinal RX8 "DuelRound$Weights" "pfaffians" "[I" ∈ gtbl := gt_in (in_S_1_4 _ (List.mem_of_getElem? (i := 3) rfl)) rfl
theorem k_205 : Cond.classLink RX9 51 RX0 ∈ gtbl := gt_in (in_S_1_4 _ (List.mem_of_getElem? (i := 6) rfl)) rfl
theorem k_206 : Cond.instantiable RX0 2 ∈ gtbl := gt_in (in_S_1_4 _ (List.mem_of_getElem? (i := 7) rfl)) rfl
theorem k_207 : Cond.methodLink RX9 53 yX0_init ∈ gtbl := gt_in (in_S_1_4 _ (List.mem_of_getElem? (i := 8) rfl)) rfl
theorem k_208 : Cond.instanceMethod yX0_init ∈ gtbl := gt_in (in_S_1_4 _ (List.mem_of_getElem? (i := 9) rfl)) rfl
theorem k_209 : Cond.code yX0_init cX0_init 2 none ∈ gtbl := gt_in (in_S_1_4 _ (List.mem_of_getElem? (i := 10) rfl)) rfl
theorem k_210 : Cond.methodLink RX0 3 ⟨"java/lang/Object", "<init>", "()V"⟩ ∈ gtbl := gt_in (in_S_1_4 _ (List.mem_of_getElem? (i := 11) rfl)) rfl
theorem k_211 : Cond.fieldLink RX0 15 "DuelRound$Cups" "duels" "LDuelRound$Duels;" ∈ gtbl := gt_in (in_S_1_4 _ (List.mem_of_getElem? (i := 12) rfl)) rfl
theorem k_212 : Cond.fieldLink RX0 9 "DuelRound$Cups" "row" "[I" ∈ gtbl := gt_in (in_S_1_4 _ (List.mem_of_getElem? (i := 13) rfl)) rfl
theorem k_213 : Cond.laysFinal RX0 "DuelRound$Cups" "duels" "LDuelRound$Duels;" ∈ gtbl := gt_in (in_S_1_4 _ (List.mem_of_getElem? (i := 14) rfl)) rfl
theorem k_215 : Cond.laysFinal RX0 "DuelRound$Cups" "row" "[I" ∈ gtbl := gt_in (in_S_1_4 _ (List.mem_of_getElem? (i := 16) rfl)) rfl
theorem k_218 : Cond.classLink RX9 58 RX6 ∈ gtbl := gt_in (in_S_1_4 _ (List.mem_of_getElem? (i := 19) rfl)) rfl
theorem k_219 : Cond.instantiable RX6 6 ∈ gtbl := gt_in (in_S_1_4 _ (List.mem_of_getElem? (i := 20) rfl)) rfl
theorem k_220 : Cond.methodLink RX9 60 yX6_init ∈ gtbl := gt_in (in_S_1_4 _ (List.mem_of_getElem? (i := 21) rfl)) rfl
theorem k_221 : Cond.instanceMethod yX6_init ∈ gtbl := gt_in (in_S_1_4 _ (List.mem_of_getElem? (i := 22) rfl)) rfl
theorem k_222 : Cond.code yX6_init cX6_init 5 none ∈ gtbl := gt_in (in_S_1_4 _ (List.mem_of_getElem? (i := 23) rfl)) rfl
theorem k_223 : Cond.methodLink RX6 3 ⟨"java/lang/Object", "<init>", "()V"⟩ ∈ gtbl := gt_in (in_S_1_4 _ (List.mem_of_getElem? (i := 24) rfl)) rfl
theorem k_224 : Cond.fieldLink RX6 18 "DuelRound$Sets" "duels" "LDuelRound$Duels;" ∈ gtbl := gt_in (in_S_1_4 _ (List.mem_of_getElem? (i := 25) rfl)) rfl
theorem k_225 : Cond.fieldLink RX6 22 "DuelRound$Sets" "orders" "LDuelRound$Orders;" ∈ gtbl := gt_in (in_S_1_4 _ (List.mem_of_getElem? (i := 26) rfl)) rfl
theorem k_226 : Cond.fieldLink RX6 26 "DuelRound$Sets" "weights" "LDuelRound$Weights;" ∈ gtbl := gt_in (in_S_1_4 _ (List.mem_of_getElem? (i := 27) rfl)) rfl
theorem k_227 : Cond.fieldLink RX6 30 "DuelRound$Sets" "cups" "LDuelRound$Cups;" ∈ gtbl := gt_in (in_S_1_4 _ (List.mem_of_getElem? (i := 28) rfl)) rfl
theorem k_228 : Cond.fieldLink RX6 9 "DuelRound$Sets" "row" "[I" ∈ gtbl := gt_in (in_S_1_4 _ (List.mem_of_getElem? (i := 29) rfl)) rfl
theorem in_S_1_5 : ∀ w ∈ S_1_5, w ∈ lw_tbl := fun w h => List.mem_append_right _ (List.mem_append_left _ (eq_1 ▸ (List.mem_append_right _ (List.mem_append_right _ (List.mem_append_right _ (List.mem_append_right _ (List.mem_append_right _ (List.mem_append_left _ h))))) : w ∈ S_1_0 ++ (S_1_1 ++ (S_1_2 ++ (S_1_3 ++ (S_1_4 ++ (S_1_5 ++ (S_1_6 ++ (S_1_7))))))))))
theorem k_229 : Cond.fieldLink RX9 188 "DuelRound$Sets" "row" "[I" ∈ gtbl := gt_in (in_S_1_5 _ (List.mem_of_getElem? (i := 0) rfl)) rfl
theorem k_230 : Cond.fieldLink RX6 15 "DuelRound$Sets" "needs" "[I" ∈ gtbl := gt_in (in_S_1_5 _ (List.mem_of_getElem? (i := 1) rfl)) rfl
theorem k_231 : Cond.laysFinal RX6 "DuelRound$Sets" "duels" "LDuelRound$Duels;" ∈ gtbl := gt_in (in_S_1_5 _ (List.mem_of_getElem? (i := 2) rfl)) rfl
theorem k_233 : Cond.laysFinal RX6 "DuelRound$Sets" "orders" "LDuelRound$Orders;" ∈ gtbl := gt_in (in_S_1_5 _ (List.mem_of_getElem? (i := 4) rfl)) rfl
theorem k_235 : Cond.laysFinal RX6 "DuelRound$Sets" "weights" "LDuelRound$Weights;" ∈ gtbl := gt_in (in_S_1_5 _ (List.mem_of_getElem? (i := 6) rfl)) rfl
theorem k_237 : Cond.laysFinal RX6 "DuelRound$Sets" "cups" "LDuelRound$Cups;" ∈ gtbl := gt_in (in_S_1_5 _ (List.mem_of_getElem? (i := 8) rfl)) rfl
theorem k_239 : Cond.laysFinal RX6 "DuelRound$Sets" "row" "[I" ∈ gtbl := gt_in (in_S_1_5 _ (List.mem_of_getElem? (i := 10) rfl)) rfl
theorem k_241 : Cond.laysFinal RX6 "DuelRound$Sets" "needs" "[I" ∈ gtbl := gt_in (in_S_1_5 _ (List.mem_of_getElem? (i := 12) rfl)) rfl
theorem k_244 : Cond.classLink RX9 67 RX5 ∈ gtbl := gt_in (in_S_1_5 _ (List.mem_of_getElem? (i := 15) rfl)) rfl
theorem k_245 : Cond.instantiable RX5 15 ∈ gtbl := gt_in (in_S_1_5 _ (List.mem_of_getElem? (i := 16) rfl)) rfl
theorem k_246 : Cond.methodLink RX9 69 yX5_init ∈ gtbl := gt_in (in_S_1_5 _ (List.mem_of_getElem? (i := 17) rfl)) rfl
theorem k_247 : Cond.instanceMethod yX5_init ∈ gtbl := gt_in (in_S_1_5 _ (List.mem_of_getElem? (i := 18) rfl)) rfl
theorem k_248 : Cond.code yX5_init cX5_init 6 none ∈ gtbl := gt_in (in_S_1_5 _ (List.mem_of_getElem? (i := 19) rfl)) rfl
theorem k_249 : Cond.methodLink RX5 3 ⟨"java/lang/Object", "<init>", "()V"⟩ ∈ gtbl := gt_in (in_S_1_5 _ (List.mem_of_getElem? (i := 20) rfl)) rfl
theorem k_250 : Cond.fieldLink RX5 21 "DuelRound$Proofs" "duels" "LDuelRound$Duels;" ∈ gtbl := gt_in (in_S_1_5 _ (List.mem_of_getElem? (i := 21) rfl)) rfl
theorem k_251 : Cond.fieldLink RX5 25 "DuelRound$Proofs" "text" "LDuelRound$Signs;" ∈ gtbl := gt_in (in_S_1_5 _ (List.mem_of_getElem? (i := 22) rfl)) rfl
theorem k_252 : Cond.fieldLink RX5 29 "DuelRound$Proofs" "sets" "LDuelRound$Sets;" ∈ gtbl := gt_in (in_S_1_5 _ (List.mem_of_getElem? (i := 23) rfl)) rfl
theorem k_253 : Cond.fieldLink RX5 33 "DuelRound$Proofs" "orders" "LDuelRound$Orders;" ∈ gtbl := gt_in (in_S_1_5 _ (List.mem_of_getElem? (i := 24) rfl)) rfl
theorem k_254 : Cond.fieldLink RX5 37 "DuelRound$Proofs" "weights" "LDuelRound$Weights;" ∈ gtbl := gt_in (in_S_1_5 _ (List.mem_of_getElem? (i := 25) rfl)) rfl
theorem k_255 : Cond.fieldLink RX5 9 "DuelRound$Proofs" "words" "[I" ∈ gtbl := gt_in (in_S_1_5 _ (List.mem_of_getElem? (i := 26) rfl)) rfl
theorem k_256 : Cond.fieldLink RX5 15 "DuelRound$Proofs" "starts" "[I" ∈ gtbl := gt_in (in_S_1_5 _ (List.mem_of_getElem? (i := 27) rfl)) rfl
theorem k_257 : Cond.fieldLink RX5 18 "DuelRound$Proofs" "given" "[I" ∈ gtbl := gt_in (in_S_1_5 _ (List.mem_of_getElem? (i := 28) rfl)) rfl
theorem k_258 : Cond.fieldLink RX5 47 "DuelRound$Proofs" "wordCount" "I" ∈ gtbl := gt_in (in_S_1_5 _ (List.mem_of_getElem? (i := 29) rfl)) rfl
theorem in_S_1_6 : ∀ w ∈ S_1_6, w ∈ lw_tbl := fun w h => List.mem_append_right _ (List.mem_append_left _ (eq_1 ▸ (List.mem_append_right _ (List.mem_append_right _ (List.mem_append_right _ (List.mem_append_right _ (List.mem_append_right _ (List.mem_append_right _ (List.mem_append_left _ h)))))) : w ∈ S_1_0 ++ (S_1_1 ++ (S_1_2 ++ (S_1_3 ++ (S_1_4 ++ (S_1_5 ++ (S_1_6 ++ (S_1_7))))))))))
theorem k_259 : Cond.fieldLink RX5 50 "DuelRound$Proofs" "lineCount" "I" ∈ gtbl := gt_in (in_S_1_6 _ (List.mem_of_getElem? (i := 0) rfl)) rfl
theorem k_260 : Cond.fieldLink RX5 87 "DuelRound$Proofs" "isJudged" "Z" ∈ gtbl := gt_in (in_S_1_6 _ (List.mem_of_getElem? (i := 1) rfl)) rfl
theorem k_261 : Cond.fieldLink RX9 242 "DuelRound$Proofs" "isJudged" "Z" ∈ gtbl := gt_in (in_S_1_6 _ (List.mem_of_getElem? (i := 2) rfl)) rfl
theorem k_262 : Cond.fieldLink RX5 91 "DuelRound$Proofs" "firstWrong" "I" ∈ gtbl := gt_in (in_S_1_6 _ (List.mem_of_getElem? (i := 3) rfl)) rfl
theorem k_263 : Cond.fieldLink RX9 246 "DuelRound$Proofs" "firstWrong" "I" ∈ gtbl := gt_in (in_S_1_6 _ (List.mem_of_getElem? (i := 4) rfl)) rfl
theorem k_264 : Cond.fieldLink RX5 94 "DuelRound$Proofs" "reason" "I" ∈ gtbl := gt_in (in_S_1_6 _ (List.mem_of_getElem? (i := 5) rfl)) rfl
theorem k_265 : Cond.fieldLink RX9 249 "DuelRound$Proofs" "reason" "I" ∈ gtbl := gt_in (in_S_1_6 _ (List.mem_of_getElem? (i := 6) rfl)) rfl
theorem k_266 : Cond.fieldLink RX5 97 "DuelRound$Proofs" "linesJudged" "I" ∈ gtbl := gt_in (in_S_1_6 _ (List.mem_of_getElem? (i := 7) rfl)) rfl
theorem k_267 : Cond.fieldLink RX9 252 "DuelRound$Proofs" "linesJudged" "I" ∈ gtbl := gt_in (in_S_1_6 _ (List.mem_of_getElem? (i := 8) rfl)) rfl
theorem k_268 : Cond.fieldLink RX5 100 "DuelRound$Proofs" "provedFirst" "I" ∈ gtbl := gt_in (in_S_1_6 _ (List.mem_of_getElem? (i := 9) rfl)) rfl
theorem k_269 : Cond.fieldLink RX9 255 "DuelRound$Proofs" "provedFirst" "I" ∈ gtbl := gt_in (in_S_1_6 _ (List.mem_of_getElem? (i := 10) rfl)) rfl
theorem k_270 : Cond.laysFinal RX5 "DuelRound$Proofs" "duels" "LDuelRound$Duels;" ∈ gtbl := gt_in (in_S_1_6 _ (List.mem_of_getElem? (i := 11) rfl)) rfl
theorem k_272 : Cond.laysFinal RX5 "DuelRound$Proofs" "text" "LDuelRound$Signs;" ∈ gtbl := gt_in (in_S_1_6 _ (List.mem_of_getElem? (i := 13) rfl)) rfl
theorem k_274 : Cond.laysFinal RX5 "DuelRound$Proofs" "sets" "LDuelRound$Sets;" ∈ gtbl := gt_in (in_S_1_6 _ (List.mem_of_getElem? (i := 15) rfl)) rfl
theorem k_276 : Cond.laysFinal RX5 "DuelRound$Proofs" "orders" "LDuelRound$Orders;" ∈ gtbl := gt_in (in_S_1_6 _ (List.mem_of_getElem? (i := 17) rfl)) rfl
theorem k_278 : Cond.laysFinal RX5 "DuelRound$Proofs" "weights" "LDuelRound$Weights;" ∈ gtbl := gt_in (in_S_1_6 _ (List.mem_of_getElem? (i := 19) rfl)) rfl
theorem k_280 : Cond.laysFinal RX5 "DuelRound$Proofs" "words" "[I" ∈ gtbl := gt_in (in_S_1_6 _ (List.mem_of_getElem? (i := 21) rfl)) rfl
theorem k_282 : Cond.laysFinal RX5 "DuelRound$Proofs" "starts" "[I" ∈ gtbl := gt_in (in_S_1_6 _ (List.mem_of_getElem? (i := 23) rfl)) rfl
theorem k_284 : Cond.laysFinal RX5 "DuelRound$Proofs" "given" "[I" ∈ gtbl := gt_in (in_S_1_6 _ (List.mem_of_getElem? (i := 25) rfl)) rfl
theorem k_286 : Cond.lays RX5 "DuelRound$Proofs" "wordCount" "I" ∈ gtbl := gt_in (in_S_1_6 _ (List.mem_of_getElem? (i := 27) rfl)) rfl
theorem k_288 : Cond.lays RX5 "DuelRound$Proofs" "lineCount" "I" ∈ gtbl := gt_in (in_S_1_6 _ (List.mem_of_getElem? (i := 29) rfl)) rfl
theorem in_S_1_7 : ∀ w ∈ S_1_7, w ∈ lw_tbl := fun w h => List.mem_append_right _ (List.mem_append_left _ (eq_1 ▸ (List.mem_append_right _ (List.mem_append_right _ (List.mem_append_right _ (List.mem_append_right _ (List.mem_append_right _ (List.mem_append_right _ (List.mem_append_right _ (h))))))) : w ∈ S_1_0 ++ (S_1_1 ++ (S_1_2 ++ (S_1_3 ++ (S_1_4 ++ (S_1_5 ++ (S_1_6 ++ (S_1_7))))))))))
theorem k_290 : Cond.lays RX5 "DuelRound$Proofs" "isJudged" "Z" ∈ gtbl := gt_in (in_S_1_7 _ (List.mem_of_getElem? (i := 1) rfl)) rfl
theorem k_292 : Cond.lays RX5 "DuelRound$Proofs" "firstWrong" "I" ∈ gtbl := gt_in (in_S_1_7 _ (List.mem_of_getElem? (i := 3) rfl)) rfl
theorem k_294 : Cond.lays RX5 "DuelRound$Proofs" "reason" "I" ∈ gtbl := gt_in (in_S_1_7 _ (List.mem_of_getElem? (i := 5) rfl)) rfl
theorem k_296 : Cond.lays RX5 "DuelRound$Proofs" "linesJudged" "I" ∈ gtbl := gt_in (in_S_1_7 _ (List.mem_of_getElem? (i := 7) rfl)) rfl
theorem k_298 : Cond.lays RX5 "DuelRound$Proofs" "provedFirst" "I" ∈ gtbl := gt_in (in_S_1_7 _ (List.mem_of_getElem? (i := 9) rfl)) rfl
theorem k_301 : Cond.classLink RX9 76 RX2 ∈ gtbl := gt_in (in_S_1_7 _ (List.mem_of_getElem? (i := 12) rfl)) rfl
theorem k_302 : Cond.instantiable RX2 1 ∈ gtbl := gt_in (in_S_1_7 _ (List.mem_of_getElem? (i := 13) rfl)) rfl
theorem k_304 : Cond.instanceMethod yX2_init ∈ gtbl := gt_in (in_S_1_7 _ (List.mem_of_getElem? (i := 15) rfl)) rfl
theorem k_305 : Cond.code yX2_init cX2_init 1 none ∈ gtbl := gt_in (in_S_1_7 _ (List.mem_of_getElem? (i := 16) rfl)) rfl
theorem k_306 : Cond.methodLink RX2 3 ⟨"java/lang/Object", "<init>", "()V"⟩ ∈ gtbl := gt_in (in_S_1_7 _ (List.mem_of_getElem? (i := 17) rfl)) rfl
theorem k_307 : Cond.fieldLink RX2 9 "DuelRound$Names" "named" "[I" ∈ gtbl := gt_in (in_S_1_7 _ (List.mem_of_getElem? (i := 18) rfl)) rfl
theorem k_308 : Cond.laysFinal RX2 "DuelRound$Names" "named" "[I" ∈ gtbl := gt_in (in_S_1_7 _ (List.mem_of_getElem? (i := 19) rfl)) rfl
theorem k_311 : Cond.fieldLink RX9 14 "DuelRound" "text" "LDuelRound$Signs;" ∈ gtbl := gt_in (in_S_1_7 _ (List.mem_of_getElem? (i := 22) rfl)) rfl
theorem k_312 : Cond.fieldLink RX9 21 "DuelRound" "now" "LDuelRound$Duels;" ∈ gtbl := gt_in (in_S_1_7 _ (List.mem_of_getElem? (i := 23) rfl)) rfl
theorem k_313 : Cond.fieldLink RX9 25 "DuelRound" "spare" "LDuelRound$Duels;" ∈ gtbl := gt_in (in_S_1_7 _ (List.mem_of_getElem? (i := 24) rfl)) rfl
theorem k_314 : Cond.fieldLink RX9 31 "DuelRound" "past" "LDuelRound$Past;" ∈ gtbl := gt_in (in_S_1_7 _ (List.mem_of_getElem? (i := 25) rfl)) rfl
theorem k_315 : Cond.fieldLink RX9 40 "DuelRound" "orders" "LDuelRound$Orders;" ∈ gtbl := gt_in (in_S_1_7 _ (List.mem_of_getElem? (i := 26) rfl)) rfl
theorem k_316 : Cond.fieldLink RX9 47 "DuelRound" "weights" "LDuelRound$Weights;" ∈ gtbl := gt_in (in_S_1_7 _ (List.mem_of_getElem? (i := 27) rfl)) rfl
theorem k_317 : Cond.fieldLink RX9 54 "DuelRound" "cups" "LDuelRound$Cups;" ∈ gtbl := gt_in (in_S_1_7 _ (List.mem_of_getElem? (i := 28) rfl)) rfl
theorem k_318 : Cond.fieldLink RX9 63 "DuelRound" "sets" "LDuelRound$Sets;" ∈ gtbl := gt_in (in_S_1_7 _ (List.mem_of_getElem? (i := 29) rfl)) rfl
def S_2_0 : List Cond := [Cond.fieldLink RX9 72 "DuelRound" "proofs" "LDuelRound$Proofs;", Cond.fieldLink RX9 79 "DuelRound" "names" "LDuelRound$Names;", Cond.fieldLink RX9 83 "DuelRound" "setsOfAll" "[I", Cond.laysFinal RX9 "DuelRound" "text" "LDuelRound$Signs;", (Jvm.Cond.soleField "DuelRound" "text"), Cond.laysFinal RX9 "DuelRound" "now" "LDuelRound$Duels;", (Jvm.Cond.soleField "DuelRound" "now"), Cond.laysFinal RX9 "DuelRound" "spare" "LDuelRound$Duels;", (Jvm.Cond.soleField "DuelRound" "spare"), Cond.laysFinal RX9 "DuelRound" "past" "LDuelRound$Past;", (Jvm.Cond.soleField "DuelRound" "past"), Cond.laysFinal RX9 "DuelRound" "orders" "LDuelRound$Orders;", (Jvm.Cond.soleField "DuelRound" "orders"), Cond.laysFinal RX9 "DuelRound" "weights" "LDuelRound$Weights;", (Jvm.Cond.soleField "DuelRound" "weights"), Cond.laysFinal RX9 "DuelRound" "cups" "LDuelRound$Cups;", (Jvm.Cond.soleField "DuelRound" "cups"), Cond.laysFinal RX9 "DuelRound" "sets" "LDuelRound$Sets;", (Jvm.Cond.soleField "DuelRound" "sets"), Cond.laysFinal RX9 "DuelRound" "proofs" "LDuelRound$Proofs;", (Jvm.Cond.soleField "DuelRound" "proofs"), Cond.laysFinal RX9 "DuelRound" "names" "LDuelRound$Names;", (Jvm.Cond.soleField "DuelRound" "names"), Cond.laysFinal RX9 "DuelRound" "setsOfAll" "[I", (Jvm.Cond.soleField "DuelRound" "setsOfAll"), (Jvm.Cond.superclass "DuelRound" "java/lang/Object"), Cond.methodLink RL 19 yX9_sign, Cond.instanceMethod yX9_sign, Cond.selects RX9 yX9_sign yX9_sign, Cond.code yX9_sign cX9_sign 2 (some .int)]
def S_2_1 : List Cond := [Cond.methodLink RX9 87 yX7_addFour, Cond.instanceMethod yX7_addFour, Cond.selects RX7 yX7_addFour yX7_addFour, Cond.code yX7_addFour cX7_addFour 3 (some .int), Cond.methodLink RL 24 yX9_end, Cond.instanceMethod yX9_end, Cond.selects RX9 yX9_end yX9_end, Cond.code yX9_end cX9_end 2 (some .boolean), Cond.methodLink RX9 91 yX7_cutTo, Cond.instanceMethod yX7_cutTo, Cond.selects RX7 yX7_cutTo yX7_cutTo, Cond.code yX7_cutTo cX7_cutTo 2 (some .boolean), Cond.methodLink RL 29 yX9_round, Cond.instanceMethod yX9_round, Cond.selects RX9 yX9_round yX9_round, Cond.code yX9_round cX9_round 2 (some .int), Cond.methodLink RX9 95 yX9_faultOfRound, (Jvm.Cond.privateMethod ({ cls := "DuelRound", name := "faultOfRound", desc := "()I" } : Jvm.MethodName)), Cond.instanceMethod yX9_faultOfRound, Cond.code yX9_faultOfRound cX9_faultOfRound 2 (some .int), Cond.methodLink RX9 103 yX1_clear, Cond.instanceMethod yX1_clear, Cond.selects RX1 yX1_clear yX1_clear, Cond.code yX1_clear cX1_clear 2 none, Cond.methodLink RX9 304 yX9_readPair, (Jvm.Cond.privateMethod ({ cls := "DuelRound", name := "readPair", desc := "()Z" } : Jvm.MethodName)), Cond.instanceMethod yX9_readPair, Cond.code yX9_readPair cX9_readPair 3 (some .boolean), Cond.methodLink RX9 314 yX7_nextLetter, Cond.instanceMethod yX7_nextLetter]
def S_2_2 : List Cond := [Cond.selects RX7 yX7_nextLetter yX7_nextLetter, Cond.code yX7_nextLetter cX7_nextLetter 2 (some .int), Cond.methodLink RX7 22 yX7_next, Cond.instanceMethod yX7_next, Cond.selects RX7 yX7_next yX7_next, Cond.code yX7_next cX7_next 1 (some .int), Cond.methodLink RX9 308 yX7_next, Cond.methodLink RX9 317 yX1_isTold, Cond.instanceMethod yX1_isTold, Cond.selects RX1 yX1_isTold yX1_isTold, Cond.code yX1_isTold cX1_isTold 3 (some .boolean), Cond.methodLink RX1 23 yX1_isBeating, Cond.instanceMethod yX1_isBeating, Cond.selects RX1 yX1_isBeating yX1_isBeating, Cond.code yX1_isBeating cX1_isBeating 3 (some .boolean), Cond.methodLink RX9 111 yX1_letBeat, Cond.instanceMethod yX1_letBeat, Cond.selects RX1 yX1_letBeat yX1_letBeat, Cond.code yX1_letBeat cX1_letBeat 3 none, Cond.methodLink RX9 320 yJ9_max_7cf53, Cond.static yJ9_max_7cf53, Cond.code yJ9_max_7cf53 cJ9_max_7cf53 2 (some .int), Cond.methodLink RX9 311 yX1_arrowsTold, Cond.instanceMethod yX1_arrowsTold, Cond.selects RX1 yX1_arrowsTold yX1_arrowsTold, Cond.code yX1_arrowsTold cX1_arrowsTold 3 (some .int), Cond.methodLink RX1 34 yJ6_bitCount_0f7a4, Cond.static yJ6_bitCount_0f7a4, Cond.code yJ6_bitCount_0f7a4 cJ6_bitCount_0f7a4 1 (some .int), Cond.constant RJ6 265 (1431655765)]
def S_2_3 : List Cond := [Cond.constant RJ6 266 (858993459), Cond.constant RJ6 267 (252645135), Cond.methodLink RX9 286 yX1_arrows, Cond.instanceMethod yX1_arrows, Cond.selects RX1 yX1_arrows yX1_arrows, Cond.code yX1_arrows cX1_arrows 1 (some .int), Cond.methodLink RX9 99 yX9_startWithSpare, (Jvm.Cond.privateMethod ({ cls := "DuelRound", name := "startWithSpare", desc := "()I" } : Jvm.MethodName)), Cond.instanceMethod yX9_startWithSpare, Cond.code yX9_startWithSpare cX9_startWithSpare 1 (some .int), Cond.methodLink RX9 149 yX1_packed, Cond.instanceMethod yX1_packed, Cond.selects RX1 yX1_packed yX1_packed, Cond.code yX1_packed cX1_packed 5 (some .long), (Jvm.Cond.methodLinkNest "DuelRound$Duels" (27 : Nat) ({ cls := "DuelRound", name := "bitOf", desc := "(II)I" } : Jvm.MethodName) "DuelRound"), Cond.static yX9_bitOf, Cond.code yX9_bitOf cX9_bitOf 2 (some .int), Cond.methodLink RX9 272 yX1_unpack, Cond.instanceMethod yX1_unpack, Cond.selects RX1 yX1_unpack yX1_unpack, Cond.code yX1_unpack cX1_unpack 8 none, Cond.methodLink RX1 40 yX1_clear, Cond.constantLong RX1 43 (15), Cond.methodLink RX1 45 yX1_letBeat, Cond.methodLink RX9 298 yX4_forgetAll, Cond.instanceMethod yX4_forgetAll, Cond.selects RX4 yX4_forgetAll yX4_forgetAll, Cond.code yX4_forgetAll cX4_forgetAll 2 none, Cond.methodLink RL 34 yX9_drawn, Cond.instanceMethod yX9_drawn]
def S_2_4 : List Cond := [Cond.selects RX9 yX9_drawn yX9_drawn, Cond.code yX9_drawn cX9_drawn 6 (some .int), Cond.constant RX9 102 (999999), Cond.constant RX9 110 (1000003), Cond.methodLink RL 45 yX9_beaten, Cond.instanceMethod yX9_beaten, Cond.selects RX9 yX9_beaten yX9_beaten, Cond.code yX9_beaten cX9_beaten 3 (some .int), Cond.methodLink RX9 115 yX1_isPlayer, Cond.instanceMethod yX1_isPlayer, Cond.selects RX1 yX1_isPlayer yX1_isPlayer, Cond.code yX1_isPlayer cX1_isPlayer 2 (some .boolean), Cond.methodLink RX9 146 yX1_arePlayers, Cond.instanceMethod yX1_arePlayers, Cond.selects RX1 yX1_arePlayers yX1_arePlayers, Cond.code yX1_arePlayers cX1_arePlayers 2 (some .boolean), Cond.methodLink RX1 19 yX1_everybody, Cond.instanceMethod yX1_everybody, Cond.selects RX1 yX1_everybody yX1_everybody, Cond.code yX1_everybody cX1_everybody 1 (some .int), Cond.methodLink RL 49 yX9_turn, Cond.instanceMethod yX9_turn, Cond.selects RX9 yX9_turn yX9_turn, Cond.code yX9_turn cX9_turn 3 (some .int), Cond.methodLink RX9 153 yX4_remember, Cond.instanceMethod yX4_remember, Cond.selects RX4 yX4_remember yX4_remember, Cond.code yX4_remember cX4_remember 3 none, Cond.methodLink RX4 22 ⟨"java/lang/System", "arraycopy", "(Ljava/lang/Object;ILjava/lang/Object;II)V"⟩, Cond.static ⟨"java/lang/System", "arraycopy", "(Ljava/lang/Object;ILjava/lang/Object;II)V"⟩]
def S_2_5 : List Cond := [Cond.native ⟨"java/lang/System", "arraycopy", "(Ljava/lang/Object;ILjava/lang/Object;II)V"⟩, Cond.methodLink RX9 157 yX1_flip, Cond.instanceMethod yX1_flip, Cond.selects RX1 yX1_flip yX1_flip, Cond.code yX1_flip cX1_flip 3 none, Cond.methodLink RX9 160 yX1_winnerOf, Cond.instanceMethod yX1_winnerOf, Cond.selects RX1 yX1_winnerOf yX1_winnerOf, Cond.code yX1_winnerOf cX1_winnerOf 3 (some .int), Cond.methodLink RL 53 yX9_join, Cond.instanceMethod yX9_join, Cond.selects RX9 yX9_join yX9_join, Cond.code yX9_join cX9_join 2 (some .int), Cond.methodLink RX9 163 yX1_addPlayer, Cond.instanceMethod yX1_addPlayer, Cond.selects RX1 yX1_addPlayer yX1_addPlayer, Cond.code yX1_addPlayer cX1_addPlayer 4 none, Cond.methodLink RL 57 yX9_drop, Cond.instanceMethod yX9_drop, Cond.selects RX9 yX9_drop yX9_drop, Cond.code yX9_drop cX9_drop 2 (some .int), Cond.methodLink RX9 167 yX1_removePlayer, Cond.instanceMethod yX1_removePlayer, Cond.selects RX1 yX1_removePlayer yX1_removePlayer, Cond.code yX1_removePlayer cX1_removePlayer 4 none, Cond.methodLink RL 61 yX9_set, Cond.instanceMethod yX9_set, Cond.selects RX9 yX9_set yX9_set, Cond.code yX9_set cX9_set 3 (some .int), Cond.methodLink RX9 170 yX9_isKind]
def S_2_6 : List Cond := [Cond.static yX9_isKind, Cond.code yX9_isKind cX9_isKind 1 (some .boolean), Cond.methodLink RX9 173 yX6_ofKind, Cond.instanceMethod yX6_ofKind, Cond.selects RX6 yX6_ofKind yX6_ofKind, Cond.code yX6_ofKind cX6_ofKind 3 (some .int), Cond.methodLink RX6 34 yX6_top, Cond.instanceMethod yX6_top, Cond.selects RX6 yX6_top yX6_top, Cond.code yX6_top cX6_top 3 (some .int), (Jvm.Cond.methodLinkNest "DuelRound$Sets" (78 : Nat) ({ cls := "DuelRound", name := "bitOf", desc := "(II)I" } : Jvm.MethodName) "DuelRound"), Cond.methodLink RX6 81 yX1_beatersOf, Cond.instanceMethod yX1_beatersOf, Cond.selects RX1 yX1_beatersOf yX1_beatersOf, Cond.code yX1_beatersOf cX1_beatersOf 3 (some .int), Cond.methodLink RX6 84 yX6_closeNeeds, Cond.instanceMethod yX6_closeNeeds, Cond.selects RX6 yX6_closeNeeds yX6_closeNeeds, Cond.code yX6_closeNeeds cX6_closeNeeds 5 none, Cond.methodLink RX6 88 yX6_leastClosed, Cond.instanceMethod yX6_leastClosed, Cond.selects RX6 yX6_leastClosed yX6_leastClosed, Cond.code yX6_leastClosed cX6_leastClosed 6 (some .int), Cond.methodLink RX6 38 yX6_most, Cond.instanceMethod yX6_most, Cond.selects RX6 yX6_most yX6_most, Cond.code yX6_most cX6_most 6 (some .int), Cond.methodLink RX6 94 yJ6_bitCount_0f7a4, Cond.methodLink RX6 41 yX6_uncovered, Cond.instanceMethod yX6_uncovered]
def S_2_7 : List Cond := [Cond.selects RX6 yX6_uncovered yX6_uncovered, Cond.code yX6_uncovered cX6_uncovered 4 (some .int), Cond.methodLink RX6 103 yX6_isCovered, Cond.instanceMethod yX6_isCovered, Cond.selects RX6 yX6_isCovered yX6_isCovered, Cond.code yX6_isCovered cX6_isCovered 4 (some .boolean), Cond.methodLink RX6 99 yX6_isCovering, Cond.instanceMethod yX6_isCovering, Cond.selects RX6 yX6_isCovering yX6_isCovering, Cond.code yX6_isCovering cX6_isCovering 5 (some .boolean), Cond.methodLink RX6 44 yX6_uncoveredAgain, Cond.instanceMethod yX6_uncoveredAgain, Cond.selects RX6 yX6_uncoveredAgain yX6_uncoveredAgain, Cond.code yX6_uncoveredAgain cX6_uncoveredAgain 4 (some .int), Cond.methodLink RX6 47 yX6_banks, Cond.instanceMethod yX6_banks, Cond.selects RX6 yX6_banks yX6_banks, Cond.code yX6_banks cX6_banks 4 (some .int), Cond.methodLink RX6 107 yX6_leastChain, Cond.instanceMethod yX6_leastChain, Cond.selects RX6 yX6_leastChain yX6_leastChain, Cond.code yX6_leastChain cX6_leastChain 3 (some .int), Cond.methodLink RX6 110 yX6_chainFrom, Cond.instanceMethod yX6_chainFrom, Cond.selects RX6 yX6_chainFrom yX6_chainFrom, Cond.code yX6_chainFrom cX6_chainFrom 6 (some .int), Cond.methodLink RX6 50 yX3_firsts, Cond.instanceMethod yX3_firsts, Cond.selects RX3 yX3_firsts yX3_firsts, Cond.code yX3_firsts cX3_firsts 4 (some .int)]
set_option maxRecDepth 100000 in
theorem eq_2 : S_2_0 ++ (S_2_1 ++ (S_2_2 ++ (S_2_3 ++ (S_2_4 ++ (S_2_5 ++ (S_2_6 ++ (S_2_7))))))) = tables_1_2 := rfl
theorem in_S_2_0 : ∀ w ∈ S_2_0, w ∈ lw_tbl := fun w h => List.mem_append_right _ (List.mem_append_right _ (List.mem_append_left _ (eq_2 ▸ (List.mem_append_left _ h : w ∈ S_2_0 ++ (S_2_1 ++ (S_2_2 ++ (S_2_3 ++ (S_2_4 ++ (S_2_5 ++ (S_2_6 ++ (S_2_7)))))))))))
theorem k_319 : Cond.fieldLink RX9 72 "DuelRound" "proofs" "LDuelRound$Proofs;" ∈ gtbl := gt_in (in_S_2_0 _ (List.mem_of_getElem? (i := 0) rfl)) rfl
theorem k_320 : Cond.fieldLink RX9 79 "DuelRound" "names" "LDuelRound$Names;" ∈ gtbl := gt_in (in_S_2_0 _ (List.mem_of_getElem? (i := 1) rfl)) rfl
theorem k_321 : Cond.fieldLink RX9 83 "DuelRound" "setsOfAll" "[I" ∈ gtbl := gt_in (in_S_2_0 _ (List.mem_of_getElem? (i := 2) rfl)) rfl
theorem k_322 : Cond.laysFinal RX9 "DuelRound" "text" "LDuelRound$Signs;" ∈ gtbl := gt_in (in_S_2_0 _ (List.mem_of_getElem? (i := 3) rfl)) rfl
theorem k_324 : Cond.laysFinal RX9 "DuelRound" "now" "LDuelRound$Duels;" ∈ gtbl := gt_in (in_S_2_0 _ (List.mem_of_getElem? (i := 5) rfl)) rfl
theorem k_326 : Cond.laysFinal RX9 "DuelRound" "spare" "LDuelRound$Duels;" ∈ gtbl := gt_in (in_S_2_0 _ (List.mem_of_getElem? (i := 7) rfl)) rfl
theorem k_328 : Cond.laysFinal RX9 "DuelRound" "past" "LDuelRound$Past;" ∈ gtbl := gt_in (in_S_2_0 _ (List.mem_of_getElem? (i := 9) rfl)) rfl
theorem k_330 : Cond.laysFinal RX9 "DuelRound" "orders" "LDuelRound$Orders;" ∈ gtbl := gt_in (in_S_2_0 _ (List.mem_of_getElem? (i := 11) rfl)) rfl
theorem k_332 : Cond.laysFinal RX9 "DuelRound" "weights" "LDuelRound$Weights;" ∈ gtbl := gt_in (in_S_2_0 _ (List.mem_of_getElem? (i := 13) rfl)) rfl
theorem k_334 : Cond.laysFinal RX9 "DuelRound" "cups" "LDuelRound$Cups;" ∈ gtbl := gt_in (in_S_2_0 _ (List.mem_of_getElem? (i := 15) rfl)) rfl
theorem k_336 : Cond.laysFinal RX9 "DuelRound" "sets" "LDuelRound$Sets;" ∈ gtbl := gt_in (in_S_2_0 _ (List.mem_of_getElem? (i := 17) rfl)) rfl
theorem k_338 : Cond.laysFinal RX9 "DuelRound" "proofs" "LDuelRound$Proofs;" ∈ gtbl := gt_in (in_S_2_0 _ (List.mem_of_getElem? (i := 19) rfl)) rfl
theorem k_340 : Cond.laysFinal RX9 "DuelRound" "names" "LDuelRound$Names;" ∈ gtbl := gt_in (in_S_2_0 _ (List.mem_of_getElem? (i := 21) rfl)) rfl
theorem k_342 : Cond.laysFinal RX9 "DuelRound" "setsOfAll" "[I" ∈ gtbl := gt_in (in_S_2_0 _ (List.mem_of_getElem? (i := 23) rfl)) rfl
theorem k_345 : Cond.methodLink RL 19 yX9_sign ∈ gtbl := gt_in (in_S_2_0 _ (List.mem_of_getElem? (i := 26) rfl)) rfl
theorem k_346 : Cond.instanceMethod yX9_sign ∈ gtbl := gt_in (in_S_2_0 _ (List.mem_of_getElem? (i := 27) rfl)) rfl
theorem k_347 : Cond.selects RX9 yX9_sign yX9_sign ∈ gtbl := gt_in (in_S_2_0 _ (List.mem_of_getElem? (i := 28) rfl)) rfl
theorem k_348 : Cond.code yX9_sign cX9_sign 2 (some .int) ∈ gtbl := gt_in (in_S_2_0 _ (List.mem_of_getElem? (i := 29) rfl)) rfl
theorem in_S_2_1 : ∀ w ∈ S_2_1, w ∈ lw_tbl := fun w h => List.mem_append_right _ (List.mem_append_right _ (List.mem_append_left _ (eq_2 ▸ (List.mem_append_right _ (List.mem_append_left _ h) : w ∈ S_2_0 ++ (S_2_1 ++ (S_2_2 ++ (S_2_3 ++ (S_2_4 ++ (S_2_5 ++ (S_2_6 ++ (S_2_7)))))))))))
theorem k_349 : Cond.methodLink RX9 87 yX7_addFour ∈ gtbl := gt_in (in_S_2_1 _ (List.mem_of_getElem? (i := 0) rfl)) rfl
theorem k_350 : Cond.instanceMethod yX7_addFour ∈ gtbl := gt_in (in_S_2_1 _ (List.mem_of_getElem? (i := 1) rfl)) rfl
theorem k_351 : Cond.selects RX7 yX7_addFour yX7_addFour ∈ gtbl := gt_in (in_S_2_1 _ (List.mem_of_getElem? (i := 2) rfl)) rfl
theorem k_352 : Cond.code yX7_addFour cX7_addFour 3 (some .int) ∈ gtbl := gt_in (in_S_2_1 _ (List.mem_of_getElem? (i := 3) rfl)) rfl
theorem k_353 : Cond.methodLink RL 24 yX9_end ∈ gtbl := gt_in (in_S_2_1 _ (List.mem_of_getElem? (i := 4) rfl)) rfl
theorem k_354 : Cond.instanceMethod yX9_end ∈ gtbl := gt_in (in_S_2_1 _ (List.mem_of_getElem? (i := 5) rfl)) rfl
theorem k_355 : Cond.selects RX9 yX9_end yX9_end ∈ gtbl := gt_in (in_S_2_1 _ (List.mem_of_getElem? (i := 6) rfl)) rfl
theorem k_356 : Cond.code yX9_end cX9_end 2 (some .boolean) ∈ gtbl := gt_in (in_S_2_1 _ (List.mem_of_getElem? (i := 7) rfl)) rfl
theorem k_357 : Cond.methodLink RX9 91 yX7_cutTo ∈ gtbl := gt_in (in_S_2_1 _ (List.mem_of_getElem? (i := 8) rfl)) rfl
theorem k_358 : Cond.instanceMethod yX7_cutTo ∈ gtbl := gt_in (in_S_2_1 _ (List.mem_of_getElem? (i := 9) rfl)) rfl
theorem k_359 : Cond.selects RX7 yX7_cutTo yX7_cutTo ∈ gtbl := gt_in (in_S_2_1 _ (List.mem_of_getElem? (i := 10) rfl)) rfl
theorem k_360 : Cond.code yX7_cutTo cX7_cutTo 2 (some .boolean) ∈ gtbl := gt_in (in_S_2_1 _ (List.mem_of_getElem? (i := 11) rfl)) rfl
theorem k_361 : Cond.methodLink RL 29 yX9_round ∈ gtbl := gt_in (in_S_2_1 _ (List.mem_of_getElem? (i := 12) rfl)) rfl
theorem k_362 : Cond.instanceMethod yX9_round ∈ gtbl := gt_in (in_S_2_1 _ (List.mem_of_getElem? (i := 13) rfl)) rfl
theorem k_363 : Cond.selects RX9 yX9_round yX9_round ∈ gtbl := gt_in (in_S_2_1 _ (List.mem_of_getElem? (i := 14) rfl)) rfl
theorem k_364 : Cond.code yX9_round cX9_round 2 (some .int) ∈ gtbl := gt_in (in_S_2_1 _ (List.mem_of_getElem? (i := 15) rfl)) rfl
theorem k_365 : Cond.methodLink RX9 95 yX9_faultOfRound ∈ gtbl := gt_in (in_S_2_1 _ (List.mem_of_getElem? (i := 16) rfl)) rfl
theorem k_367 : Cond.instanceMethod yX9_faultOfRound ∈ gtbl := gt_in (in_S_2_1 _ (List.mem_of_getElem? (i := 18) rfl)) rfl
theorem k_368 : Cond.code yX9_faultOfRound cX9_faultOfRound 2 (some .int) ∈ gtbl := gt_in (in_S_2_1 _ (List.mem_of_getElem? (i := 19) rfl)) rfl
theorem k_369 : Cond.methodLink RX9 103 yX1_clear ∈ gtbl := gt_in (in_S_2_1 _ (List.mem_of_getElem? (i := 20) rfl)) rfl
theorem k_370 : Cond.instanceMethod yX1_clear ∈ gtbl := gt_in (in_S_2_1 _ (List.mem_of_getElem? (i := 21) rfl)) rfl
theorem k_371 : Cond.selects RX1 yX1_clear yX1_clear ∈ gtbl := gt_in (in_S_2_1 _ (List.mem_of_getElem? (i := 22) rfl)) rfl
theorem k_372 : Cond.code yX1_clear cX1_clear 2 none ∈ gtbl := gt_in (in_S_2_1 _ (List.mem_of_getElem? (i := 23) rfl)) rfl
theorem k_373 : Cond.methodLink RX9 304 yX9_readPair ∈ gtbl := gt_in (in_S_2_1 _ (List.mem_of_getElem? (i := 24) rfl)) rfl
theorem k_375 : Cond.instanceMethod yX9_readPair ∈ gtbl := gt_in (in_S_2_1 _ (List.mem_of_getElem? (i := 26) rfl)) rfl
theorem k_376 : Cond.code yX9_readPair cX9_readPair 3 (some .boolean) ∈ gtbl := gt_in (in_S_2_1 _ (List.mem_of_getElem? (i := 27) rfl)) rfl
theorem k_377 : Cond.methodLink RX9 314 yX7_nextLetter ∈ gtbl := gt_in (in_S_2_1 _ (List.mem_of_getElem? (i := 28) rfl)) rfl
theorem k_378 : Cond.instanceMethod yX7_nextLetter ∈ gtbl := gt_in (in_S_2_1 _ (List.mem_of_getElem? (i := 29) rfl)) rfl
theorem in_S_2_2 : ∀ w ∈ S_2_2, w ∈ lw_tbl := fun w h => List.mem_append_right _ (List.mem_append_right _ (List.mem_append_left _ (eq_2 ▸ (List.mem_append_right _ (List.mem_append_right _ (List.mem_append_left _ h)) : w ∈ S_2_0 ++ (S_2_1 ++ (S_2_2 ++ (S_2_3 ++ (S_2_4 ++ (S_2_5 ++ (S_2_6 ++ (S_2_7)))))))))))
theorem k_379 : Cond.selects RX7 yX7_nextLetter yX7_nextLetter ∈ gtbl := gt_in (in_S_2_2 _ (List.mem_of_getElem? (i := 0) rfl)) rfl
theorem k_380 : Cond.code yX7_nextLetter cX7_nextLetter 2 (some .int) ∈ gtbl := gt_in (in_S_2_2 _ (List.mem_of_getElem? (i := 1) rfl)) rfl
theorem k_381 : Cond.methodLink RX7 22 yX7_next ∈ gtbl := gt_in (in_S_2_2 _ (List.mem_of_getElem? (i := 2) rfl)) rfl
theorem k_382 : Cond.instanceMethod yX7_next ∈ gtbl := gt_in (in_S_2_2 _ (List.mem_of_getElem? (i := 3) rfl)) rfl
theorem k_383 : Cond.selects RX7 yX7_next yX7_next ∈ gtbl := gt_in (in_S_2_2 _ (List.mem_of_getElem? (i := 4) rfl)) rfl
theorem k_384 : Cond.code yX7_next cX7_next 1 (some .int) ∈ gtbl := gt_in (in_S_2_2 _ (List.mem_of_getElem? (i := 5) rfl)) rfl
theorem k_385 : Cond.methodLink RX9 308 yX7_next ∈ gtbl := gt_in (in_S_2_2 _ (List.mem_of_getElem? (i := 6) rfl)) rfl
theorem k_386 : Cond.methodLink RX9 317 yX1_isTold ∈ gtbl := gt_in (in_S_2_2 _ (List.mem_of_getElem? (i := 7) rfl)) rfl
theorem k_387 : Cond.instanceMethod yX1_isTold ∈ gtbl := gt_in (in_S_2_2 _ (List.mem_of_getElem? (i := 8) rfl)) rfl
theorem k_388 : Cond.selects RX1 yX1_isTold yX1_isTold ∈ gtbl := gt_in (in_S_2_2 _ (List.mem_of_getElem? (i := 9) rfl)) rfl
theorem k_389 : Cond.code yX1_isTold cX1_isTold 3 (some .boolean) ∈ gtbl := gt_in (in_S_2_2 _ (List.mem_of_getElem? (i := 10) rfl)) rfl
theorem k_390 : Cond.methodLink RX1 23 yX1_isBeating ∈ gtbl := gt_in (in_S_2_2 _ (List.mem_of_getElem? (i := 11) rfl)) rfl
theorem k_391 : Cond.instanceMethod yX1_isBeating ∈ gtbl := gt_in (in_S_2_2 _ (List.mem_of_getElem? (i := 12) rfl)) rfl
theorem k_392 : Cond.selects RX1 yX1_isBeating yX1_isBeating ∈ gtbl := gt_in (in_S_2_2 _ (List.mem_of_getElem? (i := 13) rfl)) rfl
theorem k_393 : Cond.code yX1_isBeating cX1_isBeating 3 (some .boolean) ∈ gtbl := gt_in (in_S_2_2 _ (List.mem_of_getElem? (i := 14) rfl)) rfl
theorem k_394 : Cond.methodLink RX9 111 yX1_letBeat ∈ gtbl := gt_in (in_S_2_2 _ (List.mem_of_getElem? (i := 15) rfl)) rfl
theorem k_395 : Cond.instanceMethod yX1_letBeat ∈ gtbl := gt_in (in_S_2_2 _ (List.mem_of_getElem? (i := 16) rfl)) rfl
theorem k_396 : Cond.selects RX1 yX1_letBeat yX1_letBeat ∈ gtbl := gt_in (in_S_2_2 _ (List.mem_of_getElem? (i := 17) rfl)) rfl
theorem k_397 : Cond.code yX1_letBeat cX1_letBeat 3 none ∈ gtbl := gt_in (in_S_2_2 _ (List.mem_of_getElem? (i := 18) rfl)) rfl
theorem k_398 : Cond.methodLink RX9 320 yJ9_max_7cf53 ∈ gtbl := gt_in (in_S_2_2 _ (List.mem_of_getElem? (i := 19) rfl)) rfl
theorem k_399 : Cond.static yJ9_max_7cf53 ∈ gtbl := gt_in (in_S_2_2 _ (List.mem_of_getElem? (i := 20) rfl)) rfl
theorem k_400 : Cond.code yJ9_max_7cf53 cJ9_max_7cf53 2 (some .int) ∈ gtbl := gt_in (in_S_2_2 _ (List.mem_of_getElem? (i := 21) rfl)) rfl
theorem k_401 : Cond.methodLink RX9 311 yX1_arrowsTold ∈ gtbl := gt_in (in_S_2_2 _ (List.mem_of_getElem? (i := 22) rfl)) rfl
theorem k_402 : Cond.instanceMethod yX1_arrowsTold ∈ gtbl := gt_in (in_S_2_2 _ (List.mem_of_getElem? (i := 23) rfl)) rfl
theorem k_403 : Cond.selects RX1 yX1_arrowsTold yX1_arrowsTold ∈ gtbl := gt_in (in_S_2_2 _ (List.mem_of_getElem? (i := 24) rfl)) rfl
theorem k_404 : Cond.code yX1_arrowsTold cX1_arrowsTold 3 (some .int) ∈ gtbl := gt_in (in_S_2_2 _ (List.mem_of_getElem? (i := 25) rfl)) rfl
theorem k_405 : Cond.methodLink RX1 34 yJ6_bitCount_0f7a4 ∈ gtbl := gt_in (in_S_2_2 _ (List.mem_of_getElem? (i := 26) rfl)) rfl
theorem k_406 : Cond.static yJ6_bitCount_0f7a4 ∈ gtbl := gt_in (in_S_2_2 _ (List.mem_of_getElem? (i := 27) rfl)) rfl
theorem k_407 : Cond.code yJ6_bitCount_0f7a4 cJ6_bitCount_0f7a4 1 (some .int) ∈ gtbl := gt_in (in_S_2_2 _ (List.mem_of_getElem? (i := 28) rfl)) rfl
theorem k_408 : Cond.constant RJ6 265 (1431655765) ∈ gtbl := gt_in (in_S_2_2 _ (List.mem_of_getElem? (i := 29) rfl)) rfl
theorem in_S_2_3 : ∀ w ∈ S_2_3, w ∈ lw_tbl := fun w h => List.mem_append_right _ (List.mem_append_right _ (List.mem_append_left _ (eq_2 ▸ (List.mem_append_right _ (List.mem_append_right _ (List.mem_append_right _ (List.mem_append_left _ h))) : w ∈ S_2_0 ++ (S_2_1 ++ (S_2_2 ++ (S_2_3 ++ (S_2_4 ++ (S_2_5 ++ (S_2_6 ++ (S_2_7)))))))))))
theorem k_409 : Cond.constant RJ6 266 (858993459) ∈ gtbl := gt_in (in_S_2_3 _ (List.mem_of_getElem? (i := 0) rfl)) rfl
theorem k_410 : Cond.constant RJ6 267 (252645135) ∈ gtbl := gt_in (in_S_2_3 _ (List.mem_of_getElem? (i := 1) rfl)) rfl
theorem k_411 : Cond.methodLink RX9 286 yX1_arrows ∈ gtbl := gt_in (in_S_2_3 _ (List.mem_of_getElem? (i := 2) rfl)) rfl
theorem k_412 : Cond.instanceMethod yX1_arrows ∈ gtbl := gt_in (in_S_2_3 _ (List.mem_of_getElem? (i := 3) rfl)) rfl
theorem k_413 : Cond.selects RX1 yX1_arrows yX1_arrows ∈ gtbl := gt_in (in_S_2_3 _ (List.mem_of_getElem? (i := 4) rfl)) rfl
theorem k_414 : Cond.code yX1_arrows cX1_arrows 1 (some .int) ∈ gtbl := gt_in (in_S_2_3 _ (List.mem_of_getElem? (i := 5) rfl)) rfl
theorem k_415 : Cond.methodLink RX9 99 yX9_startWithSpare ∈ gtbl := gt_in (in_S_2_3 _ (List.mem_of_getElem? (i := 6) rfl)) rfl
theorem k_417 : Cond.instanceMethod yX9_startWithSpare ∈ gtbl := gt_in (in_S_2_3 _ (List.mem_of_getElem? (i := 8) rfl)) rfl
theorem k_418 : Cond.code yX9_startWithSpare cX9_startWithSpare 1 (some .int) ∈ gtbl := gt_in (in_S_2_3 _ (List.mem_of_getElem? (i := 9) rfl)) rfl
theorem k_419 : Cond.methodLink RX9 149 yX1_packed ∈ gtbl := gt_in (in_S_2_3 _ (List.mem_of_getElem? (i := 10) rfl)) rfl
theorem k_420 : Cond.instanceMethod yX1_packed ∈ gtbl := gt_in (in_S_2_3 _ (List.mem_of_getElem? (i := 11) rfl)) rfl
theorem k_421 : Cond.selects RX1 yX1_packed yX1_packed ∈ gtbl := gt_in (in_S_2_3 _ (List.mem_of_getElem? (i := 12) rfl)) rfl
theorem k_422 : Cond.code yX1_packed cX1_packed 5 (some .long) ∈ gtbl := gt_in (in_S_2_3 _ (List.mem_of_getElem? (i := 13) rfl)) rfl
theorem k_424 : Cond.static yX9_bitOf ∈ gtbl := gt_in (in_S_2_3 _ (List.mem_of_getElem? (i := 15) rfl)) rfl
theorem k_425 : Cond.code yX9_bitOf cX9_bitOf 2 (some .int) ∈ gtbl := gt_in (in_S_2_3 _ (List.mem_of_getElem? (i := 16) rfl)) rfl
theorem k_426 : Cond.methodLink RX9 272 yX1_unpack ∈ gtbl := gt_in (in_S_2_3 _ (List.mem_of_getElem? (i := 17) rfl)) rfl
theorem k_427 : Cond.instanceMethod yX1_unpack ∈ gtbl := gt_in (in_S_2_3 _ (List.mem_of_getElem? (i := 18) rfl)) rfl
theorem k_428 : Cond.selects RX1 yX1_unpack yX1_unpack ∈ gtbl := gt_in (in_S_2_3 _ (List.mem_of_getElem? (i := 19) rfl)) rfl
theorem k_429 : Cond.code yX1_unpack cX1_unpack 8 none ∈ gtbl := gt_in (in_S_2_3 _ (List.mem_of_getElem? (i := 20) rfl)) rfl
theorem k_430 : Cond.methodLink RX1 40 yX1_clear ∈ gtbl := gt_in (in_S_2_3 _ (List.mem_of_getElem? (i := 21) rfl)) rfl
theorem k_431 : Cond.constantLong RX1 43 (15) ∈ gtbl := gt_in (in_S_2_3 _ (List.mem_of_getElem? (i := 22) rfl)) rfl
theorem k_432 : Cond.methodLink RX1 45 yX1_letBeat ∈ gtbl := gt_in (in_S_2_3 _ (List.mem_of_getElem? (i := 23) rfl)) rfl
theorem k_433 : Cond.methodLink RX9 298 yX4_forgetAll ∈ gtbl := gt_in (in_S_2_3 _ (List.mem_of_getElem? (i := 24) rfl)) rfl
theorem k_434 : Cond.instanceMethod yX4_forgetAll ∈ gtbl := gt_in (in_S_2_3 _ (List.mem_of_getElem? (i := 25) rfl)) rfl
theorem k_435 : Cond.selects RX4 yX4_forgetAll yX4_forgetAll ∈ gtbl := gt_in (in_S_2_3 _ (List.mem_of_getElem? (i := 26) rfl)) rfl
theorem k_436 : Cond.code yX4_forgetAll cX4_forgetAll 2 none ∈ gtbl := gt_in (in_S_2_3 _ (List.mem_of_getElem? (i := 27) rfl)) rfl
theorem k_437 : Cond.methodLink RL 34 yX9_drawn ∈ gtbl := gt_in (in_S_2_3 _ (List.mem_of_getElem? (i := 28) rfl)) rfl
theorem k_438 : Cond.instanceMethod yX9_drawn ∈ gtbl := gt_in (in_S_2_3 _ (List.mem_of_getElem? (i := 29) rfl)) rfl
theorem in_S_2_4 : ∀ w ∈ S_2_4, w ∈ lw_tbl := fun w h => List.mem_append_right _ (List.mem_append_right _ (List.mem_append_left _ (eq_2 ▸ (List.mem_append_right _ (List.mem_append_right _ (List.mem_append_right _ (List.mem_append_right _ (List.mem_append_left _ h)))) : w ∈ S_2_0 ++ (S_2_1 ++ (S_2_2 ++ (S_2_3 ++ (S_2_4 ++ (S_2_5 ++ (S_2_6 ++ (S_2_7)))))))))))
theorem k_439 : Cond.selects RX9 yX9_drawn yX9_drawn ∈ gtbl := gt_in (in_S_2_4 _ (List.mem_of_getElem? (i := 0) rfl)) rfl
theorem k_440 : Cond.code yX9_drawn cX9_drawn 6 (some .int) ∈ gtbl := gt_in (in_S_2_4 _ (List.mem_of_getElem? (i := 1) rfl)) rfl
theorem k_441 : Cond.constant RX9 102 (999999) ∈ gtbl := gt_in (in_S_2_4 _ (List.mem_of_getElem? (i := 2) rfl)) rfl
theorem k_442 : Cond.constant RX9 110 (1000003) ∈ gtbl := gt_in (in_S_2_4 _ (List.mem_of_getElem? (i := 3) rfl)) rfl
theorem k_443 : Cond.methodLink RL 45 yX9_beaten ∈ gtbl := gt_in (in_S_2_4 _ (List.mem_of_getElem? (i := 4) rfl)) rfl
theorem k_444 : Cond.instanceMethod yX9_beaten ∈ gtbl := gt_in (in_S_2_4 _ (List.mem_of_getElem? (i := 5) rfl)) rfl
theorem k_445 : Cond.selects RX9 yX9_beaten yX9_beaten ∈ gtbl := gt_in (in_S_2_4 _ (List.mem_of_getElem? (i := 6) rfl)) rfl
theorem k_446 : Cond.code yX9_beaten cX9_beaten 3 (some .int) ∈ gtbl := gt_in (in_S_2_4 _ (List.mem_of_getElem? (i := 7) rfl)) rfl
theorem k_447 : Cond.methodLink RX9 115 yX1_isPlayer ∈ gtbl := gt_in (in_S_2_4 _ (List.mem_of_getElem? (i := 8) rfl)) rfl
theorem k_448 : Cond.instanceMethod yX1_isPlayer ∈ gtbl := gt_in (in_S_2_4 _ (List.mem_of_getElem? (i := 9) rfl)) rfl
theorem k_449 : Cond.selects RX1 yX1_isPlayer yX1_isPlayer ∈ gtbl := gt_in (in_S_2_4 _ (List.mem_of_getElem? (i := 10) rfl)) rfl
theorem k_450 : Cond.code yX1_isPlayer cX1_isPlayer 2 (some .boolean) ∈ gtbl := gt_in (in_S_2_4 _ (List.mem_of_getElem? (i := 11) rfl)) rfl
theorem k_451 : Cond.methodLink RX9 146 yX1_arePlayers ∈ gtbl := gt_in (in_S_2_4 _ (List.mem_of_getElem? (i := 12) rfl)) rfl
theorem k_452 : Cond.instanceMethod yX1_arePlayers ∈ gtbl := gt_in (in_S_2_4 _ (List.mem_of_getElem? (i := 13) rfl)) rfl
theorem k_453 : Cond.selects RX1 yX1_arePlayers yX1_arePlayers ∈ gtbl := gt_in (in_S_2_4 _ (List.mem_of_getElem? (i := 14) rfl)) rfl
theorem k_454 : Cond.code yX1_arePlayers cX1_arePlayers 2 (some .boolean) ∈ gtbl := gt_in (in_S_2_4 _ (List.mem_of_getElem? (i := 15) rfl)) rfl
theorem k_455 : Cond.methodLink RX1 19 yX1_everybody ∈ gtbl := gt_in (in_S_2_4 _ (List.mem_of_getElem? (i := 16) rfl)) rfl
theorem k_456 : Cond.instanceMethod yX1_everybody ∈ gtbl := gt_in (in_S_2_4 _ (List.mem_of_getElem? (i := 17) rfl)) rfl
theorem k_457 : Cond.selects RX1 yX1_everybody yX1_everybody ∈ gtbl := gt_in (in_S_2_4 _ (List.mem_of_getElem? (i := 18) rfl)) rfl
theorem k_458 : Cond.code yX1_everybody cX1_everybody 1 (some .int) ∈ gtbl := gt_in (in_S_2_4 _ (List.mem_of_getElem? (i := 19) rfl)) rfl
theorem k_459 : Cond.methodLink RL 49 yX9_turn ∈ gtbl := gt_in (in_S_2_4 _ (List.mem_of_getElem? (i := 20) rfl)) rfl
theorem k_460 : Cond.instanceMethod yX9_turn ∈ gtbl := gt_in (in_S_2_4 _ (List.mem_of_getElem? (i := 21) rfl)) rfl
theorem k_461 : Cond.selects RX9 yX9_turn yX9_turn ∈ gtbl := gt_in (in_S_2_4 _ (List.mem_of_getElem? (i := 22) rfl)) rfl
theorem k_462 : Cond.code yX9_turn cX9_turn 3 (some .int) ∈ gtbl := gt_in (in_S_2_4 _ (List.mem_of_getElem? (i := 23) rfl)) rfl
theorem k_463 : Cond.methodLink RX9 153 yX4_remember ∈ gtbl := gt_in (in_S_2_4 _ (List.mem_of_getElem? (i := 24) rfl)) rfl
theorem k_464 : Cond.instanceMethod yX4_remember ∈ gtbl := gt_in (in_S_2_4 _ (List.mem_of_getElem? (i := 25) rfl)) rfl
theorem k_465 : Cond.selects RX4 yX4_remember yX4_remember ∈ gtbl := gt_in (in_S_2_4 _ (List.mem_of_getElem? (i := 26) rfl)) rfl
theorem k_466 : Cond.code yX4_remember cX4_remember 3 none ∈ gtbl := gt_in (in_S_2_4 _ (List.mem_of_getElem? (i := 27) rfl)) rfl
theorem k_467 : Cond.methodLink RX4 22 ⟨"java/lang/System", "arraycopy", "(Ljava/lang/Object;ILjava/lang/Object;II)V"⟩ ∈ gtbl := gt_in (in_S_2_4 _ (List.mem_of_getElem? (i := 28) rfl)) rfl
theorem k_468 : Cond.static ⟨"java/lang/System", "arraycopy", "(Ljava/lang/Object;ILjava/lang/Object;II)V"⟩ ∈ gtbl := gt_in (in_S_2_4 _ (List.mem_of_getElem? (i := 29) rfl)) rfl
theorem in_S_2_5 : ∀ w ∈ S_2_5, w ∈ lw_tbl := fun w h => List.mem_append_right _ (List.mem_append_right _ (List.mem_append_left _ (eq_2 ▸ (List.mem_append_right _ (List.mem_append_right _ (List.mem_append_right _ (List.mem_append_right _ (List.mem_append_right _ (List.mem_append_left _ h))))) : w ∈ S_2_0 ++ (S_2_1 ++ (S_2_2 ++ (S_2_3 ++ (S_2_4 ++ (S_2_5 ++ (S_2_6 ++ (S_2_7)))))))))))
theorem k_469 : Cond.native ⟨"java/lang/System", "arraycopy", "(Ljava/lang/Object;ILjava/lang/Object;II)V"⟩ ∈ gtbl := gt_in (in_S_2_5 _ (List.mem_of_getElem? (i := 0) rfl)) rfl
theorem k_470 : Cond.methodLink RX9 157 yX1_flip ∈ gtbl := gt_in (in_S_2_5 _ (List.mem_of_getElem? (i := 1) rfl)) rfl
theorem k_471 : Cond.instanceMethod yX1_flip ∈ gtbl := gt_in (in_S_2_5 _ (List.mem_of_getElem? (i := 2) rfl)) rfl
theorem k_472 : Cond.selects RX1 yX1_flip yX1_flip ∈ gtbl := gt_in (in_S_2_5 _ (List.mem_of_getElem? (i := 3) rfl)) rfl
theorem k_473 : Cond.code yX1_flip cX1_flip 3 none ∈ gtbl := gt_in (in_S_2_5 _ (List.mem_of_getElem? (i := 4) rfl)) rfl
theorem k_474 : Cond.methodLink RX9 160 yX1_winnerOf ∈ gtbl := gt_in (in_S_2_5 _ (List.mem_of_getElem? (i := 5) rfl)) rfl
theorem k_475 : Cond.instanceMethod yX1_winnerOf ∈ gtbl := gt_in (in_S_2_5 _ (List.mem_of_getElem? (i := 6) rfl)) rfl
theorem k_476 : Cond.selects RX1 yX1_winnerOf yX1_winnerOf ∈ gtbl := gt_in (in_S_2_5 _ (List.mem_of_getElem? (i := 7) rfl)) rfl
theorem k_477 : Cond.code yX1_winnerOf cX1_winnerOf 3 (some .int) ∈ gtbl := gt_in (in_S_2_5 _ (List.mem_of_getElem? (i := 8) rfl)) rfl
theorem k_478 : Cond.methodLink RL 53 yX9_join ∈ gtbl := gt_in (in_S_2_5 _ (List.mem_of_getElem? (i := 9) rfl)) rfl
theorem k_479 : Cond.instanceMethod yX9_join ∈ gtbl := gt_in (in_S_2_5 _ (List.mem_of_getElem? (i := 10) rfl)) rfl
theorem k_480 : Cond.selects RX9 yX9_join yX9_join ∈ gtbl := gt_in (in_S_2_5 _ (List.mem_of_getElem? (i := 11) rfl)) rfl
theorem k_481 : Cond.code yX9_join cX9_join 2 (some .int) ∈ gtbl := gt_in (in_S_2_5 _ (List.mem_of_getElem? (i := 12) rfl)) rfl
theorem k_482 : Cond.methodLink RX9 163 yX1_addPlayer ∈ gtbl := gt_in (in_S_2_5 _ (List.mem_of_getElem? (i := 13) rfl)) rfl
theorem k_483 : Cond.instanceMethod yX1_addPlayer ∈ gtbl := gt_in (in_S_2_5 _ (List.mem_of_getElem? (i := 14) rfl)) rfl
theorem k_484 : Cond.selects RX1 yX1_addPlayer yX1_addPlayer ∈ gtbl := gt_in (in_S_2_5 _ (List.mem_of_getElem? (i := 15) rfl)) rfl
theorem k_485 : Cond.code yX1_addPlayer cX1_addPlayer 4 none ∈ gtbl := gt_in (in_S_2_5 _ (List.mem_of_getElem? (i := 16) rfl)) rfl
theorem k_486 : Cond.methodLink RL 57 yX9_drop ∈ gtbl := gt_in (in_S_2_5 _ (List.mem_of_getElem? (i := 17) rfl)) rfl
theorem k_487 : Cond.instanceMethod yX9_drop ∈ gtbl := gt_in (in_S_2_5 _ (List.mem_of_getElem? (i := 18) rfl)) rfl
theorem k_488 : Cond.selects RX9 yX9_drop yX9_drop ∈ gtbl := gt_in (in_S_2_5 _ (List.mem_of_getElem? (i := 19) rfl)) rfl
theorem k_489 : Cond.code yX9_drop cX9_drop 2 (some .int) ∈ gtbl := gt_in (in_S_2_5 _ (List.mem_of_getElem? (i := 20) rfl)) rfl
theorem k_490 : Cond.methodLink RX9 167 yX1_removePlayer ∈ gtbl := gt_in (in_S_2_5 _ (List.mem_of_getElem? (i := 21) rfl)) rfl
theorem k_491 : Cond.instanceMethod yX1_removePlayer ∈ gtbl := gt_in (in_S_2_5 _ (List.mem_of_getElem? (i := 22) rfl)) rfl
theorem k_492 : Cond.selects RX1 yX1_removePlayer yX1_removePlayer ∈ gtbl := gt_in (in_S_2_5 _ (List.mem_of_getElem? (i := 23) rfl)) rfl
theorem k_493 : Cond.code yX1_removePlayer cX1_removePlayer 4 none ∈ gtbl := gt_in (in_S_2_5 _ (List.mem_of_getElem? (i := 24) rfl)) rfl
theorem k_494 : Cond.methodLink RL 61 yX9_set ∈ gtbl := gt_in (in_S_2_5 _ (List.mem_of_getElem? (i := 25) rfl)) rfl
theorem k_495 : Cond.instanceMethod yX9_set ∈ gtbl := gt_in (in_S_2_5 _ (List.mem_of_getElem? (i := 26) rfl)) rfl
theorem k_496 : Cond.selects RX9 yX9_set yX9_set ∈ gtbl := gt_in (in_S_2_5 _ (List.mem_of_getElem? (i := 27) rfl)) rfl
theorem k_497 : Cond.code yX9_set cX9_set 3 (some .int) ∈ gtbl := gt_in (in_S_2_5 _ (List.mem_of_getElem? (i := 28) rfl)) rfl
theorem k_498 : Cond.methodLink RX9 170 yX9_isKind ∈ gtbl := gt_in (in_S_2_5 _ (List.mem_of_getElem? (i := 29) rfl)) rfl
theorem in_S_2_6 : ∀ w ∈ S_2_6, w ∈ lw_tbl := fun w h => List.mem_append_right _ (List.mem_append_right _ (List.mem_append_left _ (eq_2 ▸ (List.mem_append_right _ (List.mem_append_right _ (List.mem_append_right _ (List.mem_append_right _ (List.mem_append_right _ (List.mem_append_right _ (List.mem_append_left _ h)))))) : w ∈ S_2_0 ++ (S_2_1 ++ (S_2_2 ++ (S_2_3 ++ (S_2_4 ++ (S_2_5 ++ (S_2_6 ++ (S_2_7)))))))))))
theorem k_499 : Cond.static yX9_isKind ∈ gtbl := gt_in (in_S_2_6 _ (List.mem_of_getElem? (i := 0) rfl)) rfl
theorem k_500 : Cond.code yX9_isKind cX9_isKind 1 (some .boolean) ∈ gtbl := gt_in (in_S_2_6 _ (List.mem_of_getElem? (i := 1) rfl)) rfl
theorem k_501 : Cond.methodLink RX9 173 yX6_ofKind ∈ gtbl := gt_in (in_S_2_6 _ (List.mem_of_getElem? (i := 2) rfl)) rfl
theorem k_502 : Cond.instanceMethod yX6_ofKind ∈ gtbl := gt_in (in_S_2_6 _ (List.mem_of_getElem? (i := 3) rfl)) rfl
theorem k_503 : Cond.selects RX6 yX6_ofKind yX6_ofKind ∈ gtbl := gt_in (in_S_2_6 _ (List.mem_of_getElem? (i := 4) rfl)) rfl
theorem k_504 : Cond.code yX6_ofKind cX6_ofKind 3 (some .int) ∈ gtbl := gt_in (in_S_2_6 _ (List.mem_of_getElem? (i := 5) rfl)) rfl
theorem k_505 : Cond.methodLink RX6 34 yX6_top ∈ gtbl := gt_in (in_S_2_6 _ (List.mem_of_getElem? (i := 6) rfl)) rfl
theorem k_506 : Cond.instanceMethod yX6_top ∈ gtbl := gt_in (in_S_2_6 _ (List.mem_of_getElem? (i := 7) rfl)) rfl
theorem k_507 : Cond.selects RX6 yX6_top yX6_top ∈ gtbl := gt_in (in_S_2_6 _ (List.mem_of_getElem? (i := 8) rfl)) rfl
theorem k_508 : Cond.code yX6_top cX6_top 3 (some .int) ∈ gtbl := gt_in (in_S_2_6 _ (List.mem_of_getElem? (i := 9) rfl)) rfl
theorem k_510 : Cond.methodLink RX6 81 yX1_beatersOf ∈ gtbl := gt_in (in_S_2_6 _ (List.mem_of_getElem? (i := 11) rfl)) rfl
theorem k_511 : Cond.instanceMethod yX1_beatersOf ∈ gtbl := gt_in (in_S_2_6 _ (List.mem_of_getElem? (i := 12) rfl)) rfl
theorem k_512 : Cond.selects RX1 yX1_beatersOf yX1_beatersOf ∈ gtbl := gt_in (in_S_2_6 _ (List.mem_of_getElem? (i := 13) rfl)) rfl
theorem k_513 : Cond.code yX1_beatersOf cX1_beatersOf 3 (some .int) ∈ gtbl := gt_in (in_S_2_6 _ (List.mem_of_getElem? (i := 14) rfl)) rfl
theorem k_514 : Cond.methodLink RX6 84 yX6_closeNeeds ∈ gtbl := gt_in (in_S_2_6 _ (List.mem_of_getElem? (i := 15) rfl)) rfl
theorem k_515 : Cond.instanceMethod yX6_closeNeeds ∈ gtbl := gt_in (in_S_2_6 _ (List.mem_of_getElem? (i := 16) rfl)) rfl
theorem k_516 : Cond.selects RX6 yX6_closeNeeds yX6_closeNeeds ∈ gtbl := gt_in (in_S_2_6 _ (List.mem_of_getElem? (i := 17) rfl)) rfl
theorem k_517 : Cond.code yX6_closeNeeds cX6_closeNeeds 5 none ∈ gtbl := gt_in (in_S_2_6 _ (List.mem_of_getElem? (i := 18) rfl)) rfl
theorem k_518 : Cond.methodLink RX6 88 yX6_leastClosed ∈ gtbl := gt_in (in_S_2_6 _ (List.mem_of_getElem? (i := 19) rfl)) rfl
theorem k_519 : Cond.instanceMethod yX6_leastClosed ∈ gtbl := gt_in (in_S_2_6 _ (List.mem_of_getElem? (i := 20) rfl)) rfl
theorem k_520 : Cond.selects RX6 yX6_leastClosed yX6_leastClosed ∈ gtbl := gt_in (in_S_2_6 _ (List.mem_of_getElem? (i := 21) rfl)) rfl
theorem k_521 : Cond.code yX6_leastClosed cX6_leastClosed 6 (some .int) ∈ gtbl := gt_in (in_S_2_6 _ (List.mem_of_getElem? (i := 22) rfl)) rfl
theorem k_522 : Cond.methodLink RX6 38 yX6_most ∈ gtbl := gt_in (in_S_2_6 _ (List.mem_of_getElem? (i := 23) rfl)) rfl
theorem k_523 : Cond.instanceMethod yX6_most ∈ gtbl := gt_in (in_S_2_6 _ (List.mem_of_getElem? (i := 24) rfl)) rfl
theorem k_524 : Cond.selects RX6 yX6_most yX6_most ∈ gtbl := gt_in (in_S_2_6 _ (List.mem_of_getElem? (i := 25) rfl)) rfl
theorem k_525 : Cond.code yX6_most cX6_most 6 (some .int) ∈ gtbl := gt_in (in_S_2_6 _ (List.mem_of_getElem? (i := 26) rfl)) rfl
theorem k_526 : Cond.methodLink RX6 94 yJ6_bitCount_0f7a4 ∈ gtbl := gt_in (in_S_2_6 _ (List.mem_of_getElem? (i := 27) rfl)) rfl
theorem k_527 : Cond.methodLink RX6 41 yX6_uncovered ∈ gtbl := gt_in (in_S_2_6 _ (List.mem_of_getElem? (i := 28) rfl)) rfl
theorem k_528 : Cond.instanceMethod yX6_uncovered ∈ gtbl := gt_in (in_S_2_6 _ (List.mem_of_getElem? (i := 29) rfl)) rfl
theorem in_S_2_7 : ∀ w ∈ S_2_7, w ∈ lw_tbl := fun w h => List.mem_append_right _ (List.mem_append_right _ (List.mem_append_left _ (eq_2 ▸ (List.mem_append_right _ (List.mem_append_right _ (List.mem_append_right _ (List.mem_append_right _ (List.mem_append_right _ (List.mem_append_right _ (List.mem_append_right _ (h))))))) : w ∈ S_2_0 ++ (S_2_1 ++ (S_2_2 ++ (S_2_3 ++ (S_2_4 ++ (S_2_5 ++ (S_2_6 ++ (S_2_7)))))))))))
theorem k_529 : Cond.selects RX6 yX6_uncovered yX6_uncovered ∈ gtbl := gt_in (in_S_2_7 _ (List.mem_of_getElem? (i := 0) rfl)) rfl
theorem k_530 : Cond.code yX6_uncovered cX6_uncovered 4 (some .int) ∈ gtbl := gt_in (in_S_2_7 _ (List.mem_of_getElem? (i := 1) rfl)) rfl
theorem k_531 : Cond.methodLink RX6 103 yX6_isCovered ∈ gtbl := gt_in (in_S_2_7 _ (List.mem_of_getElem? (i := 2) rfl)) rfl
theorem k_532 : Cond.instanceMethod yX6_isCovered ∈ gtbl := gt_in (in_S_2_7 _ (List.mem_of_getElem? (i := 3) rfl)) rfl
theorem k_533 : Cond.selects RX6 yX6_isCovered yX6_isCovered ∈ gtbl := gt_in (in_S_2_7 _ (List.mem_of_getElem? (i := 4) rfl)) rfl
theorem k_534 : Cond.code yX6_isCovered cX6_isCovered 4 (some .boolean) ∈ gtbl := gt_in (in_S_2_7 _ (List.mem_of_getElem? (i := 5) rfl)) rfl
theorem k_535 : Cond.methodLink RX6 99 yX6_isCovering ∈ gtbl := gt_in (in_S_2_7 _ (List.mem_of_getElem? (i := 6) rfl)) rfl
theorem k_536 : Cond.instanceMethod yX6_isCovering ∈ gtbl := gt_in (in_S_2_7 _ (List.mem_of_getElem? (i := 7) rfl)) rfl
theorem k_537 : Cond.selects RX6 yX6_isCovering yX6_isCovering ∈ gtbl := gt_in (in_S_2_7 _ (List.mem_of_getElem? (i := 8) rfl)) rfl
theorem k_538 : Cond.code yX6_isCovering cX6_isCovering 5 (some .boolean) ∈ gtbl := gt_in (in_S_2_7 _ (List.mem_of_getElem? (i := 9) rfl)) rfl
theorem k_539 : Cond.methodLink RX6 44 yX6_uncoveredAgain ∈ gtbl := gt_in (in_S_2_7 _ (List.mem_of_getElem? (i := 10) rfl)) rfl
theorem k_540 : Cond.instanceMethod yX6_uncoveredAgain ∈ gtbl := gt_in (in_S_2_7 _ (List.mem_of_getElem? (i := 11) rfl)) rfl
theorem k_541 : Cond.selects RX6 yX6_uncoveredAgain yX6_uncoveredAgain ∈ gtbl := gt_in (in_S_2_7 _ (List.mem_of_getElem? (i := 12) rfl)) rfl
theorem k_542 : Cond.code yX6_uncoveredAgain cX6_uncoveredAgain 4 (some .int) ∈ gtbl := gt_in (in_S_2_7 _ (List.mem_of_getElem? (i := 13) rfl)) rfl
theorem k_543 : Cond.methodLink RX6 47 yX6_banks ∈ gtbl := gt_in (in_S_2_7 _ (List.mem_of_getElem? (i := 14) rfl)) rfl
theorem k_544 : Cond.instanceMethod yX6_banks ∈ gtbl := gt_in (in_S_2_7 _ (List.mem_of_getElem? (i := 15) rfl)) rfl
theorem k_545 : Cond.selects RX6 yX6_banks yX6_banks ∈ gtbl := gt_in (in_S_2_7 _ (List.mem_of_getElem? (i := 16) rfl)) rfl
theorem k_546 : Cond.code yX6_banks cX6_banks 4 (some .int) ∈ gtbl := gt_in (in_S_2_7 _ (List.mem_of_getElem? (i := 17) rfl)) rfl
theorem k_547 : Cond.methodLink RX6 107 yX6_leastChain ∈ gtbl := gt_in (in_S_2_7 _ (List.mem_of_getElem? (i := 18) rfl)) rfl
theorem k_548 : Cond.instanceMethod yX6_leastChain ∈ gtbl := gt_in (in_S_2_7 _ (List.mem_of_getElem? (i := 19) rfl)) rfl
theorem k_549 : Cond.selects RX6 yX6_leastChain yX6_leastChain ∈ gtbl := gt_in (in_S_2_7 _ (List.mem_of_getElem? (i := 20) rfl)) rfl
theorem k_550 : Cond.code yX6_leastChain cX6_leastChain 3 (some .int) ∈ gtbl := gt_in (in_S_2_7 _ (List.mem_of_getElem? (i := 21) rfl)) rfl
theorem k_551 : Cond.methodLink RX6 110 yX6_chainFrom ∈ gtbl := gt_in (in_S_2_7 _ (List.mem_of_getElem? (i := 22) rfl)) rfl
theorem k_552 : Cond.instanceMethod yX6_chainFrom ∈ gtbl := gt_in (in_S_2_7 _ (List.mem_of_getElem? (i := 23) rfl)) rfl
theorem k_553 : Cond.selects RX6 yX6_chainFrom yX6_chainFrom ∈ gtbl := gt_in (in_S_2_7 _ (List.mem_of_getElem? (i := 24) rfl)) rfl
theorem k_554 : Cond.code yX6_chainFrom cX6_chainFrom 6 (some .int) ∈ gtbl := gt_in (in_S_2_7 _ (List.mem_of_getElem? (i := 25) rfl)) rfl
theorem k_555 : Cond.methodLink RX6 50 yX3_firsts ∈ gtbl := gt_in (in_S_2_7 _ (List.mem_of_getElem? (i := 26) rfl)) rfl
theorem k_556 : Cond.instanceMethod yX3_firsts ∈ gtbl := gt_in (in_S_2_7 _ (List.mem_of_getElem? (i := 27) rfl)) rfl
theorem k_557 : Cond.selects RX3 yX3_firsts yX3_firsts ∈ gtbl := gt_in (in_S_2_7 _ (List.mem_of_getElem? (i := 28) rfl)) rfl
theorem k_558 : Cond.code yX3_firsts cX3_firsts 4 (some .int) ∈ gtbl := gt_in (in_S_2_7 _ (List.mem_of_getElem? (i := 29) rfl)) rfl
def S_3_0 : List Cond := [Cond.methodLink RX3 44 yX3_measure, Cond.instanceMethod yX3_measure, Cond.selects RX3 yX3_measure yX3_measure, Cond.code yX3_measure cX3_measure 5 none, (Jvm.Cond.methodLinkNest "DuelRound$Orders" (28 : Nat) ({ cls := "DuelRound", name := "bitOf", desc := "(II)I" } : Jvm.MethodName) "DuelRound"), Cond.methodLink RX3 32 yX3_turnedWithFirst, Cond.instanceMethod yX3_turnedWithFirst, Cond.selects RX3 yX3_turnedWithFirst yX3_turnedWithFirst, Cond.code yX3_turnedWithFirst cX3_turnedWithFirst 4 (some .int), Cond.methodLink RX3 38 yJ6_bitCount_0f7a4, Cond.methodLink RX3 48 yX3_isFirstOfBest, Cond.instanceMethod yX3_isFirstOfBest, Cond.selects RX3 yX3_isFirstOfBest yX3_isFirstOfBest, Cond.code yX3_isFirstOfBest cX3_isFirstOfBest 3 (some .boolean), Cond.methodLink RX6 55 yX6_leastCovering, Cond.instanceMethod yX6_leastCovering, Cond.selects RX6 yX6_leastCovering yX6_leastCovering, Cond.code yX6_leastCovering cX6_leastCovering 5 (some .int), Cond.methodLink RX6 114 yX6_isCoveringSet, Cond.instanceMethod yX6_isCoveringSet, Cond.selects RX6 yX6_isCoveringSet yX6_isCoveringSet, Cond.code yX6_isCoveringSet cX6_isCoveringSet 4 (some .boolean), Cond.methodLink RX6 58 yX8_balance, Cond.instanceMethod yX8_balance, Cond.selects RX8 yX8_balance yX8_balance, Cond.code yX8_balance cX8_balance 3 (some .int), Cond.methodLink RX8 22 yX8_findPfaffians, Cond.instanceMethod yX8_findPfaffians, Cond.selects RX8 yX8_findPfaffians yX8_findPfaffians, Cond.code yX8_findPfaffians cX8_findPfaffians 3 none]
def S_3_1 : List Cond := [Cond.methodLink RX8 26 yJ6_bitCount_0f7a4, Cond.methodLink RX8 43 yX8_pfaffianOf, Cond.instanceMethod yX8_pfaffianOf, Cond.selects RX8 yX8_pfaffianOf yX8_pfaffianOf, Cond.code yX8_pfaffianOf cX8_pfaffianOf 8 (some .int), (Jvm.Cond.methodLinkNest "DuelRound$Weights" (46 : Nat) ({ cls := "DuelRound", name := "lowestOf", desc := "(I)I" } : Jvm.MethodName) "DuelRound"), Cond.static yX9_lowestOf, Cond.code yX9_lowestOf cX9_lowestOf 2 (some .int), Cond.methodLink RX9 176 yX9_bitOf, (Jvm.Cond.methodLinkNest "DuelRound$Weights" (55 : Nat) ({ cls := "DuelRound", name := "bitOf", desc := "(II)I" } : Jvm.MethodName) "DuelRound"), Cond.methodLink RX8 59 yX1_isBeating, Cond.methodLink RX8 32 yX8_shareAmong, Cond.instanceMethod yX8_shareAmong, Cond.selects RX8 yX8_shareAmong yX8_shareAmong, Cond.code yX8_shareAmong cX8_shareAmong 5 (some .boolean), Cond.methodLink RX8 36 yX8_nobodyGains, Cond.instanceMethod yX8_nobodyGains, Cond.selects RX8 yX8_nobodyGains yX8_nobodyGains, Cond.code yX8_nobodyGains cX8_nobodyGains 4 (some .boolean), Cond.methodLink RX8 63 yX8_gainOf, Cond.instanceMethod yX8_gainOf, Cond.selects RX8 yX8_gainOf yX8_gainOf, Cond.code yX8_gainOf cX8_gainOf 5 (some .int), Cond.methodLink RX8 40 yX8_divideShares, Cond.instanceMethod yX8_divideShares, Cond.selects RX8 yX8_divideShares yX8_divideShares, Cond.code yX8_divideShares cX8_divideShares 3 none, Cond.methodLink RX8 67 yX8_commonDivisor, Cond.static yX8_commonDivisor, Cond.code yX8_commonDivisor cX8_commonDivisor 6 (some .int)]
def S_3_2 : List Cond := [Cond.methodLink RX6 63 yX6_keeping, Cond.instanceMethod yX6_keeping, Cond.selects RX6 yX6_keeping yX6_keeping, Cond.code yX6_keeping cX6_keeping 6 (some .int), Cond.methodLink RX6 117 yX1_unbeatenOf, Cond.instanceMethod yX1_unbeatenOf, Cond.selects RX1 yX1_unbeatenOf yX1_unbeatenOf, Cond.code yX1_unbeatenOf cX1_unbeatenOf 3 (some .int), Cond.methodLink RX1 31 yX1_beatersOf, Cond.methodLink RX6 67 yX0_winners, Cond.instanceMethod yX0_winners, Cond.selects RX0 yX0_winners yX0_winners, Cond.code yX0_winners cX0_winners 2 (some .int), Cond.methodLink RX0 19 yJ6_bitCount_0f7a4, Cond.methodLink RX0 25 yX0_putIntoRow, Cond.instanceMethod yX0_putIntoRow, Cond.selects RX0 yX0_putIntoRow yX0_putIntoRow, Cond.code yX0_putIntoRow cX0_putIntoRow 5 (some .int), (Jvm.Cond.methodLinkNest "DuelRound$Cups" (44 : Nat) ({ cls := "DuelRound", name := "bitOf", desc := "(II)I" } : Jvm.MethodName) "DuelRound"), Cond.methodLink RX0 29 yX1_winnerOf, Cond.methodLink RX0 34 yX0_winnersOfFour, Cond.instanceMethod yX0_winnersOfFour, Cond.selects RX0 yX0_winnersOfFour yX0_winnersOfFour, Cond.code yX0_winnersOfFour cX0_winnersOfFour 4 (some .int), Cond.methodLink RX0 47 yX0_winnerByWay, Cond.instanceMethod yX0_winnerByWay, Cond.selects RX0 yX0_winnerByWay yX0_winnerByWay, Cond.code yX0_winnerByWay cX0_winnerByWay 4 (some .int), Cond.methodLink RX0 37 yX0_winnersOfEight, Cond.instanceMethod yX0_winnersOfEight]
def S_3_3 : List Cond := [Cond.selects RX0 yX0_winnersOfEight yX0_winnersOfEight, Cond.code yX0_winnersOfEight cX0_winnersOfEight 6 (some .int), Cond.methodLink RX0 50 yX0_winnersOver, Cond.instanceMethod yX0_winnersOver, Cond.selects RX0 yX0_winnersOver yX0_winnersOver, Cond.code yX0_winnersOver cX0_winnersOver 5 (some .int), Cond.methodLink RL 65 yX9_praised, Cond.instanceMethod yX9_praised, Cond.selects RX9 yX9_praised yX9_praised, Cond.code yX9_praised cX9_praised 5 (some .int), Cond.methodLink RX9 129 yX1_everybody, Cond.methodLink RL 69 yX9_within, Cond.instanceMethod yX9_within, Cond.selects RX9 yX9_within yX9_within, Cond.code yX9_within cX9_within 3 (some .int), Cond.methodLink RX9 179 yX9_countWithin, (Jvm.Cond.privateMethod ({ cls := "DuelRound", name := "countWithin", desc := "()I" } : Jvm.MethodName)), Cond.instanceMethod yX9_countWithin, Cond.code yX9_countWithin cX9_countWithin 4 (some .int), Cond.methodLink RX9 182 yX9_firstLessWithin, (Jvm.Cond.privateMethod ({ cls := "DuelRound", name := "firstLessWithin", desc := "()I" } : Jvm.MethodName)), Cond.instanceMethod yX9_firstLessWithin, Cond.code yX9_firstLessWithin cX9_firstLessWithin 3 (some .int), Cond.methodLink RL 73 yX9_chain, Cond.instanceMethod yX9_chain, Cond.selects RX9 yX9_chain yX9_chain, Cond.code yX9_chain cX9_chain 5 (some .int), Cond.methodLink RX9 185 yX6_leastChain, Cond.methodLink RL 77 yX9_best, Cond.instanceMethod yX9_best]
def S_3_4 : List Cond := [Cond.selects RX9 yX9_best yX9_best, Cond.code yX9_best cX9_best 2 (some .int), Cond.methodLink RX9 191 yX3_fewestTurned, Cond.instanceMethod yX3_fewestTurned, Cond.selects RX3 yX3_fewestTurned yX3_fewestTurned, Cond.code yX3_fewestTurned cX3_fewestTurned 2 (some .int), Cond.methodLink RX9 194 yX3_howMany, Cond.instanceMethod yX3_howMany, Cond.selects RX3 yX3_howMany yX3_howMany, Cond.code yX3_howMany cX3_howMany 2 (some .int), Cond.methodLink RX9 197 yX3_placeInLeast, Cond.instanceMethod yX3_placeInLeast, Cond.selects RX3 yX3_placeInLeast yX3_placeInLeast, Cond.code yX3_placeInLeast cX3_placeInLeast 6 (some .int), Cond.methodLink RX3 52 yX3_leastFirst, Cond.instanceMethod yX3_leastFirst, Cond.selects RX3 yX3_leastFirst yX3_leastFirst, Cond.code yX3_leastFirst cX3_leastFirst 3 (some .int), Cond.methodLink RL 81 yX9_byWins, Cond.instanceMethod yX9_byWins, Cond.selects RX9 yX9_byWins yX9_byWins, Cond.code yX9_byWins cX9_byWins 3 (some .int), Cond.methodLink RX9 200 yX3_turnedByWins, Cond.instanceMethod yX3_turnedByWins, Cond.selects RX3 yX3_turnedByWins yX3_turnedByWins, Cond.code yX3_turnedByWins cX3_turnedByWins 6 (some .int), Cond.methodLink RX3 55 yX1_winnerOf, Cond.methodLink RL 85 yX9_weight, Cond.instanceMethod yX9_weight, Cond.selects RX9 yX9_weight yX9_weight]
def S_3_5 : List Cond := [Cond.code yX9_weight cX9_weight 3 (some .int), Cond.constant RX9 203 (-2147483648), Cond.methodLink RX9 204 yX8_balance, Cond.methodLink RX9 210 yX8_gainOf, Cond.methodLink RL 89 yX9_keeps, Cond.instanceMethod yX9_keeps, Cond.selects RX9 yX9_keeps yX9_keeps, Cond.code yX9_keeps cX9_keeps 3 (some .int), Cond.methodLink RX9 139 yX1_beatersOf, Cond.methodLink RL 93 yX9_is, Cond.instanceMethod yX9_is, Cond.selects RX9 yX9_is yX9_is, Cond.code yX9_is cX9_is 4 (some .int), Cond.methodLink RX9 214 yX6_isCoveringSet, Cond.methodLink RX9 217 yX6_isKeepingSet, Cond.instanceMethod yX6_isKeepingSet, Cond.selects RX6 yX6_isKeepingSet yX6_isKeepingSet, Cond.code yX6_isKeepingSet cX6_isKeepingSet 4 (some .boolean), Cond.methodLink RL 97 yX9_cup, Cond.instanceMethod yX9_cup, Cond.selects RX9 yX9_cup yX9_cup, Cond.code yX9_cup cX9_cup 4 (some .int), Cond.methodLink RX9 220 yX0_fits, Cond.instanceMethod yX0_fits, Cond.selects RX0 yX0_fits yX0_fits, Cond.code yX0_fits cX0_fits 2 (some .boolean), Cond.methodLink RX9 223 yX0_rowsWonBy, Cond.instanceMethod yX0_rowsWonBy, Cond.selects RX0 yX0_rowsWonBy yX0_rowsWonBy, Cond.code yX0_rowsWonBy cX0_rowsWonBy 3 (some .int)]
def S_3_6 : List Cond := [Cond.methodLink RX0 56 yX1_everybody, Cond.methodLink RX0 60 yX0_rowsOfFour, Cond.instanceMethod yX0_rowsOfFour, Cond.selects RX0 yX0_rowsOfFour yX0_rowsOfFour, Cond.code yX0_rowsOfFour cX0_rowsOfFour 5 (some .int), Cond.methodLink RX0 63 yX0_rowsOfEight, Cond.instanceMethod yX0_rowsOfEight, Cond.selects RX0 yX0_rowsOfEight yX0_rowsOfEight, Cond.code yX0_rowsOfEight cX0_rowsOfEight 5 (some .int), Cond.methodLink RX9 226 yX0_leastRowWonBy, Cond.instanceMethod yX0_leastRowWonBy, Cond.selects RX0 yX0_leastRowWonBy yX0_leastRowWonBy, Cond.code yX0_leastRowWonBy cX0_leastRowWonBy 3 (some .int), Cond.methodLink RX0 66 yX0_leastRowOfFour, Cond.instanceMethod yX0_leastRowOfFour, Cond.selects RX0 yX0_leastRowOfFour yX0_leastRowOfFour, Cond.code yX0_leastRowOfFour cX0_leastRowOfFour 6 (some .int), Cond.methodLink RX0 69 yX0_leastRowOfEight, Cond.instanceMethod yX0_leastRowOfEight, Cond.selects RX0 yX0_leastRowOfEight yX0_leastRowOfEight, Cond.code yX0_leastRowOfEight cX0_leastRowOfEight 9 (some .int), Cond.methodLink RX9 229 yX0_placeIn, Cond.instanceMethod yX0_placeIn, Cond.selects RX0 yX0_placeIn yX0_placeIn, Cond.code yX0_placeIn cX0_placeIn 4 (some .int), Cond.methodLink RL 101 yX9_winner, Cond.instanceMethod yX9_winner, Cond.selects RX9 yX9_winner yX9_winner, Cond.code yX9_winner cX9_winner 2 (some .int), Cond.methodLink RX9 233 yX0_playWithFirst]
def S_3_7 : List Cond := [Cond.instanceMethod yX0_playWithFirst, Cond.selects RX0 yX0_playWithFirst yX0_playWithFirst, Cond.code yX0_playWithFirst cX0_playWithFirst 5 (some .int), Cond.methodLink RL 105 yX9_judge, Cond.instanceMethod yX9_judge, Cond.selects RX9 yX9_judge yX9_judge, Cond.code yX9_judge cX9_judge 2 (some .int), Cond.methodLink RX9 236 yX5_readLines, Cond.instanceMethod yX5_readLines, Cond.selects RX5 yX5_readLines yX5_readLines, Cond.code yX5_readLines cX5_readLines 2 (some .int), Cond.methodLink RX5 53 yX5_readLine, Cond.instanceMethod yX5_readLine, Cond.selects RX5 yX5_readLine yX5_readLine, Cond.code yX5_readLine cX5_readLine 2 (some .boolean), Cond.methodLink RX5 57 yX7_next, Cond.methodLink RX5 61 yX5_addSign, Cond.instanceMethod yX5_addSign, Cond.selects RX5 yX5_addSign yX5_addSign, Cond.code yX5_addSign cX5_addSign 2 none, Cond.methodLink RX5 78 yX5_addWord, Cond.instanceMethod yX5_addWord, Cond.selects RX5 yX5_addWord yX5_addWord, Cond.code yX5_addWord cX5_addWord 2 none, Cond.methodLink RX5 65 yX5_readLetter, Cond.instanceMethod yX5_readLetter, Cond.selects RX5 yX5_readLetter yX5_readLetter, Cond.code yX5_readLetter cX5_readLetter 2 (some .boolean), Cond.methodLink RX5 81 yX7_nextLetter, Cond.methodLink RX5 68 yX5_readMoreLetters]
set_option maxRecDepth 100000 in
theorem eq_3 : S_3_0 ++ (S_3_1 ++ (S_3_2 ++ (S_3_3 ++ (S_3_4 ++ (S_3_5 ++ (S_3_6 ++ (S_3_7))))))) = tables_1_3 := rfl
theorem in_S_3_0 : ∀ w ∈ S_3_0, w ∈ lw_tbl := fun w h => List.mem_append_right _ (List.mem_append_right _ (List.mem_append_right _ (List.mem_append_left _ (eq_3 ▸ (List.mem_append_left _ h : w ∈ S_3_0 ++ (S_3_1 ++ (S_3_2 ++ (S_3_3 ++ (S_3_4 ++ (S_3_5 ++ (S_3_6 ++ (S_3_7))))))))))))
theorem k_559 : Cond.methodLink RX3 44 yX3_measure ∈ gtbl := gt_in (in_S_3_0 _ (List.mem_of_getElem? (i := 0) rfl)) rfl
theorem k_560 : Cond.instanceMethod yX3_measure ∈ gtbl := gt_in (in_S_3_0 _ (List.mem_of_getElem? (i := 1) rfl)) rfl
theorem k_561 : Cond.selects RX3 yX3_measure yX3_measure ∈ gtbl := gt_in (in_S_3_0 _ (List.mem_of_getElem? (i := 2) rfl)) rfl
theorem k_562 : Cond.code yX3_measure cX3_measure 5 none ∈ gtbl := gt_in (in_S_3_0 _ (List.mem_of_getElem? (i := 3) rfl)) rfl
theorem k_564 : Cond.methodLink RX3 32 yX3_turnedWithFirst ∈ gtbl := gt_in (in_S_3_0 _ (List.mem_of_getElem? (i := 5) rfl)) rfl
theorem k_565 : Cond.instanceMethod yX3_turnedWithFirst ∈ gtbl := gt_in (in_S_3_0 _ (List.mem_of_getElem? (i := 6) rfl)) rfl
theorem k_566 : Cond.selects RX3 yX3_turnedWithFirst yX3_turnedWithFirst ∈ gtbl := gt_in (in_S_3_0 _ (List.mem_of_getElem? (i := 7) rfl)) rfl
theorem k_567 : Cond.code yX3_turnedWithFirst cX3_turnedWithFirst 4 (some .int) ∈ gtbl := gt_in (in_S_3_0 _ (List.mem_of_getElem? (i := 8) rfl)) rfl
theorem k_568 : Cond.methodLink RX3 38 yJ6_bitCount_0f7a4 ∈ gtbl := gt_in (in_S_3_0 _ (List.mem_of_getElem? (i := 9) rfl)) rfl
theorem k_569 : Cond.methodLink RX3 48 yX3_isFirstOfBest ∈ gtbl := gt_in (in_S_3_0 _ (List.mem_of_getElem? (i := 10) rfl)) rfl
theorem k_570 : Cond.instanceMethod yX3_isFirstOfBest ∈ gtbl := gt_in (in_S_3_0 _ (List.mem_of_getElem? (i := 11) rfl)) rfl
theorem k_571 : Cond.selects RX3 yX3_isFirstOfBest yX3_isFirstOfBest ∈ gtbl := gt_in (in_S_3_0 _ (List.mem_of_getElem? (i := 12) rfl)) rfl
theorem k_572 : Cond.code yX3_isFirstOfBest cX3_isFirstOfBest 3 (some .boolean) ∈ gtbl := gt_in (in_S_3_0 _ (List.mem_of_getElem? (i := 13) rfl)) rfl
theorem k_573 : Cond.methodLink RX6 55 yX6_leastCovering ∈ gtbl := gt_in (in_S_3_0 _ (List.mem_of_getElem? (i := 14) rfl)) rfl
theorem k_574 : Cond.instanceMethod yX6_leastCovering ∈ gtbl := gt_in (in_S_3_0 _ (List.mem_of_getElem? (i := 15) rfl)) rfl
theorem k_575 : Cond.selects RX6 yX6_leastCovering yX6_leastCovering ∈ gtbl := gt_in (in_S_3_0 _ (List.mem_of_getElem? (i := 16) rfl)) rfl
theorem k_576 : Cond.code yX6_leastCovering cX6_leastCovering 5 (some .int) ∈ gtbl := gt_in (in_S_3_0 _ (List.mem_of_getElem? (i := 17) rfl)) rfl
theorem k_577 : Cond.methodLink RX6 114 yX6_isCoveringSet ∈ gtbl := gt_in (in_S_3_0 _ (List.mem_of_getElem? (i := 18) rfl)) rfl
theorem k_578 : Cond.instanceMethod yX6_isCoveringSet ∈ gtbl := gt_in (in_S_3_0 _ (List.mem_of_getElem? (i := 19) rfl)) rfl
theorem k_579 : Cond.selects RX6 yX6_isCoveringSet yX6_isCoveringSet ∈ gtbl := gt_in (in_S_3_0 _ (List.mem_of_getElem? (i := 20) rfl)) rfl
theorem k_580 : Cond.code yX6_isCoveringSet cX6_isCoveringSet 4 (some .boolean) ∈ gtbl := gt_in (in_S_3_0 _ (List.mem_of_getElem? (i := 21) rfl)) rfl
theorem k_581 : Cond.methodLink RX6 58 yX8_balance ∈ gtbl := gt_in (in_S_3_0 _ (List.mem_of_getElem? (i := 22) rfl)) rfl
theorem k_582 : Cond.instanceMethod yX8_balance ∈ gtbl := gt_in (in_S_3_0 _ (List.mem_of_getElem? (i := 23) rfl)) rfl
theorem k_583 : Cond.selects RX8 yX8_balance yX8_balance ∈ gtbl := gt_in (in_S_3_0 _ (List.mem_of_getElem? (i := 24) rfl)) rfl
theorem k_584 : Cond.code yX8_balance cX8_balance 3 (some .int) ∈ gtbl := gt_in (in_S_3_0 _ (List.mem_of_getElem? (i := 25) rfl)) rfl
theorem k_585 : Cond.methodLink RX8 22 yX8_findPfaffians ∈ gtbl := gt_in (in_S_3_0 _ (List.mem_of_getElem? (i := 26) rfl)) rfl
theorem k_586 : Cond.instanceMethod yX8_findPfaffians ∈ gtbl := gt_in (in_S_3_0 _ (List.mem_of_getElem? (i := 27) rfl)) rfl
theorem k_587 : Cond.selects RX8 yX8_findPfaffians yX8_findPfaffians ∈ gtbl := gt_in (in_S_3_0 _ (List.mem_of_getElem? (i := 28) rfl)) rfl
theorem k_588 : Cond.code yX8_findPfaffians cX8_findPfaffians 3 none ∈ gtbl := gt_in (in_S_3_0 _ (List.mem_of_getElem? (i := 29) rfl)) rfl
theorem in_S_3_1 : ∀ w ∈ S_3_1, w ∈ lw_tbl := fun w h => List.mem_append_right _ (List.mem_append_right _ (List.mem_append_right _ (List.mem_append_left _ (eq_3 ▸ (List.mem_append_right _ (List.mem_append_left _ h) : w ∈ S_3_0 ++ (S_3_1 ++ (S_3_2 ++ (S_3_3 ++ (S_3_4 ++ (S_3_5 ++ (S_3_6 ++ (S_3_7))))))))))))
theorem k_589 : Cond.methodLink RX8 26 yJ6_bitCount_0f7a4 ∈ gtbl := gt_in (in_S_3_1 _ (List.mem_of_getElem? (i := 0) rfl)) rfl
theorem k_590 : Cond.methodLink RX8 43 yX8_pfaffianOf ∈ gtbl := gt_in (in_S_3_1 _ (List.mem_of_getElem? (i := 1) rfl)) rfl
theorem k_591 : Cond.instanceMethod yX8_pfaffianOf ∈ gtbl := gt_in (in_S_3_1 _ (List.mem_of_getElem? (i := 2) rfl)) rfl
theorem k_592 : Cond.selects RX8 yX8_pfaffianOf yX8_pfaffianOf ∈ gtbl := gt_in (in_S_3_1 _ (List.mem_of_getElem? (i := 3) rfl)) rfl
theorem k_593 : Cond.code yX8_pfaffianOf cX8_pfaffianOf 8 (some .int) ∈ gtbl := gt_in (in_S_3_1 _ (List.mem_of_getElem? (i := 4) rfl)) rfl
theorem k_595 : Cond.static yX9_lowestOf ∈ gtbl := gt_in (in_S_3_1 _ (List.mem_of_getElem? (i := 6) rfl)) rfl
theorem k_596 : Cond.code yX9_lowestOf cX9_lowestOf 2 (some .int) ∈ gtbl := gt_in (in_S_3_1 _ (List.mem_of_getElem? (i := 7) rfl)) rfl
theorem k_597 : Cond.methodLink RX9 176 yX9_bitOf ∈ gtbl := gt_in (in_S_3_1 _ (List.mem_of_getElem? (i := 8) rfl)) rfl
theorem k_599 : Cond.methodLink RX8 59 yX1_isBeating ∈ gtbl := gt_in (in_S_3_1 _ (List.mem_of_getElem? (i := 10) rfl)) rfl
theorem k_600 : Cond.methodLink RX8 32 yX8_shareAmong ∈ gtbl := gt_in (in_S_3_1 _ (List.mem_of_getElem? (i := 11) rfl)) rfl
theorem k_601 : Cond.instanceMethod yX8_shareAmong ∈ gtbl := gt_in (in_S_3_1 _ (List.mem_of_getElem? (i := 12) rfl)) rfl
theorem k_602 : Cond.selects RX8 yX8_shareAmong yX8_shareAmong ∈ gtbl := gt_in (in_S_3_1 _ (List.mem_of_getElem? (i := 13) rfl)) rfl
theorem k_603 : Cond.code yX8_shareAmong cX8_shareAmong 5 (some .boolean) ∈ gtbl := gt_in (in_S_3_1 _ (List.mem_of_getElem? (i := 14) rfl)) rfl
theorem k_604 : Cond.methodLink RX8 36 yX8_nobodyGains ∈ gtbl := gt_in (in_S_3_1 _ (List.mem_of_getElem? (i := 15) rfl)) rfl
theorem k_605 : Cond.instanceMethod yX8_nobodyGains ∈ gtbl := gt_in (in_S_3_1 _ (List.mem_of_getElem? (i := 16) rfl)) rfl
theorem k_606 : Cond.selects RX8 yX8_nobodyGains yX8_nobodyGains ∈ gtbl := gt_in (in_S_3_1 _ (List.mem_of_getElem? (i := 17) rfl)) rfl
theorem k_607 : Cond.code yX8_nobodyGains cX8_nobodyGains 4 (some .boolean) ∈ gtbl := gt_in (in_S_3_1 _ (List.mem_of_getElem? (i := 18) rfl)) rfl
theorem k_608 : Cond.methodLink RX8 63 yX8_gainOf ∈ gtbl := gt_in (in_S_3_1 _ (List.mem_of_getElem? (i := 19) rfl)) rfl
theorem k_609 : Cond.instanceMethod yX8_gainOf ∈ gtbl := gt_in (in_S_3_1 _ (List.mem_of_getElem? (i := 20) rfl)) rfl
theorem k_610 : Cond.selects RX8 yX8_gainOf yX8_gainOf ∈ gtbl := gt_in (in_S_3_1 _ (List.mem_of_getElem? (i := 21) rfl)) rfl
theorem k_611 : Cond.code yX8_gainOf cX8_gainOf 5 (some .int) ∈ gtbl := gt_in (in_S_3_1 _ (List.mem_of_getElem? (i := 22) rfl)) rfl
theorem k_612 : Cond.methodLink RX8 40 yX8_divideShares ∈ gtbl := gt_in (in_S_3_1 _ (List.mem_of_getElem? (i := 23) rfl)) rfl
theorem k_613 : Cond.instanceMethod yX8_divideShares ∈ gtbl := gt_in (in_S_3_1 _ (List.mem_of_getElem? (i := 24) rfl)) rfl
theorem k_614 : Cond.selects RX8 yX8_divideShares yX8_divideShares ∈ gtbl := gt_in (in_S_3_1 _ (List.mem_of_getElem? (i := 25) rfl)) rfl
theorem k_615 : Cond.code yX8_divideShares cX8_divideShares 3 none ∈ gtbl := gt_in (in_S_3_1 _ (List.mem_of_getElem? (i := 26) rfl)) rfl
theorem k_616 : Cond.methodLink RX8 67 yX8_commonDivisor ∈ gtbl := gt_in (in_S_3_1 _ (List.mem_of_getElem? (i := 27) rfl)) rfl
theorem k_617 : Cond.static yX8_commonDivisor ∈ gtbl := gt_in (in_S_3_1 _ (List.mem_of_getElem? (i := 28) rfl)) rfl
theorem k_618 : Cond.code yX8_commonDivisor cX8_commonDivisor 6 (some .int) ∈ gtbl := gt_in (in_S_3_1 _ (List.mem_of_getElem? (i := 29) rfl)) rfl
theorem in_S_3_2 : ∀ w ∈ S_3_2, w ∈ lw_tbl := fun w h => List.mem_append_right _ (List.mem_append_right _ (List.mem_append_right _ (List.mem_append_left _ (eq_3 ▸ (List.mem_append_right _ (List.mem_append_right _ (List.mem_append_left _ h)) : w ∈ S_3_0 ++ (S_3_1 ++ (S_3_2 ++ (S_3_3 ++ (S_3_4 ++ (S_3_5 ++ (S_3_6 ++ (S_3_7))))))))))))
theorem k_619 : Cond.methodLink RX6 63 yX6_keeping ∈ gtbl := gt_in (in_S_3_2 _ (List.mem_of_getElem? (i := 0) rfl)) rfl
theorem k_620 : Cond.instanceMethod yX6_keeping ∈ gtbl := gt_in (in_S_3_2 _ (List.mem_of_getElem? (i := 1) rfl)) rfl
theorem k_621 : Cond.selects RX6 yX6_keeping yX6_keeping ∈ gtbl := gt_in (in_S_3_2 _ (List.mem_of_getElem? (i := 2) rfl)) rfl
theorem k_622 : Cond.code yX6_keeping cX6_keeping 6 (some .int) ∈ gtbl := gt_in (in_S_3_2 _ (List.mem_of_getElem? (i := 3) rfl)) rfl
theorem k_623 : Cond.methodLink RX6 117 yX1_unbeatenOf ∈ gtbl := gt_in (in_S_3_2 _ (List.mem_of_getElem? (i := 4) rfl)) rfl
theorem k_624 : Cond.instanceMethod yX1_unbeatenOf ∈ gtbl := gt_in (in_S_3_2 _ (List.mem_of_getElem? (i := 5) rfl)) rfl
theorem k_625 : Cond.selects RX1 yX1_unbeatenOf yX1_unbeatenOf ∈ gtbl := gt_in (in_S_3_2 _ (List.mem_of_getElem? (i := 6) rfl)) rfl
theorem k_626 : Cond.code yX1_unbeatenOf cX1_unbeatenOf 3 (some .int) ∈ gtbl := gt_in (in_S_3_2 _ (List.mem_of_getElem? (i := 7) rfl)) rfl
theorem k_627 : Cond.methodLink RX1 31 yX1_beatersOf ∈ gtbl := gt_in (in_S_3_2 _ (List.mem_of_getElem? (i := 8) rfl)) rfl
theorem k_628 : Cond.methodLink RX6 67 yX0_winners ∈ gtbl := gt_in (in_S_3_2 _ (List.mem_of_getElem? (i := 9) rfl)) rfl
theorem k_629 : Cond.instanceMethod yX0_winners ∈ gtbl := gt_in (in_S_3_2 _ (List.mem_of_getElem? (i := 10) rfl)) rfl
theorem k_630 : Cond.selects RX0 yX0_winners yX0_winners ∈ gtbl := gt_in (in_S_3_2 _ (List.mem_of_getElem? (i := 11) rfl)) rfl
theorem k_631 : Cond.code yX0_winners cX0_winners 2 (some .int) ∈ gtbl := gt_in (in_S_3_2 _ (List.mem_of_getElem? (i := 12) rfl)) rfl
theorem k_632 : Cond.methodLink RX0 19 yJ6_bitCount_0f7a4 ∈ gtbl := gt_in (in_S_3_2 _ (List.mem_of_getElem? (i := 13) rfl)) rfl
theorem k_633 : Cond.methodLink RX0 25 yX0_putIntoRow ∈ gtbl := gt_in (in_S_3_2 _ (List.mem_of_getElem? (i := 14) rfl)) rfl
theorem k_634 : Cond.instanceMethod yX0_putIntoRow ∈ gtbl := gt_in (in_S_3_2 _ (List.mem_of_getElem? (i := 15) rfl)) rfl
theorem k_635 : Cond.selects RX0 yX0_putIntoRow yX0_putIntoRow ∈ gtbl := gt_in (in_S_3_2 _ (List.mem_of_getElem? (i := 16) rfl)) rfl
theorem k_636 : Cond.code yX0_putIntoRow cX0_putIntoRow 5 (some .int) ∈ gtbl := gt_in (in_S_3_2 _ (List.mem_of_getElem? (i := 17) rfl)) rfl
theorem k_638 : Cond.methodLink RX0 29 yX1_winnerOf ∈ gtbl := gt_in (in_S_3_2 _ (List.mem_of_getElem? (i := 19) rfl)) rfl
theorem k_639 : Cond.methodLink RX0 34 yX0_winnersOfFour ∈ gtbl := gt_in (in_S_3_2 _ (List.mem_of_getElem? (i := 20) rfl)) rfl
theorem k_640 : Cond.instanceMethod yX0_winnersOfFour ∈ gtbl := gt_in (in_S_3_2 _ (List.mem_of_getElem? (i := 21) rfl)) rfl
theorem k_641 : Cond.selects RX0 yX0_winnersOfFour yX0_winnersOfFour ∈ gtbl := gt_in (in_S_3_2 _ (List.mem_of_getElem? (i := 22) rfl)) rfl
theorem k_642 : Cond.code yX0_winnersOfFour cX0_winnersOfFour 4 (some .int) ∈ gtbl := gt_in (in_S_3_2 _ (List.mem_of_getElem? (i := 23) rfl)) rfl
theorem k_643 : Cond.methodLink RX0 47 yX0_winnerByWay ∈ gtbl := gt_in (in_S_3_2 _ (List.mem_of_getElem? (i := 24) rfl)) rfl
theorem k_644 : Cond.instanceMethod yX0_winnerByWay ∈ gtbl := gt_in (in_S_3_2 _ (List.mem_of_getElem? (i := 25) rfl)) rfl
theorem k_645 : Cond.selects RX0 yX0_winnerByWay yX0_winnerByWay ∈ gtbl := gt_in (in_S_3_2 _ (List.mem_of_getElem? (i := 26) rfl)) rfl
theorem k_646 : Cond.code yX0_winnerByWay cX0_winnerByWay 4 (some .int) ∈ gtbl := gt_in (in_S_3_2 _ (List.mem_of_getElem? (i := 27) rfl)) rfl
theorem k_647 : Cond.methodLink RX0 37 yX0_winnersOfEight ∈ gtbl := gt_in (in_S_3_2 _ (List.mem_of_getElem? (i := 28) rfl)) rfl
theorem k_648 : Cond.instanceMethod yX0_winnersOfEight ∈ gtbl := gt_in (in_S_3_2 _ (List.mem_of_getElem? (i := 29) rfl)) rfl
theorem in_S_3_3 : ∀ w ∈ S_3_3, w ∈ lw_tbl := fun w h => List.mem_append_right _ (List.mem_append_right _ (List.mem_append_right _ (List.mem_append_left _ (eq_3 ▸ (List.mem_append_right _ (List.mem_append_right _ (List.mem_append_right _ (List.mem_append_left _ h))) : w ∈ S_3_0 ++ (S_3_1 ++ (S_3_2 ++ (S_3_3 ++ (S_3_4 ++ (S_3_5 ++ (S_3_6 ++ (S_3_7))))))))))))
theorem k_649 : Cond.selects RX0 yX0_winnersOfEight yX0_winnersOfEight ∈ gtbl := gt_in (in_S_3_3 _ (List.mem_of_getElem? (i := 0) rfl)) rfl
theorem k_650 : Cond.code yX0_winnersOfEight cX0_winnersOfEight 6 (some .int) ∈ gtbl := gt_in (in_S_3_3 _ (List.mem_of_getElem? (i := 1) rfl)) rfl
theorem k_651 : Cond.methodLink RX0 50 yX0_winnersOver ∈ gtbl := gt_in (in_S_3_3 _ (List.mem_of_getElem? (i := 2) rfl)) rfl
theorem k_652 : Cond.instanceMethod yX0_winnersOver ∈ gtbl := gt_in (in_S_3_3 _ (List.mem_of_getElem? (i := 3) rfl)) rfl
theorem k_653 : Cond.selects RX0 yX0_winnersOver yX0_winnersOver ∈ gtbl := gt_in (in_S_3_3 _ (List.mem_of_getElem? (i := 4) rfl)) rfl
theorem k_654 : Cond.code yX0_winnersOver cX0_winnersOver 5 (some .int) ∈ gtbl := gt_in (in_S_3_3 _ (List.mem_of_getElem? (i := 5) rfl)) rfl
theorem k_655 : Cond.methodLink RL 65 yX9_praised ∈ gtbl := gt_in (in_S_3_3 _ (List.mem_of_getElem? (i := 6) rfl)) rfl
theorem k_656 : Cond.instanceMethod yX9_praised ∈ gtbl := gt_in (in_S_3_3 _ (List.mem_of_getElem? (i := 7) rfl)) rfl
theorem k_657 : Cond.selects RX9 yX9_praised yX9_praised ∈ gtbl := gt_in (in_S_3_3 _ (List.mem_of_getElem? (i := 8) rfl)) rfl
theorem k_658 : Cond.code yX9_praised cX9_praised 5 (some .int) ∈ gtbl := gt_in (in_S_3_3 _ (List.mem_of_getElem? (i := 9) rfl)) rfl
theorem k_659 : Cond.methodLink RX9 129 yX1_everybody ∈ gtbl := gt_in (in_S_3_3 _ (List.mem_of_getElem? (i := 10) rfl)) rfl
theorem k_660 : Cond.methodLink RL 69 yX9_within ∈ gtbl := gt_in (in_S_3_3 _ (List.mem_of_getElem? (i := 11) rfl)) rfl
theorem k_661 : Cond.instanceMethod yX9_within ∈ gtbl := gt_in (in_S_3_3 _ (List.mem_of_getElem? (i := 12) rfl)) rfl
theorem k_662 : Cond.selects RX9 yX9_within yX9_within ∈ gtbl := gt_in (in_S_3_3 _ (List.mem_of_getElem? (i := 13) rfl)) rfl
theorem k_663 : Cond.code yX9_within cX9_within 3 (some .int) ∈ gtbl := gt_in (in_S_3_3 _ (List.mem_of_getElem? (i := 14) rfl)) rfl
theorem k_664 : Cond.methodLink RX9 179 yX9_countWithin ∈ gtbl := gt_in (in_S_3_3 _ (List.mem_of_getElem? (i := 15) rfl)) rfl
theorem k_666 : Cond.instanceMethod yX9_countWithin ∈ gtbl := gt_in (in_S_3_3 _ (List.mem_of_getElem? (i := 17) rfl)) rfl
theorem k_667 : Cond.code yX9_countWithin cX9_countWithin 4 (some .int) ∈ gtbl := gt_in (in_S_3_3 _ (List.mem_of_getElem? (i := 18) rfl)) rfl
theorem k_668 : Cond.methodLink RX9 182 yX9_firstLessWithin ∈ gtbl := gt_in (in_S_3_3 _ (List.mem_of_getElem? (i := 19) rfl)) rfl
theorem k_670 : Cond.instanceMethod yX9_firstLessWithin ∈ gtbl := gt_in (in_S_3_3 _ (List.mem_of_getElem? (i := 21) rfl)) rfl
theorem k_671 : Cond.code yX9_firstLessWithin cX9_firstLessWithin 3 (some .int) ∈ gtbl := gt_in (in_S_3_3 _ (List.mem_of_getElem? (i := 22) rfl)) rfl
theorem k_672 : Cond.methodLink RL 73 yX9_chain ∈ gtbl := gt_in (in_S_3_3 _ (List.mem_of_getElem? (i := 23) rfl)) rfl
theorem k_673 : Cond.instanceMethod yX9_chain ∈ gtbl := gt_in (in_S_3_3 _ (List.mem_of_getElem? (i := 24) rfl)) rfl
theorem k_674 : Cond.selects RX9 yX9_chain yX9_chain ∈ gtbl := gt_in (in_S_3_3 _ (List.mem_of_getElem? (i := 25) rfl)) rfl
theorem k_675 : Cond.code yX9_chain cX9_chain 5 (some .int) ∈ gtbl := gt_in (in_S_3_3 _ (List.mem_of_getElem? (i := 26) rfl)) rfl
theorem k_676 : Cond.methodLink RX9 185 yX6_leastChain ∈ gtbl := gt_in (in_S_3_3 _ (List.mem_of_getElem? (i := 27) rfl)) rfl
theorem k_677 : Cond.methodLink RL 77 yX9_best ∈ gtbl := gt_in (in_S_3_3 _ (List.mem_of_getElem? (i := 28) rfl)) rfl
theorem k_678 : Cond.instanceMethod yX9_best ∈ gtbl := gt_in (in_S_3_3 _ (List.mem_of_getElem? (i := 29) rfl)) rfl
theorem in_S_3_4 : ∀ w ∈ S_3_4, w ∈ lw_tbl := fun w h => List.mem_append_right _ (List.mem_append_right _ (List.mem_append_right _ (List.mem_append_left _ (eq_3 ▸ (List.mem_append_right _ (List.mem_append_right _ (List.mem_append_right _ (List.mem_append_right _ (List.mem_append_left _ h)))) : w ∈ S_3_0 ++ (S_3_1 ++ (S_3_2 ++ (S_3_3 ++ (S_3_4 ++ (S_3_5 ++ (S_3_6 ++ (S_3_7))))))))))))
theorem k_679 : Cond.selects RX9 yX9_best yX9_best ∈ gtbl := gt_in (in_S_3_4 _ (List.mem_of_getElem? (i := 0) rfl)) rfl
theorem k_680 : Cond.code yX9_best cX9_best 2 (some .int) ∈ gtbl := gt_in (in_S_3_4 _ (List.mem_of_getElem? (i := 1) rfl)) rfl
theorem k_681 : Cond.methodLink RX9 191 yX3_fewestTurned ∈ gtbl := gt_in (in_S_3_4 _ (List.mem_of_getElem? (i := 2) rfl)) rfl
theorem k_682 : Cond.instanceMethod yX3_fewestTurned ∈ gtbl := gt_in (in_S_3_4 _ (List.mem_of_getElem? (i := 3) rfl)) rfl
theorem k_683 : Cond.selects RX3 yX3_fewestTurned yX3_fewestTurned ∈ gtbl := gt_in (in_S_3_4 _ (List.mem_of_getElem? (i := 4) rfl)) rfl
theorem k_684 : Cond.code yX3_fewestTurned cX3_fewestTurned 2 (some .int) ∈ gtbl := gt_in (in_S_3_4 _ (List.mem_of_getElem? (i := 5) rfl)) rfl
theorem k_685 : Cond.methodLink RX9 194 yX3_howMany ∈ gtbl := gt_in (in_S_3_4 _ (List.mem_of_getElem? (i := 6) rfl)) rfl
theorem k_686 : Cond.instanceMethod yX3_howMany ∈ gtbl := gt_in (in_S_3_4 _ (List.mem_of_getElem? (i := 7) rfl)) rfl
theorem k_687 : Cond.selects RX3 yX3_howMany yX3_howMany ∈ gtbl := gt_in (in_S_3_4 _ (List.mem_of_getElem? (i := 8) rfl)) rfl
theorem k_688 : Cond.code yX3_howMany cX3_howMany 2 (some .int) ∈ gtbl := gt_in (in_S_3_4 _ (List.mem_of_getElem? (i := 9) rfl)) rfl
theorem k_689 : Cond.methodLink RX9 197 yX3_placeInLeast ∈ gtbl := gt_in (in_S_3_4 _ (List.mem_of_getElem? (i := 10) rfl)) rfl
theorem k_690 : Cond.instanceMethod yX3_placeInLeast ∈ gtbl := gt_in (in_S_3_4 _ (List.mem_of_getElem? (i := 11) rfl)) rfl
theorem k_691 : Cond.selects RX3 yX3_placeInLeast yX3_placeInLeast ∈ gtbl := gt_in (in_S_3_4 _ (List.mem_of_getElem? (i := 12) rfl)) rfl
theorem k_692 : Cond.code yX3_placeInLeast cX3_placeInLeast 6 (some .int) ∈ gtbl := gt_in (in_S_3_4 _ (List.mem_of_getElem? (i := 13) rfl)) rfl
theorem k_693 : Cond.methodLink RX3 52 yX3_leastFirst ∈ gtbl := gt_in (in_S_3_4 _ (List.mem_of_getElem? (i := 14) rfl)) rfl
theorem k_694 : Cond.instanceMethod yX3_leastFirst ∈ gtbl := gt_in (in_S_3_4 _ (List.mem_of_getElem? (i := 15) rfl)) rfl
theorem k_695 : Cond.selects RX3 yX3_leastFirst yX3_leastFirst ∈ gtbl := gt_in (in_S_3_4 _ (List.mem_of_getElem? (i := 16) rfl)) rfl
theorem k_696 : Cond.code yX3_leastFirst cX3_leastFirst 3 (some .int) ∈ gtbl := gt_in (in_S_3_4 _ (List.mem_of_getElem? (i := 17) rfl)) rfl
theorem k_697 : Cond.methodLink RL 81 yX9_byWins ∈ gtbl := gt_in (in_S_3_4 _ (List.mem_of_getElem? (i := 18) rfl)) rfl
theorem k_698 : Cond.instanceMethod yX9_byWins ∈ gtbl := gt_in (in_S_3_4 _ (List.mem_of_getElem? (i := 19) rfl)) rfl
theorem k_699 : Cond.selects RX9 yX9_byWins yX9_byWins ∈ gtbl := gt_in (in_S_3_4 _ (List.mem_of_getElem? (i := 20) rfl)) rfl
theorem k_700 : Cond.code yX9_byWins cX9_byWins 3 (some .int) ∈ gtbl := gt_in (in_S_3_4 _ (List.mem_of_getElem? (i := 21) rfl)) rfl
theorem k_701 : Cond.methodLink RX9 200 yX3_turnedByWins ∈ gtbl := gt_in (in_S_3_4 _ (List.mem_of_getElem? (i := 22) rfl)) rfl
theorem k_702 : Cond.instanceMethod yX3_turnedByWins ∈ gtbl := gt_in (in_S_3_4 _ (List.mem_of_getElem? (i := 23) rfl)) rfl
theorem k_703 : Cond.selects RX3 yX3_turnedByWins yX3_turnedByWins ∈ gtbl := gt_in (in_S_3_4 _ (List.mem_of_getElem? (i := 24) rfl)) rfl
theorem k_704 : Cond.code yX3_turnedByWins cX3_turnedByWins 6 (some .int) ∈ gtbl := gt_in (in_S_3_4 _ (List.mem_of_getElem? (i := 25) rfl)) rfl
theorem k_705 : Cond.methodLink RX3 55 yX1_winnerOf ∈ gtbl := gt_in (in_S_3_4 _ (List.mem_of_getElem? (i := 26) rfl)) rfl
theorem k_706 : Cond.methodLink RL 85 yX9_weight ∈ gtbl := gt_in (in_S_3_4 _ (List.mem_of_getElem? (i := 27) rfl)) rfl
theorem k_707 : Cond.instanceMethod yX9_weight ∈ gtbl := gt_in (in_S_3_4 _ (List.mem_of_getElem? (i := 28) rfl)) rfl
theorem k_708 : Cond.selects RX9 yX9_weight yX9_weight ∈ gtbl := gt_in (in_S_3_4 _ (List.mem_of_getElem? (i := 29) rfl)) rfl
theorem in_S_3_5 : ∀ w ∈ S_3_5, w ∈ lw_tbl := fun w h => List.mem_append_right _ (List.mem_append_right _ (List.mem_append_right _ (List.mem_append_left _ (eq_3 ▸ (List.mem_append_right _ (List.mem_append_right _ (List.mem_append_right _ (List.mem_append_right _ (List.mem_append_right _ (List.mem_append_left _ h))))) : w ∈ S_3_0 ++ (S_3_1 ++ (S_3_2 ++ (S_3_3 ++ (S_3_4 ++ (S_3_5 ++ (S_3_6 ++ (S_3_7))))))))))))
theorem k_709 : Cond.code yX9_weight cX9_weight 3 (some .int) ∈ gtbl := gt_in (in_S_3_5 _ (List.mem_of_getElem? (i := 0) rfl)) rfl
theorem k_710 : Cond.constant RX9 203 (-2147483648) ∈ gtbl := gt_in (in_S_3_5 _ (List.mem_of_getElem? (i := 1) rfl)) rfl
theorem k_711 : Cond.methodLink RX9 204 yX8_balance ∈ gtbl := gt_in (in_S_3_5 _ (List.mem_of_getElem? (i := 2) rfl)) rfl
theorem k_712 : Cond.methodLink RX9 210 yX8_gainOf ∈ gtbl := gt_in (in_S_3_5 _ (List.mem_of_getElem? (i := 3) rfl)) rfl
theorem k_713 : Cond.methodLink RL 89 yX9_keeps ∈ gtbl := gt_in (in_S_3_5 _ (List.mem_of_getElem? (i := 4) rfl)) rfl
theorem k_714 : Cond.instanceMethod yX9_keeps ∈ gtbl := gt_in (in_S_3_5 _ (List.mem_of_getElem? (i := 5) rfl)) rfl
theorem k_715 : Cond.selects RX9 yX9_keeps yX9_keeps ∈ gtbl := gt_in (in_S_3_5 _ (List.mem_of_getElem? (i := 6) rfl)) rfl
theorem k_716 : Cond.code yX9_keeps cX9_keeps 3 (some .int) ∈ gtbl := gt_in (in_S_3_5 _ (List.mem_of_getElem? (i := 7) rfl)) rfl
theorem k_717 : Cond.methodLink RX9 139 yX1_beatersOf ∈ gtbl := gt_in (in_S_3_5 _ (List.mem_of_getElem? (i := 8) rfl)) rfl
theorem k_718 : Cond.methodLink RL 93 yX9_is ∈ gtbl := gt_in (in_S_3_5 _ (List.mem_of_getElem? (i := 9) rfl)) rfl
theorem k_719 : Cond.instanceMethod yX9_is ∈ gtbl := gt_in (in_S_3_5 _ (List.mem_of_getElem? (i := 10) rfl)) rfl
theorem k_720 : Cond.selects RX9 yX9_is yX9_is ∈ gtbl := gt_in (in_S_3_5 _ (List.mem_of_getElem? (i := 11) rfl)) rfl
theorem k_721 : Cond.code yX9_is cX9_is 4 (some .int) ∈ gtbl := gt_in (in_S_3_5 _ (List.mem_of_getElem? (i := 12) rfl)) rfl
theorem k_722 : Cond.methodLink RX9 214 yX6_isCoveringSet ∈ gtbl := gt_in (in_S_3_5 _ (List.mem_of_getElem? (i := 13) rfl)) rfl
theorem k_723 : Cond.methodLink RX9 217 yX6_isKeepingSet ∈ gtbl := gt_in (in_S_3_5 _ (List.mem_of_getElem? (i := 14) rfl)) rfl
theorem k_724 : Cond.instanceMethod yX6_isKeepingSet ∈ gtbl := gt_in (in_S_3_5 _ (List.mem_of_getElem? (i := 15) rfl)) rfl
theorem k_725 : Cond.selects RX6 yX6_isKeepingSet yX6_isKeepingSet ∈ gtbl := gt_in (in_S_3_5 _ (List.mem_of_getElem? (i := 16) rfl)) rfl
theorem k_726 : Cond.code yX6_isKeepingSet cX6_isKeepingSet 4 (some .boolean) ∈ gtbl := gt_in (in_S_3_5 _ (List.mem_of_getElem? (i := 17) rfl)) rfl
theorem k_727 : Cond.methodLink RL 97 yX9_cup ∈ gtbl := gt_in (in_S_3_5 _ (List.mem_of_getElem? (i := 18) rfl)) rfl
theorem k_728 : Cond.instanceMethod yX9_cup ∈ gtbl := gt_in (in_S_3_5 _ (List.mem_of_getElem? (i := 19) rfl)) rfl
theorem k_729 : Cond.selects RX9 yX9_cup yX9_cup ∈ gtbl := gt_in (in_S_3_5 _ (List.mem_of_getElem? (i := 20) rfl)) rfl
theorem k_730 : Cond.code yX9_cup cX9_cup 4 (some .int) ∈ gtbl := gt_in (in_S_3_5 _ (List.mem_of_getElem? (i := 21) rfl)) rfl
theorem k_731 : Cond.methodLink RX9 220 yX0_fits ∈ gtbl := gt_in (in_S_3_5 _ (List.mem_of_getElem? (i := 22) rfl)) rfl
theorem k_732 : Cond.instanceMethod yX0_fits ∈ gtbl := gt_in (in_S_3_5 _ (List.mem_of_getElem? (i := 23) rfl)) rfl
theorem k_733 : Cond.selects RX0 yX0_fits yX0_fits ∈ gtbl := gt_in (in_S_3_5 _ (List.mem_of_getElem? (i := 24) rfl)) rfl
theorem k_734 : Cond.code yX0_fits cX0_fits 2 (some .boolean) ∈ gtbl := gt_in (in_S_3_5 _ (List.mem_of_getElem? (i := 25) rfl)) rfl
theorem k_735 : Cond.methodLink RX9 223 yX0_rowsWonBy ∈ gtbl := gt_in (in_S_3_5 _ (List.mem_of_getElem? (i := 26) rfl)) rfl
theorem k_736 : Cond.instanceMethod yX0_rowsWonBy ∈ gtbl := gt_in (in_S_3_5 _ (List.mem_of_getElem? (i := 27) rfl)) rfl
theorem k_737 : Cond.selects RX0 yX0_rowsWonBy yX0_rowsWonBy ∈ gtbl := gt_in (in_S_3_5 _ (List.mem_of_getElem? (i := 28) rfl)) rfl
theorem k_738 : Cond.code yX0_rowsWonBy cX0_rowsWonBy 3 (some .int) ∈ gtbl := gt_in (in_S_3_5 _ (List.mem_of_getElem? (i := 29) rfl)) rfl
theorem in_S_3_6 : ∀ w ∈ S_3_6, w ∈ lw_tbl := fun w h => List.mem_append_right _ (List.mem_append_right _ (List.mem_append_right _ (List.mem_append_left _ (eq_3 ▸ (List.mem_append_right _ (List.mem_append_right _ (List.mem_append_right _ (List.mem_append_right _ (List.mem_append_right _ (List.mem_append_right _ (List.mem_append_left _ h)))))) : w ∈ S_3_0 ++ (S_3_1 ++ (S_3_2 ++ (S_3_3 ++ (S_3_4 ++ (S_3_5 ++ (S_3_6 ++ (S_3_7))))))))))))
theorem k_739 : Cond.methodLink RX0 56 yX1_everybody ∈ gtbl := gt_in (in_S_3_6 _ (List.mem_of_getElem? (i := 0) rfl)) rfl
theorem k_740 : Cond.methodLink RX0 60 yX0_rowsOfFour ∈ gtbl := gt_in (in_S_3_6 _ (List.mem_of_getElem? (i := 1) rfl)) rfl
theorem k_741 : Cond.instanceMethod yX0_rowsOfFour ∈ gtbl := gt_in (in_S_3_6 _ (List.mem_of_getElem? (i := 2) rfl)) rfl
theorem k_742 : Cond.selects RX0 yX0_rowsOfFour yX0_rowsOfFour ∈ gtbl := gt_in (in_S_3_6 _ (List.mem_of_getElem? (i := 3) rfl)) rfl
theorem k_743 : Cond.code yX0_rowsOfFour cX0_rowsOfFour 5 (some .int) ∈ gtbl := gt_in (in_S_3_6 _ (List.mem_of_getElem? (i := 4) rfl)) rfl
theorem k_744 : Cond.methodLink RX0 63 yX0_rowsOfEight ∈ gtbl := gt_in (in_S_3_6 _ (List.mem_of_getElem? (i := 5) rfl)) rfl
theorem k_745 : Cond.instanceMethod yX0_rowsOfEight ∈ gtbl := gt_in (in_S_3_6 _ (List.mem_of_getElem? (i := 6) rfl)) rfl
theorem k_746 : Cond.selects RX0 yX0_rowsOfEight yX0_rowsOfEight ∈ gtbl := gt_in (in_S_3_6 _ (List.mem_of_getElem? (i := 7) rfl)) rfl
theorem k_747 : Cond.code yX0_rowsOfEight cX0_rowsOfEight 5 (some .int) ∈ gtbl := gt_in (in_S_3_6 _ (List.mem_of_getElem? (i := 8) rfl)) rfl
theorem k_748 : Cond.methodLink RX9 226 yX0_leastRowWonBy ∈ gtbl := gt_in (in_S_3_6 _ (List.mem_of_getElem? (i := 9) rfl)) rfl
theorem k_749 : Cond.instanceMethod yX0_leastRowWonBy ∈ gtbl := gt_in (in_S_3_6 _ (List.mem_of_getElem? (i := 10) rfl)) rfl
theorem k_750 : Cond.selects RX0 yX0_leastRowWonBy yX0_leastRowWonBy ∈ gtbl := gt_in (in_S_3_6 _ (List.mem_of_getElem? (i := 11) rfl)) rfl
theorem k_751 : Cond.code yX0_leastRowWonBy cX0_leastRowWonBy 3 (some .int) ∈ gtbl := gt_in (in_S_3_6 _ (List.mem_of_getElem? (i := 12) rfl)) rfl
theorem k_752 : Cond.methodLink RX0 66 yX0_leastRowOfFour ∈ gtbl := gt_in (in_S_3_6 _ (List.mem_of_getElem? (i := 13) rfl)) rfl
theorem k_753 : Cond.instanceMethod yX0_leastRowOfFour ∈ gtbl := gt_in (in_S_3_6 _ (List.mem_of_getElem? (i := 14) rfl)) rfl
theorem k_754 : Cond.selects RX0 yX0_leastRowOfFour yX0_leastRowOfFour ∈ gtbl := gt_in (in_S_3_6 _ (List.mem_of_getElem? (i := 15) rfl)) rfl
theorem k_755 : Cond.code yX0_leastRowOfFour cX0_leastRowOfFour 6 (some .int) ∈ gtbl := gt_in (in_S_3_6 _ (List.mem_of_getElem? (i := 16) rfl)) rfl
theorem k_756 : Cond.methodLink RX0 69 yX0_leastRowOfEight ∈ gtbl := gt_in (in_S_3_6 _ (List.mem_of_getElem? (i := 17) rfl)) rfl
theorem k_757 : Cond.instanceMethod yX0_leastRowOfEight ∈ gtbl := gt_in (in_S_3_6 _ (List.mem_of_getElem? (i := 18) rfl)) rfl
theorem k_758 : Cond.selects RX0 yX0_leastRowOfEight yX0_leastRowOfEight ∈ gtbl := gt_in (in_S_3_6 _ (List.mem_of_getElem? (i := 19) rfl)) rfl
theorem k_759 : Cond.code yX0_leastRowOfEight cX0_leastRowOfEight 9 (some .int) ∈ gtbl := gt_in (in_S_3_6 _ (List.mem_of_getElem? (i := 20) rfl)) rfl
theorem k_760 : Cond.methodLink RX9 229 yX0_placeIn ∈ gtbl := gt_in (in_S_3_6 _ (List.mem_of_getElem? (i := 21) rfl)) rfl
theorem k_761 : Cond.instanceMethod yX0_placeIn ∈ gtbl := gt_in (in_S_3_6 _ (List.mem_of_getElem? (i := 22) rfl)) rfl
theorem k_762 : Cond.selects RX0 yX0_placeIn yX0_placeIn ∈ gtbl := gt_in (in_S_3_6 _ (List.mem_of_getElem? (i := 23) rfl)) rfl
theorem k_763 : Cond.code yX0_placeIn cX0_placeIn 4 (some .int) ∈ gtbl := gt_in (in_S_3_6 _ (List.mem_of_getElem? (i := 24) rfl)) rfl
theorem k_764 : Cond.methodLink RL 101 yX9_winner ∈ gtbl := gt_in (in_S_3_6 _ (List.mem_of_getElem? (i := 25) rfl)) rfl
theorem k_765 : Cond.instanceMethod yX9_winner ∈ gtbl := gt_in (in_S_3_6 _ (List.mem_of_getElem? (i := 26) rfl)) rfl
theorem k_766 : Cond.selects RX9 yX9_winner yX9_winner ∈ gtbl := gt_in (in_S_3_6 _ (List.mem_of_getElem? (i := 27) rfl)) rfl
theorem k_767 : Cond.code yX9_winner cX9_winner 2 (some .int) ∈ gtbl := gt_in (in_S_3_6 _ (List.mem_of_getElem? (i := 28) rfl)) rfl
theorem k_768 : Cond.methodLink RX9 233 yX0_playWithFirst ∈ gtbl := gt_in (in_S_3_6 _ (List.mem_of_getElem? (i := 29) rfl)) rfl
theorem in_S_3_7 : ∀ w ∈ S_3_7, w ∈ lw_tbl := fun w h => List.mem_append_right _ (List.mem_append_right _ (List.mem_append_right _ (List.mem_append_left _ (eq_3 ▸ (List.mem_append_right _ (List.mem_append_right _ (List.mem_append_right _ (List.mem_append_right _ (List.mem_append_right _ (List.mem_append_right _ (List.mem_append_right _ (h))))))) : w ∈ S_3_0 ++ (S_3_1 ++ (S_3_2 ++ (S_3_3 ++ (S_3_4 ++ (S_3_5 ++ (S_3_6 ++ (S_3_7))))))))))))
theorem k_769 : Cond.instanceMethod yX0_playWithFirst ∈ gtbl := gt_in (in_S_3_7 _ (List.mem_of_getElem? (i := 0) rfl)) rfl
theorem k_770 : Cond.selects RX0 yX0_playWithFirst yX0_playWithFirst ∈ gtbl := gt_in (in_S_3_7 _ (List.mem_of_getElem? (i := 1) rfl)) rfl
theorem k_771 : Cond.code yX0_playWithFirst cX0_playWithFirst 5 (some .int) ∈ gtbl := gt_in (in_S_3_7 _ (List.mem_of_getElem? (i := 2) rfl)) rfl
theorem k_772 : Cond.methodLink RL 105 yX9_judge ∈ gtbl := gt_in (in_S_3_7 _ (List.mem_of_getElem? (i := 3) rfl)) rfl
theorem k_773 : Cond.instanceMethod yX9_judge ∈ gtbl := gt_in (in_S_3_7 _ (List.mem_of_getElem? (i := 4) rfl)) rfl
theorem k_774 : Cond.selects RX9 yX9_judge yX9_judge ∈ gtbl := gt_in (in_S_3_7 _ (List.mem_of_getElem? (i := 5) rfl)) rfl
theorem k_775 : Cond.code yX9_judge cX9_judge 2 (some .int) ∈ gtbl := gt_in (in_S_3_7 _ (List.mem_of_getElem? (i := 6) rfl)) rfl
theorem k_776 : Cond.methodLink RX9 236 yX5_readLines ∈ gtbl := gt_in (in_S_3_7 _ (List.mem_of_getElem? (i := 7) rfl)) rfl
theorem k_777 : Cond.instanceMethod yX5_readLines ∈ gtbl := gt_in (in_S_3_7 _ (List.mem_of_getElem? (i := 8) rfl)) rfl
theorem k_778 : Cond.selects RX5 yX5_readLines yX5_readLines ∈ gtbl := gt_in (in_S_3_7 _ (List.mem_of_getElem? (i := 9) rfl)) rfl
theorem k_779 : Cond.code yX5_readLines cX5_readLines 2 (some .int) ∈ gtbl := gt_in (in_S_3_7 _ (List.mem_of_getElem? (i := 10) rfl)) rfl
theorem k_780 : Cond.methodLink RX5 53 yX5_readLine ∈ gtbl := gt_in (in_S_3_7 _ (List.mem_of_getElem? (i := 11) rfl)) rfl
theorem k_781 : Cond.instanceMethod yX5_readLine ∈ gtbl := gt_in (in_S_3_7 _ (List.mem_of_getElem? (i := 12) rfl)) rfl
theorem k_782 : Cond.selects RX5 yX5_readLine yX5_readLine ∈ gtbl := gt_in (in_S_3_7 _ (List.mem_of_getElem? (i := 13) rfl)) rfl
theorem k_783 : Cond.code yX5_readLine cX5_readLine 2 (some .boolean) ∈ gtbl := gt_in (in_S_3_7 _ (List.mem_of_getElem? (i := 14) rfl)) rfl
theorem k_784 : Cond.methodLink RX5 57 yX7_next ∈ gtbl := gt_in (in_S_3_7 _ (List.mem_of_getElem? (i := 15) rfl)) rfl
theorem k_785 : Cond.methodLink RX5 61 yX5_addSign ∈ gtbl := gt_in (in_S_3_7 _ (List.mem_of_getElem? (i := 16) rfl)) rfl
theorem k_786 : Cond.instanceMethod yX5_addSign ∈ gtbl := gt_in (in_S_3_7 _ (List.mem_of_getElem? (i := 17) rfl)) rfl
theorem k_787 : Cond.selects RX5 yX5_addSign yX5_addSign ∈ gtbl := gt_in (in_S_3_7 _ (List.mem_of_getElem? (i := 18) rfl)) rfl
theorem k_788 : Cond.code yX5_addSign cX5_addSign 2 none ∈ gtbl := gt_in (in_S_3_7 _ (List.mem_of_getElem? (i := 19) rfl)) rfl
theorem k_789 : Cond.methodLink RX5 78 yX5_addWord ∈ gtbl := gt_in (in_S_3_7 _ (List.mem_of_getElem? (i := 20) rfl)) rfl
theorem k_790 : Cond.instanceMethod yX5_addWord ∈ gtbl := gt_in (in_S_3_7 _ (List.mem_of_getElem? (i := 21) rfl)) rfl
theorem k_791 : Cond.selects RX5 yX5_addWord yX5_addWord ∈ gtbl := gt_in (in_S_3_7 _ (List.mem_of_getElem? (i := 22) rfl)) rfl
theorem k_792 : Cond.code yX5_addWord cX5_addWord 2 none ∈ gtbl := gt_in (in_S_3_7 _ (List.mem_of_getElem? (i := 23) rfl)) rfl
theorem k_793 : Cond.methodLink RX5 65 yX5_readLetter ∈ gtbl := gt_in (in_S_3_7 _ (List.mem_of_getElem? (i := 24) rfl)) rfl
theorem k_794 : Cond.instanceMethod yX5_readLetter ∈ gtbl := gt_in (in_S_3_7 _ (List.mem_of_getElem? (i := 25) rfl)) rfl
theorem k_795 : Cond.selects RX5 yX5_readLetter yX5_readLetter ∈ gtbl := gt_in (in_S_3_7 _ (List.mem_of_getElem? (i := 26) rfl)) rfl
theorem k_796 : Cond.code yX5_readLetter cX5_readLetter 2 (some .boolean) ∈ gtbl := gt_in (in_S_3_7 _ (List.mem_of_getElem? (i := 27) rfl)) rfl
theorem k_797 : Cond.methodLink RX5 81 yX7_nextLetter ∈ gtbl := gt_in (in_S_3_7 _ (List.mem_of_getElem? (i := 28) rfl)) rfl
theorem k_798 : Cond.methodLink RX5 68 yX5_readMoreLetters ∈ gtbl := gt_in (in_S_3_7 _ (List.mem_of_getElem? (i := 29) rfl)) rfl
def S_4_0 : List Cond := [Cond.instanceMethod yX5_readMoreLetters, Cond.selects RX5 yX5_readMoreLetters yX5_readMoreLetters, Cond.code yX5_readMoreLetters cX5_readMoreLetters 3 (some .boolean), Cond.methodLink RX5 72 yX5_readNumber, Cond.instanceMethod yX5_readNumber, Cond.selects RX5 yX5_readNumber yX5_readNumber, Cond.code yX5_readNumber cX5_readNumber 4 (some .boolean), Cond.methodLink RX5 84 yX7_nextDigit, Cond.instanceMethod yX7_nextDigit, Cond.selects RX7 yX7_nextDigit yX7_nextDigit, Cond.code yX7_nextDigit cX7_nextDigit 2 (some .int), Cond.methodLink RX5 75 yX5_readWeights, Cond.instanceMethod yX5_readWeights, Cond.selects RX5 yX5_readWeights yX5_readWeights, Cond.code yX5_readWeights cX5_readWeights 2 (some .boolean), Cond.methodLink RX9 239 yX5_judgeLines, Cond.instanceMethod yX5_judgeLines, Cond.selects RX5 yX5_judgeLines yX5_judgeLines, Cond.code yX5_judgeLines cX5_judgeLines 2 (some .int), Cond.methodLink RX5 103 yX5_judgeLine, Cond.instanceMethod yX5_judgeLine, Cond.selects RX5 yX5_judgeLine yX5_judgeLine, Cond.code yX5_judgeLine cX5_judgeLine 5 none, Cond.methodLink RX5 110 yX5_lettersOf, Cond.instanceMethod yX5_lettersOf, Cond.selects RX5 yX5_lettersOf yX5_lettersOf, Cond.code yX5_lettersOf cX5_lettersOf 5 (some .int), Cond.methodLink RX5 114 yX1_arePlayers, Cond.methodLink RX5 119 yJ6_bitCount_0f7a4, Cond.methodLink RX5 124 yX5_countLetters]
def S_4_1 : List Cond := [Cond.instanceMethod yX5_countLetters, Cond.selects RX5 yX5_countLetters yX5_countLetters, Cond.code yX5_countLetters cX5_countLetters 5 (some .int), Cond.methodLink RX5 127 yX5_whyNotSo, Cond.instanceMethod yX5_whyNotSo, Cond.selects RX5 yX5_whyNotSo yX5_whyNotSo, Cond.code yX5_whyNotSo cX5_whyNotSo 6 (some .int), Cond.methodLink RX5 134 yX1_everybody, Cond.methodLink RX5 137 yX5_isStep, Cond.instanceMethod yX5_isStep, Cond.selects RX5 yX5_isStep yX5_isStep, Cond.code yX5_isStep cX5_isStep 6 (some .boolean), Cond.methodLink RX5 159 yX1_isBeating, Cond.methodLink RX5 141 yX5_whyNoChain, Cond.instanceMethod yX5_whyNoChain, Cond.selects RX5 yX5_whyNoChain yX5_whyNoChain, Cond.code yX5_whyNoChain cX5_whyNoChain 5 (some .int), Cond.methodLink RX5 162 yX5_countTurned, Cond.instanceMethod yX5_countTurned, Cond.selects RX5 yX5_countTurned yX5_countTurned, Cond.code yX5_countTurned cX5_countTurned 6 (some .int), Cond.methodLink RX5 145 yX5_whyNoBestOrder, Cond.instanceMethod yX5_whyNoBestOrder, Cond.selects RX5 yX5_whyNoBestOrder yX5_whyNoBestOrder, Cond.code yX5_whyNoBestOrder cX5_whyNoBestOrder 6 (some .int), Cond.methodLink RX5 171 yX3_measure, Cond.methodLink RX5 148 yX5_whyNoWeights, Cond.instanceMethod yX5_whyNoWeights, Cond.selects RX5 yX5_whyNoWeights yX5_whyNoWeights, Cond.code yX5_whyNoWeights cX5_whyNoWeights 5 (some .int)]
def S_4_2 : List Cond := [Cond.methodLink RX5 179 yX8_nobodyGains, Cond.methodLink RX5 151 yX6_isCoveringSet, Cond.methodLink RX5 156 yX6_isKeepingSet, Cond.methodLink RX5 131 yX5_isSaidAhead, Cond.instanceMethod yX5_isSaidAhead, Cond.selects RX5 yX5_isSaidAhead yX5_isSaidAhead, Cond.code yX5_isSaidAhead cX5_isSaidAhead 3 (some .boolean), Cond.methodLink RX5 185 yX5_saysTheSame, Cond.instanceMethod yX5_saysTheSame, Cond.selects RX5 yX5_saysTheSame yX5_saysTheSame, Cond.code yX5_saysTheSame cX5_saysTheSame 5 (some .boolean), Cond.methodLink RX5 106 yX5_firstOf, Cond.instanceMethod yX5_firstOf, Cond.selects RX5 yX5_firstOf yX5_firstOf, Cond.code yX5_firstOf cX5_firstOf 3 (some .int), Cond.methodLink RL 109 yX9_judged, Cond.instanceMethod yX9_judged, Cond.selects RX9 yX9_judged yX9_judged, Cond.code yX9_judged cX9_judged 2 (some .int), Cond.methodLink RL 113 yX9_fewest, Cond.instanceMethod yX9_fewest, Cond.selects RX9 yX9_fewest yX9_fewest, Cond.code yX9_fewest cX9_fewest 4 (some .int), Cond.methodLink RX9 258 yX9_getsInto, (Jvm.Cond.privateMethod ({ cls := "DuelRound", name := "getsInto", desc := "(IIII)Z" } : Jvm.MethodName)), Cond.instanceMethod yX9_getsInto, Cond.code yX9_getsInto cX9_getsInto 9 (some .boolean), Cond.methodLink RX9 325 yX9_isTooFar, (Jvm.Cond.privateMethod ({ cls := "DuelRound", name := "isTooFar", desc := "(III)Z" } : Jvm.MethodName)), Cond.instanceMethod yX9_isTooFar]
def S_4_3 : List Cond := [Cond.code yX9_isTooFar cX9_isTooFar 4 (some .boolean), Cond.methodLink RX9 328 yJ6_bitCount_0f7a4, Cond.methodLink RX9 331 yX6_isCovered, Cond.methodLink RX9 334 yX3_behindBest, Cond.instanceMethod yX3_behindBest, Cond.selects RX3 yX3_behindBest yX3_behindBest, Cond.code yX3_behindBest cX3_behindBest 3 (some .int), Cond.methodLink RL 117 yX9_selves, Cond.instanceMethod yX9_selves, Cond.selects RX9 yX9_selves yX9_selves, Cond.code yX9_selves cX9_selves 1 (some .int), Cond.methodLink RX9 262 yX2_waysToRename, Cond.instanceMethod yX2_waysToRename, Cond.selects RX2 yX2_waysToRename yX2_waysToRename, Cond.code yX2_waysToRename cX2_waysToRename 3 (some .int), Cond.methodLink RX2 21 yX2_waysFrom, Cond.instanceMethod yX2_waysFrom, Cond.selects RX2 yX2_waysFrom yX2_waysFrom, Cond.code yX2_waysFrom cX2_waysFrom 7 (some .int), (Jvm.Cond.methodLinkNest "DuelRound$Names" (25 : Nat) ({ cls := "DuelRound", name := "bitOf", desc := "(II)I" } : Jvm.MethodName) "DuelRound"), Cond.methodLink RX2 29 yX2_isFitting, Cond.instanceMethod yX2_isFitting, Cond.selects RX2 yX2_isFitting yX2_isFitting, Cond.code yX2_isFitting cX2_isFitting 6 (some .boolean), Cond.methodLink RX2 33 yX1_isBeating, Cond.methodLink RL 121 yX9_undo, Cond.instanceMethod yX9_undo, Cond.selects RX9 yX9_undo yX9_undo, Cond.code yX9_undo cX9_undo 1 (some .int), Cond.methodLink RX9 269 yX4_takeLatest]
def S_4_4 : List Cond := [Cond.instanceMethod yX4_takeLatest, Cond.selects RX4 yX4_takeLatest yX4_takeLatest, Cond.code yX4_takeLatest cX4_takeLatest 1 (some .long), Cond.methodLink RL 125 yX9_keep, Cond.instanceMethod yX9_keep, Cond.selects RX9 yX9_keep yX9_keep, Cond.code yX9_keep cX9_keep 2 (some .boolean), Cond.methodLink RL 129 yX9_again, Cond.instanceMethod yX9_again, Cond.selects RX9 yX9_again yX9_again, Cond.code yX9_again cX9_again 2 (some .boolean), Cond.methodLink RX9 279 yX4_isKept, Cond.instanceMethod yX4_isKept, Cond.selects RX4 yX4_isKept yX4_isKept, Cond.code yX4_isKept cX4_isKept 2 (some .boolean), Cond.methodLink RL 133 yX9_alike, Cond.instanceMethod yX9_alike, Cond.selects RX9 yX9_alike yX9_alike, Cond.code yX9_alike cX9_alike 3 (some .int), Cond.methodLink RX9 282 yX1_arrowsUnlike, Cond.instanceMethod yX1_arrowsUnlike, Cond.selects RX1 yX1_arrowsUnlike yX1_arrowsUnlike, Cond.code yX1_arrowsUnlike cX1_arrowsUnlike 5 (some .int), Cond.methodLink RX1 49 yJ9_min_7cf53, Cond.static yJ9_min_7cf53, Cond.code yJ9_min_7cf53 cJ9_min_7cf53 2 (some .int), Cond.methodLink RL 137 yX9_count, Cond.instanceMethod yX9_count, Cond.selects RX9 yX9_count yX9_count, Cond.code yX9_count cX9_count 2 (some .int)]
def S_4_5 : List Cond := [Cond.methodLink RX9 289 yX1_cyclesOfThree, Cond.instanceMethod yX1_cyclesOfThree, Cond.selects RX1 yX1_cyclesOfThree yX1_cyclesOfThree, Cond.code yX1_cyclesOfThree cX1_cyclesOfThree 5 (some .int), Cond.methodLink RX9 295 yX1_unbeatenOf, Cond.methodLink RL 39 yL_duel, Cond.static yL_duel, (Jvm.Cond.codeWith ({ cls := "DuelRoundLaw", name := "duel", desc := "(LDuelRound;III[J)I" } : Jvm.MethodName) method_3_code (6 : Nat) (Option.some Jvm.ClassFile.FieldType.int) [((0 : Nat), (12 : Nat), (15 : Nat), (13 : Nat))]), Cond.classLink RL 13 "java/util/NoSuchElementException", Cond.methodLink RL 7 yX9_duel, Cond.instanceMethod yX9_duel, Cond.selects RX9 yX9_duel yX9_duel, Cond.code yX9_duel cX9_duel 4 (some .int), Cond.classLink RX9 118 "java/util/NoSuchElementException", Cond.instantiable "java/util/NoSuchElementException" 6, (Jvm.Cond.castable "java/util/NoSuchElementException" "java/util/NoSuchElementException"), (Jvm.Cond.declares ({ cls := "java/lang/RuntimeException", name := "<init>", desc := "()V" } : Jvm.MethodName)), (Jvm.Cond.declares ({ cls := "java/lang/RuntimeException", name := "<init>", desc := "(Ljava/lang/String;)V" } : Jvm.MethodName)), (Jvm.Cond.declares ({ cls := "java/lang/Exception", name := "<init>", desc := "()V" } : Jvm.MethodName)), (Jvm.Cond.declares ({ cls := "java/lang/Exception", name := "<init>", desc := "(Ljava/lang/String;)V" } : Jvm.MethodName)), (Jvm.Cond.declares ({ cls := "java/lang/Throwable", name := "<init>", desc := "()V" } : Jvm.MethodName)), (Jvm.Cond.declares ({ cls := "java/lang/Throwable", name := "<init>", desc := "(Ljava/lang/String;)V" } : Jvm.MethodName)), (Jvm.Cond.selects "java/util/NoSuchElementException" ({ cls := "java/lang/Throwable", name := "fillInStackTrace", desc := "(I)Ljava/lang/Throwable;" } : Jvm.MethodName) ({ cls := "java/lang/Throwable", name := "fillInStackTrace", desc := "(I)Ljava/lang/Throwable;" } : Jvm.MethodName)), (Jvm.Cond.selects "java/util/NoSuchElementException" ({ cls := "java/lang/Throwable", name := "fillInStackTrace", desc := "()Ljava/lang/Throwable;" } : Jvm.MethodName) ({ cls := "java/lang/Throwable", name := "fillInStackTrace", desc := "()Ljava/lang/Throwable;" } : Jvm.MethodName)), Cond.lays "java/util/NoSuchElementException" "java/lang/Throwable" "cause" "Ljava/lang/Throwable;", Cond.lays "java/lang/Throwable" "java/lang/Throwable" "cause" "Ljava/lang/Throwable;", Cond.lays "java/util/NoSuchElementException" "java/lang/Throwable" "stackTrace" "[Ljava/lang/StackTraceElement;", Cond.lays "java/lang/Throwable" "java/lang/Throwable" "stackTrace" "[Ljava/lang/StackTraceElement;", Cond.lays "java/util/NoSuchElementException" "java/lang/Throwable" "suppressedExceptions" "Ljava/util/List;", Cond.lays "java/lang/Throwable" "java/lang/Throwable" "suppressedExceptions" "Ljava/util/List;"]
def S_4_6 : List Cond := [Cond.lays "java/util/NoSuchElementException" "java/lang/Throwable" "detailMessage" "Ljava/lang/String;", Cond.lays "java/lang/Throwable" "java/lang/Throwable" "detailMessage" "Ljava/lang/String;", Cond.lays "java/util/NoSuchElementException" "java/lang/Throwable" "backtrace" "Ljava/lang/Object;", Cond.lays "java/lang/Throwable" "java/lang/Throwable" "backtrace" "Ljava/lang/Object;", Cond.fieldLink "java/lang/Throwable" 198 "java/lang/Throwable" "backtrace" "Ljava/lang/Object;", (Jvm.Cond.superclass "java/lang/Throwable" "java/lang/Object"), Cond.instanceMethod ⟨"java/lang/Throwable", "<init>", "()V"⟩, (Jvm.Cond.code ({ cls := "java/lang/Throwable", name := "<init>", desc := "()V" } : Jvm.MethodName) prog_20_method_1_code (1 : Nat) (Option.none : Option Jvm.ClassFile.FieldType)), Cond.methodLink "java/lang/Throwable" 1 ⟨"java/lang/Object", "<init>", "()V"⟩, Cond.fieldLink "java/lang/Throwable" 13 "java/lang/Throwable" "UNASSIGNED_STACK" "[Ljava/lang/StackTraceElement;", (Jvm.Cond.laysStatic "java/lang/Throwable" "UNASSIGNED_STACK" "[Ljava/lang/StackTraceElement;"), Cond.fieldLink "java/lang/Throwable" 20 "java/lang/Throwable" "SUPPRESSED_SENTINEL" "Ljava/util/List;", (Jvm.Cond.laysStatic "java/lang/Throwable" "SUPPRESSED_SENTINEL" "Ljava/util/List;"), Cond.methodLink "java/lang/Throwable" 27 ⟨"java/lang/Throwable", "fillInStackTrace", "()Ljava/lang/Throwable;"⟩, Cond.instanceMethod ⟨"java/lang/Throwable", "fillInStackTrace", "()Ljava/lang/Throwable;"⟩, (Jvm.Cond.sameMethod "java/lang/Throwable" "java/lang/Throwable" "fillInStackTrace" "()Ljava/lang/Throwable;"), (Jvm.Cond.codeSync ({ cls := "java/lang/Throwable", name := "fillInStackTrace", desc := "()Ljava/lang/Throwable;" } : Jvm.MethodName) prog_20_method_18_code (1 : Nat) (Option.some (Jvm.ClassFile.FieldType.object "java/lang/Throwable"))), Cond.methodLink "java/lang/Throwable" 202 ⟨"java/lang/Throwable", "fillInStackTrace", "(I)Ljava/lang/Throwable;"⟩, (Jvm.Cond.privateMethod ({ cls := "java/lang/Throwable", name := "fillInStackTrace", desc := "(I)Ljava/lang/Throwable;" } : Jvm.MethodName)), Cond.instanceMethod ⟨"java/lang/Throwable", "fillInStackTrace", "(I)Ljava/lang/Throwable;"⟩, Cond.instantiable "java/lang/Throwable" 6, Cond.native ⟨"java/lang/Throwable", "fillInStackTrace", "(I)Ljava/lang/Throwable;"⟩, (Jvm.Cond.stringRef "DuelRound" (120 : Nat) "no such PLAYERS, or one twice"), Cond.methodLink RX9 122 ⟨"java/util/NoSuchElementException", "<init>", "(Ljava/lang/String;)V"⟩, Cond.instanceMethod ⟨"java/util/NoSuchElementException", "<init>", "(Ljava/lang/String;)V"⟩, (Jvm.Cond.code ({ cls := "java/util/NoSuchElementException", name := "<init>", desc := "(Ljava/lang/String;)V" } : Jvm.MethodName) prog_21_method_4_code (2 : Nat) (Option.none : Option Jvm.ClassFile.FieldType)), Cond.methodLink "java/util/NoSuchElementException" 13 ⟨"java/lang/RuntimeException", "<init>", "(Ljava/lang/String;)V"⟩, Cond.instanceMethod ⟨"java/lang/RuntimeException", "<init>", "(Ljava/lang/String;)V"⟩, (Jvm.Cond.code ({ cls := "java/lang/RuntimeException", name := "<init>", desc := "(Ljava/lang/String;)V" } : Jvm.MethodName) prog_17_method_2_code (2 : Nat) (Option.none : Option Jvm.ClassFile.FieldType)), Cond.methodLink "java/lang/RuntimeException" 7 ⟨"java/lang/Exception", "<init>", "(Ljava/lang/String;)V"⟩]
def S_4_7 : List Cond := [Cond.instanceMethod ⟨"java/lang/Exception", "<init>", "(Ljava/lang/String;)V"⟩, (Jvm.Cond.code ({ cls := "java/lang/Exception", name := "<init>", desc := "(Ljava/lang/String;)V" } : Jvm.MethodName) prog_14_method_2_code (2 : Nat) (Option.none : Option Jvm.ClassFile.FieldType)), Cond.methodLink "java/lang/Exception" 7 ⟨"java/lang/Throwable", "<init>", "(Ljava/lang/String;)V"⟩, Cond.instanceMethod ⟨"java/lang/Throwable", "<init>", "(Ljava/lang/String;)V"⟩, (Jvm.Cond.code ({ cls := "java/lang/Throwable", name := "<init>", desc := "(Ljava/lang/String;)V" } : Jvm.MethodName) prog_20_method_2_code (2 : Nat) (Option.none : Option Jvm.ClassFile.FieldType)), (Jvm.Cond.fieldLink "java/lang/Throwable" (198 : Nat) "java/lang/Throwable" "backtrace" "Ljava/lang/Object;"), Cond.fieldLink "java/lang/Throwable" 31 "java/lang/Throwable" "detailMessage" "Ljava/lang/String;", Cond.fieldLink "java/lang/Throwable" 7 "java/lang/Throwable" "cause" "Ljava/lang/Throwable;", Cond.fieldLink "java/lang/Throwable" 17 "java/lang/Throwable" "stackTrace" "[Ljava/lang/StackTraceElement;", Cond.fieldLink "java/lang/Throwable" 24 "java/lang/Throwable" "suppressedExceptions" "Ljava/util/List;", (Jvm.Cond.soleField "java/lang/Throwable" "backtrace"), (Jvm.Cond.soleField "java/lang/Throwable" "detailMessage"), (Jvm.Cond.soleField "java/lang/Throwable" "cause"), (Jvm.Cond.soleField "java/lang/Throwable" "stackTrace"), Cond.lays "java/util/NoSuchElementException" "java/lang/Throwable" "depth" "I", (Jvm.Cond.soleField "java/lang/Throwable" "depth"), (Jvm.Cond.soleField "java/lang/Throwable" "suppressedExceptions"), (Jvm.Cond.superclass "java/util/NoSuchElementException" "java/lang/RuntimeException"), Cond.arrayClass .byte, Cond.methodLink RX9 125 yX1_isBeating, Cond.methodLink RX9 132 yX6_isCovering, Cond.methodLink RX9 143 yX9_lowestOf, Cond.classLink RL 16 RX10, Cond.instantiable RX10 38, Cond.methodLink RL 18 yX10_init, Cond.instanceMethod yX10_init, Cond.code yX10_init cX10_init 1 none, Cond.methodLink RX10 3 ⟨"java/lang/Object", "<init>", "()V"⟩, Cond.fieldLink RX10 90 "DuelRoundModel" "thrown" "I", Cond.fieldLink RX10 9 "DuelRoundModel" "row" "[I"]
set_option maxRecDepth 100000 in
theorem eq_4 : S_4_0 ++ (S_4_1 ++ (S_4_2 ++ (S_4_3 ++ (S_4_4 ++ (S_4_5 ++ (S_4_6 ++ (S_4_7))))))) = tables_1_4 := rfl
theorem in_S_4_0 : ∀ w ∈ S_4_0, w ∈ lw_tbl := fun w h => List.mem_append_right _ (List.mem_append_right _ (List.mem_append_right _ (List.mem_append_right _ (List.mem_append_left _ (eq_4 ▸ (List.mem_append_left _ h : w ∈ S_4_0 ++ (S_4_1 ++ (S_4_2 ++ (S_4_3 ++ (S_4_4 ++ (S_4_5 ++ (S_4_6 ++ (S_4_7)))))))))))))
theorem k_799 : Cond.instanceMethod yX5_readMoreLetters ∈ gtbl := gt_in (in_S_4_0 _ (List.mem_of_getElem? (i := 0) rfl)) rfl
theorem k_800 : Cond.selects RX5 yX5_readMoreLetters yX5_readMoreLetters ∈ gtbl := gt_in (in_S_4_0 _ (List.mem_of_getElem? (i := 1) rfl)) rfl
theorem k_801 : Cond.code yX5_readMoreLetters cX5_readMoreLetters 3 (some .boolean) ∈ gtbl := gt_in (in_S_4_0 _ (List.mem_of_getElem? (i := 2) rfl)) rfl
theorem k_802 : Cond.methodLink RX5 72 yX5_readNumber ∈ gtbl := gt_in (in_S_4_0 _ (List.mem_of_getElem? (i := 3) rfl)) rfl
theorem k_803 : Cond.instanceMethod yX5_readNumber ∈ gtbl := gt_in (in_S_4_0 _ (List.mem_of_getElem? (i := 4) rfl)) rfl
theorem k_804 : Cond.selects RX5 yX5_readNumber yX5_readNumber ∈ gtbl := gt_in (in_S_4_0 _ (List.mem_of_getElem? (i := 5) rfl)) rfl
theorem k_805 : Cond.code yX5_readNumber cX5_readNumber 4 (some .boolean) ∈ gtbl := gt_in (in_S_4_0 _ (List.mem_of_getElem? (i := 6) rfl)) rfl
theorem k_806 : Cond.methodLink RX5 84 yX7_nextDigit ∈ gtbl := gt_in (in_S_4_0 _ (List.mem_of_getElem? (i := 7) rfl)) rfl
theorem k_807 : Cond.instanceMethod yX7_nextDigit ∈ gtbl := gt_in (in_S_4_0 _ (List.mem_of_getElem? (i := 8) rfl)) rfl
theorem k_808 : Cond.selects RX7 yX7_nextDigit yX7_nextDigit ∈ gtbl := gt_in (in_S_4_0 _ (List.mem_of_getElem? (i := 9) rfl)) rfl
theorem k_809 : Cond.code yX7_nextDigit cX7_nextDigit 2 (some .int) ∈ gtbl := gt_in (in_S_4_0 _ (List.mem_of_getElem? (i := 10) rfl)) rfl
theorem k_810 : Cond.methodLink RX5 75 yX5_readWeights ∈ gtbl := gt_in (in_S_4_0 _ (List.mem_of_getElem? (i := 11) rfl)) rfl
theorem k_811 : Cond.instanceMethod yX5_readWeights ∈ gtbl := gt_in (in_S_4_0 _ (List.mem_of_getElem? (i := 12) rfl)) rfl
theorem k_812 : Cond.selects RX5 yX5_readWeights yX5_readWeights ∈ gtbl := gt_in (in_S_4_0 _ (List.mem_of_getElem? (i := 13) rfl)) rfl
theorem k_813 : Cond.code yX5_readWeights cX5_readWeights 2 (some .boolean) ∈ gtbl := gt_in (in_S_4_0 _ (List.mem_of_getElem? (i := 14) rfl)) rfl
theorem k_814 : Cond.methodLink RX9 239 yX5_judgeLines ∈ gtbl := gt_in (in_S_4_0 _ (List.mem_of_getElem? (i := 15) rfl)) rfl
theorem k_815 : Cond.instanceMethod yX5_judgeLines ∈ gtbl := gt_in (in_S_4_0 _ (List.mem_of_getElem? (i := 16) rfl)) rfl
theorem k_816 : Cond.selects RX5 yX5_judgeLines yX5_judgeLines ∈ gtbl := gt_in (in_S_4_0 _ (List.mem_of_getElem? (i := 17) rfl)) rfl
theorem k_817 : Cond.code yX5_judgeLines cX5_judgeLines 2 (some .int) ∈ gtbl := gt_in (in_S_4_0 _ (List.mem_of_getElem? (i := 18) rfl)) rfl
theorem k_818 : Cond.methodLink RX5 103 yX5_judgeLine ∈ gtbl := gt_in (in_S_4_0 _ (List.mem_of_getElem? (i := 19) rfl)) rfl
theorem k_819 : Cond.instanceMethod yX5_judgeLine ∈ gtbl := gt_in (in_S_4_0 _ (List.mem_of_getElem? (i := 20) rfl)) rfl
theorem k_820 : Cond.selects RX5 yX5_judgeLine yX5_judgeLine ∈ gtbl := gt_in (in_S_4_0 _ (List.mem_of_getElem? (i := 21) rfl)) rfl
theorem k_821 : Cond.code yX5_judgeLine cX5_judgeLine 5 none ∈ gtbl := gt_in (in_S_4_0 _ (List.mem_of_getElem? (i := 22) rfl)) rfl
theorem k_822 : Cond.methodLink RX5 110 yX5_lettersOf ∈ gtbl := gt_in (in_S_4_0 _ (List.mem_of_getElem? (i := 23) rfl)) rfl
theorem k_823 : Cond.instanceMethod yX5_lettersOf ∈ gtbl := gt_in (in_S_4_0 _ (List.mem_of_getElem? (i := 24) rfl)) rfl
theorem k_824 : Cond.selects RX5 yX5_lettersOf yX5_lettersOf ∈ gtbl := gt_in (in_S_4_0 _ (List.mem_of_getElem? (i := 25) rfl)) rfl
theorem k_825 : Cond.code yX5_lettersOf cX5_lettersOf 5 (some .int) ∈ gtbl := gt_in (in_S_4_0 _ (List.mem_of_getElem? (i := 26) rfl)) rfl
theorem k_826 : Cond.methodLink RX5 114 yX1_arePlayers ∈ gtbl := gt_in (in_S_4_0 _ (List.mem_of_getElem? (i := 27) rfl)) rfl
theorem k_827 : Cond.methodLink RX5 119 yJ6_bitCount_0f7a4 ∈ gtbl := gt_in (in_S_4_0 _ (List.mem_of_getElem? (i := 28) rfl)) rfl
theorem k_828 : Cond.methodLink RX5 124 yX5_countLetters ∈ gtbl := gt_in (in_S_4_0 _ (List.mem_of_getElem? (i := 29) rfl)) rfl
theorem in_S_4_1 : ∀ w ∈ S_4_1, w ∈ lw_tbl := fun w h => List.mem_append_right _ (List.mem_append_right _ (List.mem_append_right _ (List.mem_append_right _ (List.mem_append_left _ (eq_4 ▸ (List.mem_append_right _ (List.mem_append_left _ h) : w ∈ S_4_0 ++ (S_4_1 ++ (S_4_2 ++ (S_4_3 ++ (S_4_4 ++ (S_4_5 ++ (S_4_6 ++ (S_4_7)))))))))))))
theorem k_829 : Cond.instanceMethod yX5_countLetters ∈ gtbl := gt_in (in_S_4_1 _ (List.mem_of_getElem? (i := 0) rfl)) rfl
theorem k_830 : Cond.selects RX5 yX5_countLetters yX5_countLetters ∈ gtbl := gt_in (in_S_4_1 _ (List.mem_of_getElem? (i := 1) rfl)) rfl
theorem k_831 : Cond.code yX5_countLetters cX5_countLetters 5 (some .int) ∈ gtbl := gt_in (in_S_4_1 _ (List.mem_of_getElem? (i := 2) rfl)) rfl
theorem k_832 : Cond.methodLink RX5 127 yX5_whyNotSo ∈ gtbl := gt_in (in_S_4_1 _ (List.mem_of_getElem? (i := 3) rfl)) rfl
theorem k_833 : Cond.instanceMethod yX5_whyNotSo ∈ gtbl := gt_in (in_S_4_1 _ (List.mem_of_getElem? (i := 4) rfl)) rfl
theorem k_834 : Cond.selects RX5 yX5_whyNotSo yX5_whyNotSo ∈ gtbl := gt_in (in_S_4_1 _ (List.mem_of_getElem? (i := 5) rfl)) rfl
theorem k_835 : Cond.code yX5_whyNotSo cX5_whyNotSo 6 (some .int) ∈ gtbl := gt_in (in_S_4_1 _ (List.mem_of_getElem? (i := 6) rfl)) rfl
theorem k_836 : Cond.methodLink RX5 134 yX1_everybody ∈ gtbl := gt_in (in_S_4_1 _ (List.mem_of_getElem? (i := 7) rfl)) rfl
theorem k_837 : Cond.methodLink RX5 137 yX5_isStep ∈ gtbl := gt_in (in_S_4_1 _ (List.mem_of_getElem? (i := 8) rfl)) rfl
theorem k_838 : Cond.instanceMethod yX5_isStep ∈ gtbl := gt_in (in_S_4_1 _ (List.mem_of_getElem? (i := 9) rfl)) rfl
theorem k_839 : Cond.selects RX5 yX5_isStep yX5_isStep ∈ gtbl := gt_in (in_S_4_1 _ (List.mem_of_getElem? (i := 10) rfl)) rfl
theorem k_840 : Cond.code yX5_isStep cX5_isStep 6 (some .boolean) ∈ gtbl := gt_in (in_S_4_1 _ (List.mem_of_getElem? (i := 11) rfl)) rfl
theorem k_841 : Cond.methodLink RX5 159 yX1_isBeating ∈ gtbl := gt_in (in_S_4_1 _ (List.mem_of_getElem? (i := 12) rfl)) rfl
theorem k_842 : Cond.methodLink RX5 141 yX5_whyNoChain ∈ gtbl := gt_in (in_S_4_1 _ (List.mem_of_getElem? (i := 13) rfl)) rfl
theorem k_843 : Cond.instanceMethod yX5_whyNoChain ∈ gtbl := gt_in (in_S_4_1 _ (List.mem_of_getElem? (i := 14) rfl)) rfl
theorem k_844 : Cond.selects RX5 yX5_whyNoChain yX5_whyNoChain ∈ gtbl := gt_in (in_S_4_1 _ (List.mem_of_getElem? (i := 15) rfl)) rfl
theorem k_845 : Cond.code yX5_whyNoChain cX5_whyNoChain 5 (some .int) ∈ gtbl := gt_in (in_S_4_1 _ (List.mem_of_getElem? (i := 16) rfl)) rfl
theorem k_846 : Cond.methodLink RX5 162 yX5_countTurned ∈ gtbl := gt_in (in_S_4_1 _ (List.mem_of_getElem? (i := 17) rfl)) rfl
theorem k_847 : Cond.instanceMethod yX5_countTurned ∈ gtbl := gt_in (in_S_4_1 _ (List.mem_of_getElem? (i := 18) rfl)) rfl
theorem k_848 : Cond.selects RX5 yX5_countTurned yX5_countTurned ∈ gtbl := gt_in (in_S_4_1 _ (List.mem_of_getElem? (i := 19) rfl)) rfl
theorem k_849 : Cond.code yX5_countTurned cX5_countTurned 6 (some .int) ∈ gtbl := gt_in (in_S_4_1 _ (List.mem_of_getElem? (i := 20) rfl)) rfl
theorem k_850 : Cond.methodLink RX5 145 yX5_whyNoBestOrder ∈ gtbl := gt_in (in_S_4_1 _ (List.mem_of_getElem? (i := 21) rfl)) rfl
theorem k_851 : Cond.instanceMethod yX5_whyNoBestOrder ∈ gtbl := gt_in (in_S_4_1 _ (List.mem_of_getElem? (i := 22) rfl)) rfl
theorem k_852 : Cond.selects RX5 yX5_whyNoBestOrder yX5_whyNoBestOrder ∈ gtbl := gt_in (in_S_4_1 _ (List.mem_of_getElem? (i := 23) rfl)) rfl
theorem k_853 : Cond.code yX5_whyNoBestOrder cX5_whyNoBestOrder 6 (some .int) ∈ gtbl := gt_in (in_S_4_1 _ (List.mem_of_getElem? (i := 24) rfl)) rfl
theorem k_854 : Cond.methodLink RX5 171 yX3_measure ∈ gtbl := gt_in (in_S_4_1 _ (List.mem_of_getElem? (i := 25) rfl)) rfl
theorem k_855 : Cond.methodLink RX5 148 yX5_whyNoWeights ∈ gtbl := gt_in (in_S_4_1 _ (List.mem_of_getElem? (i := 26) rfl)) rfl
theorem k_856 : Cond.instanceMethod yX5_whyNoWeights ∈ gtbl := gt_in (in_S_4_1 _ (List.mem_of_getElem? (i := 27) rfl)) rfl
theorem k_857 : Cond.selects RX5 yX5_whyNoWeights yX5_whyNoWeights ∈ gtbl := gt_in (in_S_4_1 _ (List.mem_of_getElem? (i := 28) rfl)) rfl
theorem k_858 : Cond.code yX5_whyNoWeights cX5_whyNoWeights 5 (some .int) ∈ gtbl := gt_in (in_S_4_1 _ (List.mem_of_getElem? (i := 29) rfl)) rfl
theorem in_S_4_2 : ∀ w ∈ S_4_2, w ∈ lw_tbl := fun w h => List.mem_append_right _ (List.mem_append_right _ (List.mem_append_right _ (List.mem_append_right _ (List.mem_append_left _ (eq_4 ▸ (List.mem_append_right _ (List.mem_append_right _ (List.mem_append_left _ h)) : w ∈ S_4_0 ++ (S_4_1 ++ (S_4_2 ++ (S_4_3 ++ (S_4_4 ++ (S_4_5 ++ (S_4_6 ++ (S_4_7)))))))))))))
theorem k_859 : Cond.methodLink RX5 179 yX8_nobodyGains ∈ gtbl := gt_in (in_S_4_2 _ (List.mem_of_getElem? (i := 0) rfl)) rfl
theorem k_860 : Cond.methodLink RX5 151 yX6_isCoveringSet ∈ gtbl := gt_in (in_S_4_2 _ (List.mem_of_getElem? (i := 1) rfl)) rfl
theorem k_861 : Cond.methodLink RX5 156 yX6_isKeepingSet ∈ gtbl := gt_in (in_S_4_2 _ (List.mem_of_getElem? (i := 2) rfl)) rfl
theorem k_862 : Cond.methodLink RX5 131 yX5_isSaidAhead ∈ gtbl := gt_in (in_S_4_2 _ (List.mem_of_getElem? (i := 3) rfl)) rfl
theorem k_863 : Cond.instanceMethod yX5_isSaidAhead ∈ gtbl := gt_in (in_S_4_2 _ (List.mem_of_getElem? (i := 4) rfl)) rfl
theorem k_864 : Cond.selects RX5 yX5_isSaidAhead yX5_isSaidAhead ∈ gtbl := gt_in (in_S_4_2 _ (List.mem_of_getElem? (i := 5) rfl)) rfl
theorem k_865 : Cond.code yX5_isSaidAhead cX5_isSaidAhead 3 (some .boolean) ∈ gtbl := gt_in (in_S_4_2 _ (List.mem_of_getElem? (i := 6) rfl)) rfl
theorem k_866 : Cond.methodLink RX5 185 yX5_saysTheSame ∈ gtbl := gt_in (in_S_4_2 _ (List.mem_of_getElem? (i := 7) rfl)) rfl
theorem k_867 : Cond.instanceMethod yX5_saysTheSame ∈ gtbl := gt_in (in_S_4_2 _ (List.mem_of_getElem? (i := 8) rfl)) rfl
theorem k_868 : Cond.selects RX5 yX5_saysTheSame yX5_saysTheSame ∈ gtbl := gt_in (in_S_4_2 _ (List.mem_of_getElem? (i := 9) rfl)) rfl
theorem k_869 : Cond.code yX5_saysTheSame cX5_saysTheSame 5 (some .boolean) ∈ gtbl := gt_in (in_S_4_2 _ (List.mem_of_getElem? (i := 10) rfl)) rfl
theorem k_870 : Cond.methodLink RX5 106 yX5_firstOf ∈ gtbl := gt_in (in_S_4_2 _ (List.mem_of_getElem? (i := 11) rfl)) rfl
theorem k_871 : Cond.instanceMethod yX5_firstOf ∈ gtbl := gt_in (in_S_4_2 _ (List.mem_of_getElem? (i := 12) rfl)) rfl
theorem k_872 : Cond.selects RX5 yX5_firstOf yX5_firstOf ∈ gtbl := gt_in (in_S_4_2 _ (List.mem_of_getElem? (i := 13) rfl)) rfl
theorem k_873 : Cond.code yX5_firstOf cX5_firstOf 3 (some .int) ∈ gtbl := gt_in (in_S_4_2 _ (List.mem_of_getElem? (i := 14) rfl)) rfl
theorem k_874 : Cond.methodLink RL 109 yX9_judged ∈ gtbl := gt_in (in_S_4_2 _ (List.mem_of_getElem? (i := 15) rfl)) rfl
theorem k_875 : Cond.instanceMethod yX9_judged ∈ gtbl := gt_in (in_S_4_2 _ (List.mem_of_getElem? (i := 16) rfl)) rfl
theorem k_876 : Cond.selects RX9 yX9_judged yX9_judged ∈ gtbl := gt_in (in_S_4_2 _ (List.mem_of_getElem? (i := 17) rfl)) rfl
theorem k_877 : Cond.code yX9_judged cX9_judged 2 (some .int) ∈ gtbl := gt_in (in_S_4_2 _ (List.mem_of_getElem? (i := 18) rfl)) rfl
theorem k_878 : Cond.methodLink RL 113 yX9_fewest ∈ gtbl := gt_in (in_S_4_2 _ (List.mem_of_getElem? (i := 19) rfl)) rfl
theorem k_879 : Cond.instanceMethod yX9_fewest ∈ gtbl := gt_in (in_S_4_2 _ (List.mem_of_getElem? (i := 20) rfl)) rfl
theorem k_880 : Cond.selects RX9 yX9_fewest yX9_fewest ∈ gtbl := gt_in (in_S_4_2 _ (List.mem_of_getElem? (i := 21) rfl)) rfl
theorem k_881 : Cond.code yX9_fewest cX9_fewest 4 (some .int) ∈ gtbl := gt_in (in_S_4_2 _ (List.mem_of_getElem? (i := 22) rfl)) rfl
theorem k_882 : Cond.methodLink RX9 258 yX9_getsInto ∈ gtbl := gt_in (in_S_4_2 _ (List.mem_of_getElem? (i := 23) rfl)) rfl
theorem k_884 : Cond.instanceMethod yX9_getsInto ∈ gtbl := gt_in (in_S_4_2 _ (List.mem_of_getElem? (i := 25) rfl)) rfl
theorem k_885 : Cond.code yX9_getsInto cX9_getsInto 9 (some .boolean) ∈ gtbl := gt_in (in_S_4_2 _ (List.mem_of_getElem? (i := 26) rfl)) rfl
theorem k_886 : Cond.methodLink RX9 325 yX9_isTooFar ∈ gtbl := gt_in (in_S_4_2 _ (List.mem_of_getElem? (i := 27) rfl)) rfl
theorem k_888 : Cond.instanceMethod yX9_isTooFar ∈ gtbl := gt_in (in_S_4_2 _ (List.mem_of_getElem? (i := 29) rfl)) rfl
theorem in_S_4_3 : ∀ w ∈ S_4_3, w ∈ lw_tbl := fun w h => List.mem_append_right _ (List.mem_append_right _ (List.mem_append_right _ (List.mem_append_right _ (List.mem_append_left _ (eq_4 ▸ (List.mem_append_right _ (List.mem_append_right _ (List.mem_append_right _ (List.mem_append_left _ h))) : w ∈ S_4_0 ++ (S_4_1 ++ (S_4_2 ++ (S_4_3 ++ (S_4_4 ++ (S_4_5 ++ (S_4_6 ++ (S_4_7)))))))))))))
theorem k_889 : Cond.code yX9_isTooFar cX9_isTooFar 4 (some .boolean) ∈ gtbl := gt_in (in_S_4_3 _ (List.mem_of_getElem? (i := 0) rfl)) rfl
theorem k_890 : Cond.methodLink RX9 328 yJ6_bitCount_0f7a4 ∈ gtbl := gt_in (in_S_4_3 _ (List.mem_of_getElem? (i := 1) rfl)) rfl
theorem k_891 : Cond.methodLink RX9 331 yX6_isCovered ∈ gtbl := gt_in (in_S_4_3 _ (List.mem_of_getElem? (i := 2) rfl)) rfl
theorem k_892 : Cond.methodLink RX9 334 yX3_behindBest ∈ gtbl := gt_in (in_S_4_3 _ (List.mem_of_getElem? (i := 3) rfl)) rfl
theorem k_893 : Cond.instanceMethod yX3_behindBest ∈ gtbl := gt_in (in_S_4_3 _ (List.mem_of_getElem? (i := 4) rfl)) rfl
theorem k_894 : Cond.selects RX3 yX3_behindBest yX3_behindBest ∈ gtbl := gt_in (in_S_4_3 _ (List.mem_of_getElem? (i := 5) rfl)) rfl
theorem k_895 : Cond.code yX3_behindBest cX3_behindBest 3 (some .int) ∈ gtbl := gt_in (in_S_4_3 _ (List.mem_of_getElem? (i := 6) rfl)) rfl
theorem k_896 : Cond.methodLink RL 117 yX9_selves ∈ gtbl := gt_in (in_S_4_3 _ (List.mem_of_getElem? (i := 7) rfl)) rfl
theorem k_897 : Cond.instanceMethod yX9_selves ∈ gtbl := gt_in (in_S_4_3 _ (List.mem_of_getElem? (i := 8) rfl)) rfl
theorem k_898 : Cond.selects RX9 yX9_selves yX9_selves ∈ gtbl := gt_in (in_S_4_3 _ (List.mem_of_getElem? (i := 9) rfl)) rfl
theorem k_899 : Cond.code yX9_selves cX9_selves 1 (some .int) ∈ gtbl := gt_in (in_S_4_3 _ (List.mem_of_getElem? (i := 10) rfl)) rfl
theorem k_900 : Cond.methodLink RX9 262 yX2_waysToRename ∈ gtbl := gt_in (in_S_4_3 _ (List.mem_of_getElem? (i := 11) rfl)) rfl
theorem k_901 : Cond.instanceMethod yX2_waysToRename ∈ gtbl := gt_in (in_S_4_3 _ (List.mem_of_getElem? (i := 12) rfl)) rfl
theorem k_902 : Cond.selects RX2 yX2_waysToRename yX2_waysToRename ∈ gtbl := gt_in (in_S_4_3 _ (List.mem_of_getElem? (i := 13) rfl)) rfl
theorem k_903 : Cond.code yX2_waysToRename cX2_waysToRename 3 (some .int) ∈ gtbl := gt_in (in_S_4_3 _ (List.mem_of_getElem? (i := 14) rfl)) rfl
theorem k_904 : Cond.methodLink RX2 21 yX2_waysFrom ∈ gtbl := gt_in (in_S_4_3 _ (List.mem_of_getElem? (i := 15) rfl)) rfl
theorem k_905 : Cond.instanceMethod yX2_waysFrom ∈ gtbl := gt_in (in_S_4_3 _ (List.mem_of_getElem? (i := 16) rfl)) rfl
theorem k_906 : Cond.selects RX2 yX2_waysFrom yX2_waysFrom ∈ gtbl := gt_in (in_S_4_3 _ (List.mem_of_getElem? (i := 17) rfl)) rfl
theorem k_907 : Cond.code yX2_waysFrom cX2_waysFrom 7 (some .int) ∈ gtbl := gt_in (in_S_4_3 _ (List.mem_of_getElem? (i := 18) rfl)) rfl
theorem k_909 : Cond.methodLink RX2 29 yX2_isFitting ∈ gtbl := gt_in (in_S_4_3 _ (List.mem_of_getElem? (i := 20) rfl)) rfl
theorem k_910 : Cond.instanceMethod yX2_isFitting ∈ gtbl := gt_in (in_S_4_3 _ (List.mem_of_getElem? (i := 21) rfl)) rfl
theorem k_911 : Cond.selects RX2 yX2_isFitting yX2_isFitting ∈ gtbl := gt_in (in_S_4_3 _ (List.mem_of_getElem? (i := 22) rfl)) rfl
theorem k_912 : Cond.code yX2_isFitting cX2_isFitting 6 (some .boolean) ∈ gtbl := gt_in (in_S_4_3 _ (List.mem_of_getElem? (i := 23) rfl)) rfl
theorem k_913 : Cond.methodLink RX2 33 yX1_isBeating ∈ gtbl := gt_in (in_S_4_3 _ (List.mem_of_getElem? (i := 24) rfl)) rfl
theorem k_914 : Cond.methodLink RL 121 yX9_undo ∈ gtbl := gt_in (in_S_4_3 _ (List.mem_of_getElem? (i := 25) rfl)) rfl
theorem k_915 : Cond.instanceMethod yX9_undo ∈ gtbl := gt_in (in_S_4_3 _ (List.mem_of_getElem? (i := 26) rfl)) rfl
theorem k_916 : Cond.selects RX9 yX9_undo yX9_undo ∈ gtbl := gt_in (in_S_4_3 _ (List.mem_of_getElem? (i := 27) rfl)) rfl
theorem k_917 : Cond.code yX9_undo cX9_undo 1 (some .int) ∈ gtbl := gt_in (in_S_4_3 _ (List.mem_of_getElem? (i := 28) rfl)) rfl
theorem k_918 : Cond.methodLink RX9 269 yX4_takeLatest ∈ gtbl := gt_in (in_S_4_3 _ (List.mem_of_getElem? (i := 29) rfl)) rfl
theorem in_S_4_4 : ∀ w ∈ S_4_4, w ∈ lw_tbl := fun w h => List.mem_append_right _ (List.mem_append_right _ (List.mem_append_right _ (List.mem_append_right _ (List.mem_append_left _ (eq_4 ▸ (List.mem_append_right _ (List.mem_append_right _ (List.mem_append_right _ (List.mem_append_right _ (List.mem_append_left _ h)))) : w ∈ S_4_0 ++ (S_4_1 ++ (S_4_2 ++ (S_4_3 ++ (S_4_4 ++ (S_4_5 ++ (S_4_6 ++ (S_4_7)))))))))))))
theorem k_919 : Cond.instanceMethod yX4_takeLatest ∈ gtbl := gt_in (in_S_4_4 _ (List.mem_of_getElem? (i := 0) rfl)) rfl
theorem k_920 : Cond.selects RX4 yX4_takeLatest yX4_takeLatest ∈ gtbl := gt_in (in_S_4_4 _ (List.mem_of_getElem? (i := 1) rfl)) rfl
theorem k_921 : Cond.code yX4_takeLatest cX4_takeLatest 1 (some .long) ∈ gtbl := gt_in (in_S_4_4 _ (List.mem_of_getElem? (i := 2) rfl)) rfl
theorem k_922 : Cond.methodLink RL 125 yX9_keep ∈ gtbl := gt_in (in_S_4_4 _ (List.mem_of_getElem? (i := 3) rfl)) rfl
theorem k_923 : Cond.instanceMethod yX9_keep ∈ gtbl := gt_in (in_S_4_4 _ (List.mem_of_getElem? (i := 4) rfl)) rfl
theorem k_924 : Cond.selects RX9 yX9_keep yX9_keep ∈ gtbl := gt_in (in_S_4_4 _ (List.mem_of_getElem? (i := 5) rfl)) rfl
theorem k_925 : Cond.code yX9_keep cX9_keep 2 (some .boolean) ∈ gtbl := gt_in (in_S_4_4 _ (List.mem_of_getElem? (i := 6) rfl)) rfl
theorem k_926 : Cond.methodLink RL 129 yX9_again ∈ gtbl := gt_in (in_S_4_4 _ (List.mem_of_getElem? (i := 7) rfl)) rfl
theorem k_927 : Cond.instanceMethod yX9_again ∈ gtbl := gt_in (in_S_4_4 _ (List.mem_of_getElem? (i := 8) rfl)) rfl
theorem k_928 : Cond.selects RX9 yX9_again yX9_again ∈ gtbl := gt_in (in_S_4_4 _ (List.mem_of_getElem? (i := 9) rfl)) rfl
theorem k_929 : Cond.code yX9_again cX9_again 2 (some .boolean) ∈ gtbl := gt_in (in_S_4_4 _ (List.mem_of_getElem? (i := 10) rfl)) rfl
theorem k_930 : Cond.methodLink RX9 279 yX4_isKept ∈ gtbl := gt_in (in_S_4_4 _ (List.mem_of_getElem? (i := 11) rfl)) rfl
theorem k_931 : Cond.instanceMethod yX4_isKept ∈ gtbl := gt_in (in_S_4_4 _ (List.mem_of_getElem? (i := 12) rfl)) rfl
theorem k_932 : Cond.selects RX4 yX4_isKept yX4_isKept ∈ gtbl := gt_in (in_S_4_4 _ (List.mem_of_getElem? (i := 13) rfl)) rfl
theorem k_933 : Cond.code yX4_isKept cX4_isKept 2 (some .boolean) ∈ gtbl := gt_in (in_S_4_4 _ (List.mem_of_getElem? (i := 14) rfl)) rfl
theorem k_934 : Cond.methodLink RL 133 yX9_alike ∈ gtbl := gt_in (in_S_4_4 _ (List.mem_of_getElem? (i := 15) rfl)) rfl
theorem k_935 : Cond.instanceMethod yX9_alike ∈ gtbl := gt_in (in_S_4_4 _ (List.mem_of_getElem? (i := 16) rfl)) rfl
theorem k_936 : Cond.selects RX9 yX9_alike yX9_alike ∈ gtbl := gt_in (in_S_4_4 _ (List.mem_of_getElem? (i := 17) rfl)) rfl
theorem k_937 : Cond.code yX9_alike cX9_alike 3 (some .int) ∈ gtbl := gt_in (in_S_4_4 _ (List.mem_of_getElem? (i := 18) rfl)) rfl
theorem k_938 : Cond.methodLink RX9 282 yX1_arrowsUnlike ∈ gtbl := gt_in (in_S_4_4 _ (List.mem_of_getElem? (i := 19) rfl)) rfl
theorem k_939 : Cond.instanceMethod yX1_arrowsUnlike ∈ gtbl := gt_in (in_S_4_4 _ (List.mem_of_getElem? (i := 20) rfl)) rfl
theorem k_940 : Cond.selects RX1 yX1_arrowsUnlike yX1_arrowsUnlike ∈ gtbl := gt_in (in_S_4_4 _ (List.mem_of_getElem? (i := 21) rfl)) rfl
theorem k_941 : Cond.code yX1_arrowsUnlike cX1_arrowsUnlike 5 (some .int) ∈ gtbl := gt_in (in_S_4_4 _ (List.mem_of_getElem? (i := 22) rfl)) rfl
theorem k_942 : Cond.methodLink RX1 49 yJ9_min_7cf53 ∈ gtbl := gt_in (in_S_4_4 _ (List.mem_of_getElem? (i := 23) rfl)) rfl
theorem k_943 : Cond.static yJ9_min_7cf53 ∈ gtbl := gt_in (in_S_4_4 _ (List.mem_of_getElem? (i := 24) rfl)) rfl
theorem k_944 : Cond.code yJ9_min_7cf53 cJ9_min_7cf53 2 (some .int) ∈ gtbl := gt_in (in_S_4_4 _ (List.mem_of_getElem? (i := 25) rfl)) rfl
theorem k_945 : Cond.methodLink RL 137 yX9_count ∈ gtbl := gt_in (in_S_4_4 _ (List.mem_of_getElem? (i := 26) rfl)) rfl
theorem k_946 : Cond.instanceMethod yX9_count ∈ gtbl := gt_in (in_S_4_4 _ (List.mem_of_getElem? (i := 27) rfl)) rfl
theorem k_947 : Cond.selects RX9 yX9_count yX9_count ∈ gtbl := gt_in (in_S_4_4 _ (List.mem_of_getElem? (i := 28) rfl)) rfl
theorem k_948 : Cond.code yX9_count cX9_count 2 (some .int) ∈ gtbl := gt_in (in_S_4_4 _ (List.mem_of_getElem? (i := 29) rfl)) rfl
theorem in_S_4_5 : ∀ w ∈ S_4_5, w ∈ lw_tbl := fun w h => List.mem_append_right _ (List.mem_append_right _ (List.mem_append_right _ (List.mem_append_right _ (List.mem_append_left _ (eq_4 ▸ (List.mem_append_right _ (List.mem_append_right _ (List.mem_append_right _ (List.mem_append_right _ (List.mem_append_right _ (List.mem_append_left _ h))))) : w ∈ S_4_0 ++ (S_4_1 ++ (S_4_2 ++ (S_4_3 ++ (S_4_4 ++ (S_4_5 ++ (S_4_6 ++ (S_4_7)))))))))))))
theorem k_949 : Cond.methodLink RX9 289 yX1_cyclesOfThree ∈ gtbl := gt_in (in_S_4_5 _ (List.mem_of_getElem? (i := 0) rfl)) rfl
theorem k_950 : Cond.instanceMethod yX1_cyclesOfThree ∈ gtbl := gt_in (in_S_4_5 _ (List.mem_of_getElem? (i := 1) rfl)) rfl
theorem k_951 : Cond.selects RX1 yX1_cyclesOfThree yX1_cyclesOfThree ∈ gtbl := gt_in (in_S_4_5 _ (List.mem_of_getElem? (i := 2) rfl)) rfl
theorem k_952 : Cond.code yX1_cyclesOfThree cX1_cyclesOfThree 5 (some .int) ∈ gtbl := gt_in (in_S_4_5 _ (List.mem_of_getElem? (i := 3) rfl)) rfl
theorem k_953 : Cond.methodLink RX9 295 yX1_unbeatenOf ∈ gtbl := gt_in (in_S_4_5 _ (List.mem_of_getElem? (i := 4) rfl)) rfl
theorem k_954 : Cond.methodLink RL 39 yL_duel ∈ gtbl := gt_in (in_S_4_5 _ (List.mem_of_getElem? (i := 5) rfl)) rfl
theorem k_955 : Cond.static yL_duel ∈ gtbl := gt_in (in_S_4_5 _ (List.mem_of_getElem? (i := 6) rfl)) rfl
theorem k_957 : Cond.classLink RL 13 "java/util/NoSuchElementException" ∈ gtbl := gt_in (in_S_4_5 _ (List.mem_of_getElem? (i := 8) rfl)) rfl
theorem k_958 : Cond.methodLink RL 7 yX9_duel ∈ gtbl := gt_in (in_S_4_5 _ (List.mem_of_getElem? (i := 9) rfl)) rfl
theorem k_959 : Cond.instanceMethod yX9_duel ∈ gtbl := gt_in (in_S_4_5 _ (List.mem_of_getElem? (i := 10) rfl)) rfl
theorem k_960 : Cond.selects RX9 yX9_duel yX9_duel ∈ gtbl := gt_in (in_S_4_5 _ (List.mem_of_getElem? (i := 11) rfl)) rfl
theorem k_961 : Cond.code yX9_duel cX9_duel 4 (some .int) ∈ gtbl := gt_in (in_S_4_5 _ (List.mem_of_getElem? (i := 12) rfl)) rfl
theorem k_962 : Cond.classLink RX9 118 "java/util/NoSuchElementException" ∈ gtbl := gt_in (in_S_4_5 _ (List.mem_of_getElem? (i := 13) rfl)) rfl
theorem k_963 : Cond.instantiable "java/util/NoSuchElementException" 6 ∈ gtbl := gt_in (in_S_4_5 _ (List.mem_of_getElem? (i := 14) rfl)) rfl
theorem k_973 : Cond.lays "java/util/NoSuchElementException" "java/lang/Throwable" "cause" "Ljava/lang/Throwable;" ∈ gtbl := gt_in (in_S_4_5 _ (List.mem_of_getElem? (i := 24) rfl)) rfl
theorem k_974 : Cond.lays "java/lang/Throwable" "java/lang/Throwable" "cause" "Ljava/lang/Throwable;" ∈ gtbl := gt_in (in_S_4_5 _ (List.mem_of_getElem? (i := 25) rfl)) rfl
theorem k_975 : Cond.lays "java/util/NoSuchElementException" "java/lang/Throwable" "stackTrace" "[Ljava/lang/StackTraceElement;" ∈ gtbl := gt_in (in_S_4_5 _ (List.mem_of_getElem? (i := 26) rfl)) rfl
theorem k_976 : Cond.lays "java/lang/Throwable" "java/lang/Throwable" "stackTrace" "[Ljava/lang/StackTraceElement;" ∈ gtbl := gt_in (in_S_4_5 _ (List.mem_of_getElem? (i := 27) rfl)) rfl
theorem k_977 : Cond.lays "java/util/NoSuchElementException" "java/lang/Throwable" "suppressedExceptions" "Ljava/util/List;" ∈ gtbl := gt_in (in_S_4_5 _ (List.mem_of_getElem? (i := 28) rfl)) rfl
theorem k_978 : Cond.lays "java/lang/Throwable" "java/lang/Throwable" "suppressedExceptions" "Ljava/util/List;" ∈ gtbl := gt_in (in_S_4_5 _ (List.mem_of_getElem? (i := 29) rfl)) rfl
theorem in_S_4_6 : ∀ w ∈ S_4_6, w ∈ lw_tbl := fun w h => List.mem_append_right _ (List.mem_append_right _ (List.mem_append_right _ (List.mem_append_right _ (List.mem_append_left _ (eq_4 ▸ (List.mem_append_right _ (List.mem_append_right _ (List.mem_append_right _ (List.mem_append_right _ (List.mem_append_right _ (List.mem_append_right _ (List.mem_append_left _ h)))))) : w ∈ S_4_0 ++ (S_4_1 ++ (S_4_2 ++ (S_4_3 ++ (S_4_4 ++ (S_4_5 ++ (S_4_6 ++ (S_4_7)))))))))))))
theorem k_979 : Cond.lays "java/util/NoSuchElementException" "java/lang/Throwable" "detailMessage" "Ljava/lang/String;" ∈ gtbl := gt_in (in_S_4_6 _ (List.mem_of_getElem? (i := 0) rfl)) rfl
theorem k_980 : Cond.lays "java/lang/Throwable" "java/lang/Throwable" "detailMessage" "Ljava/lang/String;" ∈ gtbl := gt_in (in_S_4_6 _ (List.mem_of_getElem? (i := 1) rfl)) rfl
theorem k_981 : Cond.lays "java/util/NoSuchElementException" "java/lang/Throwable" "backtrace" "Ljava/lang/Object;" ∈ gtbl := gt_in (in_S_4_6 _ (List.mem_of_getElem? (i := 2) rfl)) rfl
theorem k_982 : Cond.lays "java/lang/Throwable" "java/lang/Throwable" "backtrace" "Ljava/lang/Object;" ∈ gtbl := gt_in (in_S_4_6 _ (List.mem_of_getElem? (i := 3) rfl)) rfl
theorem k_983 : Cond.fieldLink "java/lang/Throwable" 198 "java/lang/Throwable" "backtrace" "Ljava/lang/Object;" ∈ gtbl := gt_in (in_S_4_6 _ (List.mem_of_getElem? (i := 4) rfl)) rfl
theorem k_985 : Cond.instanceMethod ⟨"java/lang/Throwable", "<init>", "()V"⟩ ∈ gtbl := gt_in (in_S_4_6 _ (List.mem_of_getElem? (i := 6) rfl)) rfl
theorem k_987 : Cond.methodLink "java/lang/Throwable" 1 ⟨"java/lang/Object", "<init>", "()V"⟩ ∈ gtbl := gt_in (in_S_4_6 _ (List.mem_of_getElem? (i := 8) rfl)) rfl
theorem k_988 : Cond.fieldLink "java/lang/Throwable" 13 "java/lang/Throwable" "UNASSIGNED_STACK" "[Ljava/lang/StackTraceElement;" ∈ gtbl := gt_in (in_S_4_6 _ (List.mem_of_getElem? (i := 9) rfl)) rfl
theorem k_990 : Cond.fieldLink "java/lang/Throwable" 20 "java/lang/Throwable" "SUPPRESSED_SENTINEL" "Ljava/util/List;" ∈ gtbl := gt_in (in_S_4_6 _ (List.mem_of_getElem? (i := 11) rfl)) rfl
theorem k_992 : Cond.methodLink "java/lang/Throwable" 27 ⟨"java/lang/Throwable", "fillInStackTrace", "()Ljava/lang/Throwable;"⟩ ∈ gtbl := gt_in (in_S_4_6 _ (List.mem_of_getElem? (i := 13) rfl)) rfl
theorem k_993 : Cond.instanceMethod ⟨"java/lang/Throwable", "fillInStackTrace", "()Ljava/lang/Throwable;"⟩ ∈ gtbl := gt_in (in_S_4_6 _ (List.mem_of_getElem? (i := 14) rfl)) rfl
theorem k_996 : Cond.methodLink "java/lang/Throwable" 202 ⟨"java/lang/Throwable", "fillInStackTrace", "(I)Ljava/lang/Throwable;"⟩ ∈ gtbl := gt_in (in_S_4_6 _ (List.mem_of_getElem? (i := 17) rfl)) rfl
theorem k_998 : Cond.instanceMethod ⟨"java/lang/Throwable", "fillInStackTrace", "(I)Ljava/lang/Throwable;"⟩ ∈ gtbl := gt_in (in_S_4_6 _ (List.mem_of_getElem? (i := 19) rfl)) rfl
theorem k_999 : Cond.instantiable "java/lang/Throwable" 6 ∈ gtbl := gt_in (in_S_4_6 _ (List.mem_of_getElem? (i := 20) rfl)) rfl
theorem k_1000 : Cond.native ⟨"java/lang/Throwable", "fillInStackTrace", "(I)Ljava/lang/Throwable;"⟩ ∈ gtbl := gt_in (in_S_4_6 _ (List.mem_of_getElem? (i := 21) rfl)) rfl
theorem k_1002 : Cond.methodLink RX9 122 ⟨"java/util/NoSuchElementException", "<init>", "(Ljava/lang/String;)V"⟩ ∈ gtbl := gt_in (in_S_4_6 _ (List.mem_of_getElem? (i := 23) rfl)) rfl
theorem k_1003 : Cond.instanceMethod ⟨"java/util/NoSuchElementException", "<init>", "(Ljava/lang/String;)V"⟩ ∈ gtbl := gt_in (in_S_4_6 _ (List.mem_of_getElem? (i := 24) rfl)) rfl
theorem k_1005 : Cond.methodLink "java/util/NoSuchElementException" 13 ⟨"java/lang/RuntimeException", "<init>", "(Ljava/lang/String;)V"⟩ ∈ gtbl := gt_in (in_S_4_6 _ (List.mem_of_getElem? (i := 26) rfl)) rfl
theorem k_1006 : Cond.instanceMethod ⟨"java/lang/RuntimeException", "<init>", "(Ljava/lang/String;)V"⟩ ∈ gtbl := gt_in (in_S_4_6 _ (List.mem_of_getElem? (i := 27) rfl)) rfl
theorem k_1008 : Cond.methodLink "java/lang/RuntimeException" 7 ⟨"java/lang/Exception", "<init>", "(Ljava/lang/String;)V"⟩ ∈ gtbl := gt_in (in_S_4_6 _ (List.mem_of_getElem? (i := 29) rfl)) rfl
theorem in_S_4_7 : ∀ w ∈ S_4_7, w ∈ lw_tbl := fun w h => List.mem_append_right _ (List.mem_append_right _ (List.mem_append_right _ (List.mem_append_right _ (List.mem_append_left _ (eq_4 ▸ (List.mem_append_right _ (List.mem_append_right _ (List.mem_append_right _ (List.mem_append_right _ (List.mem_append_right _ (List.mem_append_right _ (List.mem_append_right _ (h))))))) : w ∈ S_4_0 ++ (S_4_1 ++ (S_4_2 ++ (S_4_3 ++ (S_4_4 ++ (S_4_5 ++ (S_4_6 ++ (S_4_7)))))))))))))
theorem k_1009 : Cond.instanceMethod ⟨"java/lang/Exception", "<init>", "(Ljava/lang/String;)V"⟩ ∈ gtbl := gt_in (in_S_4_7 _ (List.mem_of_getElem? (i := 0) rfl)) rfl
theorem k_1011 : Cond.methodLink "java/lang/Exception" 7 ⟨"java/lang/Throwable", "<init>", "(Ljava/lang/String;)V"⟩ ∈ gtbl := gt_in (in_S_4_7 _ (List.mem_of_getElem? (i := 2) rfl)) rfl
theorem k_1012 : Cond.instanceMethod ⟨"java/lang/Throwable", "<init>", "(Ljava/lang/String;)V"⟩ ∈ gtbl := gt_in (in_S_4_7 _ (List.mem_of_getElem? (i := 3) rfl)) rfl
theorem k_1015 : Cond.fieldLink "java/lang/Throwable" 31 "java/lang/Throwable" "detailMessage" "Ljava/lang/String;" ∈ gtbl := gt_in (in_S_4_7 _ (List.mem_of_getElem? (i := 6) rfl)) rfl
theorem k_1016 : Cond.fieldLink "java/lang/Throwable" 7 "java/lang/Throwable" "cause" "Ljava/lang/Throwable;" ∈ gtbl := gt_in (in_S_4_7 _ (List.mem_of_getElem? (i := 7) rfl)) rfl
theorem k_1017 : Cond.fieldLink "java/lang/Throwable" 17 "java/lang/Throwable" "stackTrace" "[Ljava/lang/StackTraceElement;" ∈ gtbl := gt_in (in_S_4_7 _ (List.mem_of_getElem? (i := 8) rfl)) rfl
theorem k_1018 : Cond.fieldLink "java/lang/Throwable" 24 "java/lang/Throwable" "suppressedExceptions" "Ljava/util/List;" ∈ gtbl := gt_in (in_S_4_7 _ (List.mem_of_getElem? (i := 9) rfl)) rfl
theorem k_1023 : Cond.lays "java/util/NoSuchElementException" "java/lang/Throwable" "depth" "I" ∈ gtbl := gt_in (in_S_4_7 _ (List.mem_of_getElem? (i := 14) rfl)) rfl
theorem k_1027 : Cond.arrayClass .byte ∈ gtbl := gt_in (in_S_4_7 _ (List.mem_of_getElem? (i := 18) rfl)) rfl
theorem k_1028 : Cond.methodLink RX9 125 yX1_isBeating ∈ gtbl := gt_in (in_S_4_7 _ (List.mem_of_getElem? (i := 19) rfl)) rfl
theorem k_1029 : Cond.methodLink RX9 132 yX6_isCovering ∈ gtbl := gt_in (in_S_4_7 _ (List.mem_of_getElem? (i := 20) rfl)) rfl
theorem k_1030 : Cond.methodLink RX9 143 yX9_lowestOf ∈ gtbl := gt_in (in_S_4_7 _ (List.mem_of_getElem? (i := 21) rfl)) rfl
theorem k_1031 : Cond.classLink RL 16 RX10 ∈ gtbl := gt_in (in_S_4_7 _ (List.mem_of_getElem? (i := 22) rfl)) rfl
theorem k_1032 : Cond.instantiable RX10 38 ∈ gtbl := gt_in (in_S_4_7 _ (List.mem_of_getElem? (i := 23) rfl)) rfl
theorem k_1033 : Cond.methodLink RL 18 yX10_init ∈ gtbl := gt_in (in_S_4_7 _ (List.mem_of_getElem? (i := 24) rfl)) rfl
theorem k_1034 : Cond.instanceMethod yX10_init ∈ gtbl := gt_in (in_S_4_7 _ (List.mem_of_getElem? (i := 25) rfl)) rfl
theorem k_1035 : Cond.code yX10_init cX10_init 1 none ∈ gtbl := gt_in (in_S_4_7 _ (List.mem_of_getElem? (i := 26) rfl)) rfl
theorem k_1036 : Cond.methodLink RX10 3 ⟨"java/lang/Object", "<init>", "()V"⟩ ∈ gtbl := gt_in (in_S_4_7 _ (List.mem_of_getElem? (i := 27) rfl)) rfl
theorem k_1037 : Cond.fieldLink RX10 90 "DuelRoundModel" "thrown" "I" ∈ gtbl := gt_in (in_S_4_7 _ (List.mem_of_getElem? (i := 28) rfl)) rfl
theorem k_1038 : Cond.fieldLink RX10 9 "DuelRoundModel" "row" "[I" ∈ gtbl := gt_in (in_S_4_7 _ (List.mem_of_getElem? (i := 29) rfl)) rfl
def S_5_0 : List Cond := [Cond.fieldLink RX10 15 "DuelRoundModel" "undos" "[I", Cond.fieldLink RX10 109 "DuelRoundModel" "nUndo" "I", Cond.fieldLink RX10 18 "DuelRoundModel" "kept" "[I", Cond.fieldLink RX10 21 "DuelRoundModel" "isKept" "[Z", Cond.fieldLink RX10 25 "DuelRoundModel" "text" "[B", Cond.fieldLink RX10 112 "DuelRoundModel" "texted" "I", Cond.fieldLink RX10 122 "DuelRoundModel" "reading" "I", Cond.fieldLink RX10 119 "DuelRoundModel" "fault" "I", Cond.fieldLink RX10 115 "DuelRoundModel" "isGood" "Z", Cond.fieldLink RX10 29 "DuelRoundModel" "told" "[I", Cond.fieldLink RX10 32 "DuelRoundModel" "draft" "[I", Cond.fieldLink RX10 35 "DuelRoundModel" "link" "[I", Cond.fieldLink RX10 38 "DuelRoundModel" "open" "[I", Cond.fieldLink RX10 41 "DuelRoundModel" "above" "[I", Cond.fieldLink RX10 44 "DuelRoundModel" "rest" "[I", Cond.fieldLink RX10 209 "DuelRoundModel" "links" "I", Cond.fieldLink RX10 47 "DuelRoundModel" "turned" "[I", Cond.fieldLink RX10 50 "DuelRoundModel" "ways" "[I", Cond.fieldLink RX10 53 "DuelRoundModel" "pairing" "[I", Cond.fieldLink RX10 56 "DuelRoundModel" "weight" "[I", Cond.fieldLink RX10 59 "DuelRoundModel" "keeping" "[I", Cond.fieldLink RX10 62 "DuelRoundModel" "closure" "[I", Cond.fieldLink RX10 65 "DuelRoundModel" "cups" "[I", Cond.fieldLink RX10 68 "DuelRoundModel" "sets" "[I", Cond.fieldLink RX10 71 "DuelRoundModel" "order" "[I", Cond.fieldLink RX10 74 "DuelRoundModel" "left" "[I", Cond.fieldLink RX10 77 "DuelRoundModel" "code" "[I", Cond.fieldLink RX10 80 "DuelRoundModel" "lineAt" "[I", Cond.fieldLink RX10 83 "DuelRoundModel" "lineKind" "[I", Cond.fieldLink RX10 312 "DuelRoundModel" "codes" "I"]
def S_5_1 : List Cond := [Cond.fieldLink RX10 326 "DuelRoundModel" "lines" "I", Cond.fieldLink RX10 86 "DuelRoundModel" "judgedWrong" "I", Cond.fieldLink RX10 374 "DuelRoundModel" "judgedWhy" "I", Cond.fieldLink RX10 377 "DuelRoundModel" "judgedLines" "I", Cond.fieldLink RX10 380 "DuelRoundModel" "judgedFirst" "I", Cond.fieldLink RX10 371 "DuelRoundModel" "isJudged" "Z", Cond.lays RX10 "DuelRoundModel" "thrown" "I", (Jvm.Cond.soleField "DuelRoundModel" "thrown"), Cond.laysFinal RX10 "DuelRoundModel" "row" "[I", (Jvm.Cond.soleField "DuelRoundModel" "row"), Cond.laysFinal RX10 "DuelRoundModel" "undos" "[I", (Jvm.Cond.soleField "DuelRoundModel" "undos"), Cond.lays RX10 "DuelRoundModel" "nUndo" "I", (Jvm.Cond.soleField "DuelRoundModel" "nUndo"), Cond.laysFinal RX10 "DuelRoundModel" "kept" "[I", (Jvm.Cond.soleField "DuelRoundModel" "kept"), Cond.laysFinal RX10 "DuelRoundModel" "isKept" "[Z", (Jvm.Cond.soleField "DuelRoundModel" "isKept"), Cond.laysFinal RX10 "DuelRoundModel" "text" "[B", (Jvm.Cond.soleField "DuelRoundModel" "text"), Cond.lays RX10 "DuelRoundModel" "texted" "I", (Jvm.Cond.soleField "DuelRoundModel" "texted"), Cond.lays RX10 "DuelRoundModel" "reading" "I", (Jvm.Cond.soleField "DuelRoundModel" "reading"), Cond.lays RX10 "DuelRoundModel" "fault" "I", (Jvm.Cond.soleField "DuelRoundModel" "fault"), Cond.lays RX10 "DuelRoundModel" "isGood" "Z", (Jvm.Cond.soleField "DuelRoundModel" "isGood"), Cond.laysFinal RX10 "DuelRoundModel" "told" "[I", (Jvm.Cond.soleField "DuelRoundModel" "told")]
def S_5_2 : List Cond := [Cond.laysFinal RX10 "DuelRoundModel" "draft" "[I", (Jvm.Cond.soleField "DuelRoundModel" "draft"), Cond.laysFinal RX10 "DuelRoundModel" "link" "[I", (Jvm.Cond.soleField "DuelRoundModel" "link"), Cond.laysFinal RX10 "DuelRoundModel" "open" "[I", (Jvm.Cond.soleField "DuelRoundModel" "open"), Cond.laysFinal RX10 "DuelRoundModel" "above" "[I", (Jvm.Cond.soleField "DuelRoundModel" "above"), Cond.laysFinal RX10 "DuelRoundModel" "rest" "[I", (Jvm.Cond.soleField "DuelRoundModel" "rest"), Cond.lays RX10 "DuelRoundModel" "links" "I", (Jvm.Cond.soleField "DuelRoundModel" "links"), Cond.laysFinal RX10 "DuelRoundModel" "turned" "[I", (Jvm.Cond.soleField "DuelRoundModel" "turned"), Cond.laysFinal RX10 "DuelRoundModel" "ways" "[I", (Jvm.Cond.soleField "DuelRoundModel" "ways"), Cond.laysFinal RX10 "DuelRoundModel" "pairing" "[I", (Jvm.Cond.soleField "DuelRoundModel" "pairing"), Cond.laysFinal RX10 "DuelRoundModel" "weight" "[I", (Jvm.Cond.soleField "DuelRoundModel" "weight"), Cond.laysFinal RX10 "DuelRoundModel" "keeping" "[I", (Jvm.Cond.soleField "DuelRoundModel" "keeping"), Cond.laysFinal RX10 "DuelRoundModel" "closure" "[I", (Jvm.Cond.soleField "DuelRoundModel" "closure"), Cond.laysFinal RX10 "DuelRoundModel" "cups" "[I", (Jvm.Cond.soleField "DuelRoundModel" "cups"), Cond.laysFinal RX10 "DuelRoundModel" "sets" "[I", (Jvm.Cond.soleField "DuelRoundModel" "sets"), Cond.laysFinal RX10 "DuelRoundModel" "order" "[I", (Jvm.Cond.soleField "DuelRoundModel" "order")]
def S_5_3 : List Cond := [Cond.laysFinal RX10 "DuelRoundModel" "left" "[I", (Jvm.Cond.soleField "DuelRoundModel" "left"), Cond.laysFinal RX10 "DuelRoundModel" "code" "[I", (Jvm.Cond.soleField "DuelRoundModel" "code"), Cond.laysFinal RX10 "DuelRoundModel" "lineAt" "[I", (Jvm.Cond.soleField "DuelRoundModel" "lineAt"), Cond.laysFinal RX10 "DuelRoundModel" "lineKind" "[I", (Jvm.Cond.soleField "DuelRoundModel" "lineKind"), Cond.lays RX10 "DuelRoundModel" "codes" "I", (Jvm.Cond.soleField "DuelRoundModel" "codes"), Cond.lays RX10 "DuelRoundModel" "lines" "I", (Jvm.Cond.soleField "DuelRoundModel" "lines"), Cond.lays RX10 "DuelRoundModel" "judgedWrong" "I", (Jvm.Cond.soleField "DuelRoundModel" "judgedWrong"), Cond.lays RX10 "DuelRoundModel" "judgedWhy" "I", (Jvm.Cond.soleField "DuelRoundModel" "judgedWhy"), Cond.lays RX10 "DuelRoundModel" "judgedLines" "I", (Jvm.Cond.soleField "DuelRoundModel" "judgedLines"), Cond.lays RX10 "DuelRoundModel" "judgedFirst" "I", (Jvm.Cond.soleField "DuelRoundModel" "judgedFirst"), Cond.lays RX10 "DuelRoundModel" "isJudged" "Z", (Jvm.Cond.soleField "DuelRoundModel" "isJudged"), (Jvm.Cond.superclass "DuelRoundModel" "java/lang/Object"), Cond.arrayClass .boolean, Cond.methodLink RL 23 yX10_sign, Cond.instanceMethod yX10_sign, Cond.selects RX10 yX10_sign yX10_sign, Cond.code yX10_sign cX10_sign 3 (some .int), Cond.methodLink RL 28 yX10_end, Cond.instanceMethod yX10_end]
def S_5_4 : List Cond := [Cond.selects RX10 yX10_end yX10_end, Cond.code yX10_end cX10_end 2 (some .boolean), Cond.methodLink RX10 93 yX10_in, Cond.static yX10_in, Cond.code yX10_in cX10_in 6 (some .boolean), Cond.methodLink RL 33 yX10_round, Cond.instanceMethod yX10_round, Cond.selects RX10 yX10_round yX10_round, Cond.code yX10_round cX10_round 3 (some .int), Cond.methodLink RX10 149 yX10_readPair, (Jvm.Cond.privateMethod ({ cls := "DuelRoundModel", name := "readPair", desc := "()V" } : Jvm.MethodName)), Cond.instanceMethod yX10_readPair, Cond.code yX10_readPair cX10_readPair 5 none, Cond.methodLink RX10 139 yX10_letter, (Jvm.Cond.privateMethod ({ cls := "DuelRoundModel", name := "letter", desc := "()I" } : Jvm.MethodName)), Cond.instanceMethod yX10_letter, Cond.code yX10_letter cX10_letter 1 (some .int), Cond.methodLink RX10 132 yX10_isLetterNext, (Jvm.Cond.privateMethod ({ cls := "DuelRoundModel", name := "isLetterNext", desc := "()Z" } : Jvm.MethodName)), Cond.instanceMethod yX10_isLetterNext, Cond.code yX10_isLetterNext cX10_isLetterNext 1 (some .boolean), Cond.methodLink RX10 125 yX10_next, (Jvm.Cond.privateMethod ({ cls := "DuelRoundModel", name := "next", desc := "()I" } : Jvm.MethodName)), Cond.instanceMethod yX10_next, Cond.code yX10_next cX10_next 1 (some .int), Cond.constantLong RX10 128 (97), Cond.constantLong RX10 130 (104), Cond.methodLink RX10 135 yX10_wrong, (Jvm.Cond.privateMethod ({ cls := "DuelRoundModel", name := "wrong", desc := "(I)V" } : Jvm.MethodName)), Cond.instanceMethod yX10_wrong]
def S_5_5 : List Cond := [Cond.code yX10_wrong cX10_wrong 2 none, Cond.methodLink RX10 142 yX10_takes, (Jvm.Cond.privateMethod ({ cls := "DuelRoundModel", name := "takes", desc := "(I)Z" } : Jvm.MethodName)), Cond.instanceMethod yX10_takes, Cond.code yX10_takes cX10_takes 3 (some .boolean), Cond.methodLink RX10 146 yX10_has, Cond.static yX10_has, Cond.code yX10_has cX10_has 2 (some .boolean), Cond.methodLink RX10 152 yX10_isEnd, (Jvm.Cond.privateMethod ({ cls := "DuelRoundModel", name := "isEnd", desc := "()Z" } : Jvm.MethodName)), Cond.instanceMethod yX10_isEnd, Cond.code yX10_isEnd cX10_isEnd 1 (some .boolean), Cond.methodLink RX10 155 yX10_isWholeRound, (Jvm.Cond.privateMethod ({ cls := "DuelRoundModel", name := "isWholeRound", desc := "(I)Z" } : Jvm.MethodName)), Cond.instanceMethod yX10_isWholeRound, Cond.code yX10_isWholeRound cX10_isWholeRound 4 (some .boolean), Cond.methodLink RX10 158 yX10_begin, (Jvm.Cond.privateMethod ({ cls := "DuelRoundModel", name := "begin", desc := "(I)V" } : Jvm.MethodName)), Cond.instanceMethod yX10_begin, Cond.code yX10_begin cX10_begin 3 none, Cond.methodLink RL 38 yX10_drawn, Cond.instanceMethod yX10_drawn, Cond.selects RX10 yX10_drawn yX10_drawn, Cond.code yX10_drawn cX10_drawn 6 (some .int), Cond.constantLong RX10 161 (8), Cond.constantLong RX10 163 (999999), Cond.constant RX10 165 (1000003), Cond.methodLink RL 44 yX10_duel, Cond.instanceMethod yX10_duel, Cond.selects RX10 yX10_duel yX10_duel]
def S_5_6 : List Cond := [Cond.code yX10_duel cX10_duel 4 (some .int), Cond.methodLink RX10 170 yX10_isPlayer, (Jvm.Cond.privateMethod ({ cls := "DuelRoundModel", name := "isPlayer", desc := "(I)Z" } : Jvm.MethodName)), Cond.instanceMethod yX10_isPlayer, Cond.code yX10_isPlayer cX10_isPlayer 2 (some .boolean), Cond.methodLink RX10 166 yX10_beats, (Jvm.Cond.privateMethod ({ cls := "DuelRoundModel", name := "beats", desc := "(I)I" } : Jvm.MethodName)), Cond.instanceMethod yX10_beats, Cond.code yX10_beats cX10_beats 2 (some .int), Cond.methodLink RX10 101 yX10_all, (Jvm.Cond.privateMethod ({ cls := "DuelRoundModel", name := "all", desc := "()I" } : Jvm.MethodName)), Cond.instanceMethod yX10_all, Cond.code yX10_all cX10_all 1 (some .int), Cond.methodLink RX10 173 yX10_covers, (Jvm.Cond.privateMethod ({ cls := "DuelRoundModel", name := "covers", desc := "(III)Z" } : Jvm.MethodName)), Cond.instanceMethod yX10_covers, Cond.code yX10_covers cX10_covers 4 (some .boolean), Cond.methodLink RX10 105 yX10_isWithin, Cond.static yX10_isWithin, Cond.code yX10_isWithin cX10_isWithin 2 (some .boolean), Cond.methodLink RX10 177 yX10_over, (Jvm.Cond.privateMethod ({ cls := "DuelRoundModel", name := "over", desc := "(I)I" } : Jvm.MethodName)), Cond.instanceMethod yX10_over, Cond.code yX10_over cX10_over 2 (some .int), Cond.methodLink RX10 180 yX10_first, Cond.static yX10_first, Cond.code yX10_first cX10_first 2 (some .int), Cond.methodLink RL 48 yX10_beaten, Cond.instanceMethod yX10_beaten, Cond.selects RX10 yX10_beaten yX10_beaten]
def S_5_7 : List Cond := [Cond.code yX10_beaten cX10_beaten 3 (some .int), Cond.methodLink RX10 183 yX10_isSome, (Jvm.Cond.privateMethod ({ cls := "DuelRoundModel", name := "isSome", desc := "(I)Z" } : Jvm.MethodName)), Cond.instanceMethod yX10_isSome, Cond.code yX10_isSome cX10_isSome 2 (some .boolean), Cond.methodLink RX10 97 yX10_isRound, (Jvm.Cond.privateMethod ({ cls := "DuelRoundModel", name := "isRound", desc := "()Z" } : Jvm.MethodName)), Cond.instanceMethod yX10_isRound, Cond.code yX10_isRound cX10_isRound 1 (some .boolean), Cond.methodLink RL 52 yX10_turn, Cond.instanceMethod yX10_turn, Cond.selects RX10 yX10_turn yX10_turn, Cond.code yX10_turn cX10_turn 3 (some .int), Cond.methodLink RX10 186 yX10_remember, (Jvm.Cond.privateMethod ({ cls := "DuelRoundModel", name := "remember", desc := "()V" } : Jvm.MethodName)), Cond.instanceMethod yX10_remember, Cond.code yX10_remember cX10_remember 2 none, Cond.methodLink RX10 189 yX10_turnNow, (Jvm.Cond.privateMethod ({ cls := "DuelRoundModel", name := "turnNow", desc := "(II)V" } : Jvm.MethodName)), Cond.instanceMethod yX10_turnNow, Cond.code yX10_turnNow cX10_turnNow 3 none, Cond.methodLink RL 56 yX10_join, Cond.instanceMethod yX10_join, Cond.selects RX10 yX10_join yX10_join, Cond.code yX10_join cX10_join 4 (some .int), Cond.methodLink RX10 193 yX10_many, (Jvm.Cond.privateMethod ({ cls := "DuelRoundModel", name := "many", desc := "()I" } : Jvm.MethodName)), Cond.instanceMethod yX10_many, Cond.code yX10_many cX10_many 1 (some .int), Cond.methodLink RL 60 yX10_drop]
set_option maxRecDepth 100000 in
theorem eq_5 : S_5_0 ++ (S_5_1 ++ (S_5_2 ++ (S_5_3 ++ (S_5_4 ++ (S_5_5 ++ (S_5_6 ++ (S_5_7))))))) = tables_1_5 := rfl
theorem in_S_5_0 : ∀ w ∈ S_5_0, w ∈ lw_tbl := fun w h => List.mem_append_right _ (List.mem_append_right _ (List.mem_append_right _ (List.mem_append_right _ (List.mem_append_right _ (List.mem_append_left _ (eq_5 ▸ (List.mem_append_left _ h : w ∈ S_5_0 ++ (S_5_1 ++ (S_5_2 ++ (S_5_3 ++ (S_5_4 ++ (S_5_5 ++ (S_5_6 ++ (S_5_7))))))))))))))
theorem k_1039 : Cond.fieldLink RX10 15 "DuelRoundModel" "undos" "[I" ∈ gtbl := gt_in (in_S_5_0 _ (List.mem_of_getElem? (i := 0) rfl)) rfl
theorem k_1040 : Cond.fieldLink RX10 109 "DuelRoundModel" "nUndo" "I" ∈ gtbl := gt_in (in_S_5_0 _ (List.mem_of_getElem? (i := 1) rfl)) rfl
theorem k_1041 : Cond.fieldLink RX10 18 "DuelRoundModel" "kept" "[I" ∈ gtbl := gt_in (in_S_5_0 _ (List.mem_of_getElem? (i := 2) rfl)) rfl
theorem k_1042 : Cond.fieldLink RX10 21 "DuelRoundModel" "isKept" "[Z" ∈ gtbl := gt_in (in_S_5_0 _ (List.mem_of_getElem? (i := 3) rfl)) rfl
theorem k_1043 : Cond.fieldLink RX10 25 "DuelRoundModel" "text" "[B" ∈ gtbl := gt_in (in_S_5_0 _ (List.mem_of_getElem? (i := 4) rfl)) rfl
theorem k_1044 : Cond.fieldLink RX10 112 "DuelRoundModel" "texted" "I" ∈ gtbl := gt_in (in_S_5_0 _ (List.mem_of_getElem? (i := 5) rfl)) rfl
theorem k_1045 : Cond.fieldLink RX10 122 "DuelRoundModel" "reading" "I" ∈ gtbl := gt_in (in_S_5_0 _ (List.mem_of_getElem? (i := 6) rfl)) rfl
theorem k_1046 : Cond.fieldLink RX10 119 "DuelRoundModel" "fault" "I" ∈ gtbl := gt_in (in_S_5_0 _ (List.mem_of_getElem? (i := 7) rfl)) rfl
theorem k_1047 : Cond.fieldLink RX10 115 "DuelRoundModel" "isGood" "Z" ∈ gtbl := gt_in (in_S_5_0 _ (List.mem_of_getElem? (i := 8) rfl)) rfl
theorem k_1048 : Cond.fieldLink RX10 29 "DuelRoundModel" "told" "[I" ∈ gtbl := gt_in (in_S_5_0 _ (List.mem_of_getElem? (i := 9) rfl)) rfl
theorem k_1049 : Cond.fieldLink RX10 32 "DuelRoundModel" "draft" "[I" ∈ gtbl := gt_in (in_S_5_0 _ (List.mem_of_getElem? (i := 10) rfl)) rfl
theorem k_1050 : Cond.fieldLink RX10 35 "DuelRoundModel" "link" "[I" ∈ gtbl := gt_in (in_S_5_0 _ (List.mem_of_getElem? (i := 11) rfl)) rfl
theorem k_1051 : Cond.fieldLink RX10 38 "DuelRoundModel" "open" "[I" ∈ gtbl := gt_in (in_S_5_0 _ (List.mem_of_getElem? (i := 12) rfl)) rfl
theorem k_1052 : Cond.fieldLink RX10 41 "DuelRoundModel" "above" "[I" ∈ gtbl := gt_in (in_S_5_0 _ (List.mem_of_getElem? (i := 13) rfl)) rfl
theorem k_1053 : Cond.fieldLink RX10 44 "DuelRoundModel" "rest" "[I" ∈ gtbl := gt_in (in_S_5_0 _ (List.mem_of_getElem? (i := 14) rfl)) rfl
theorem k_1054 : Cond.fieldLink RX10 209 "DuelRoundModel" "links" "I" ∈ gtbl := gt_in (in_S_5_0 _ (List.mem_of_getElem? (i := 15) rfl)) rfl
theorem k_1055 : Cond.fieldLink RX10 47 "DuelRoundModel" "turned" "[I" ∈ gtbl := gt_in (in_S_5_0 _ (List.mem_of_getElem? (i := 16) rfl)) rfl
theorem k_1056 : Cond.fieldLink RX10 50 "DuelRoundModel" "ways" "[I" ∈ gtbl := gt_in (in_S_5_0 _ (List.mem_of_getElem? (i := 17) rfl)) rfl
theorem k_1057 : Cond.fieldLink RX10 53 "DuelRoundModel" "pairing" "[I" ∈ gtbl := gt_in (in_S_5_0 _ (List.mem_of_getElem? (i := 18) rfl)) rfl
theorem k_1058 : Cond.fieldLink RX10 56 "DuelRoundModel" "weight" "[I" ∈ gtbl := gt_in (in_S_5_0 _ (List.mem_of_getElem? (i := 19) rfl)) rfl
theorem k_1059 : Cond.fieldLink RX10 59 "DuelRoundModel" "keeping" "[I" ∈ gtbl := gt_in (in_S_5_0 _ (List.mem_of_getElem? (i := 20) rfl)) rfl
theorem k_1060 : Cond.fieldLink RX10 62 "DuelRoundModel" "closure" "[I" ∈ gtbl := gt_in (in_S_5_0 _ (List.mem_of_getElem? (i := 21) rfl)) rfl
theorem k_1061 : Cond.fieldLink RX10 65 "DuelRoundModel" "cups" "[I" ∈ gtbl := gt_in (in_S_5_0 _ (List.mem_of_getElem? (i := 22) rfl)) rfl
theorem k_1062 : Cond.fieldLink RX10 68 "DuelRoundModel" "sets" "[I" ∈ gtbl := gt_in (in_S_5_0 _ (List.mem_of_getElem? (i := 23) rfl)) rfl
theorem k_1063 : Cond.fieldLink RX10 71 "DuelRoundModel" "order" "[I" ∈ gtbl := gt_in (in_S_5_0 _ (List.mem_of_getElem? (i := 24) rfl)) rfl
theorem k_1064 : Cond.fieldLink RX10 74 "DuelRoundModel" "left" "[I" ∈ gtbl := gt_in (in_S_5_0 _ (List.mem_of_getElem? (i := 25) rfl)) rfl
theorem k_1065 : Cond.fieldLink RX10 77 "DuelRoundModel" "code" "[I" ∈ gtbl := gt_in (in_S_5_0 _ (List.mem_of_getElem? (i := 26) rfl)) rfl
theorem k_1066 : Cond.fieldLink RX10 80 "DuelRoundModel" "lineAt" "[I" ∈ gtbl := gt_in (in_S_5_0 _ (List.mem_of_getElem? (i := 27) rfl)) rfl
theorem k_1067 : Cond.fieldLink RX10 83 "DuelRoundModel" "lineKind" "[I" ∈ gtbl := gt_in (in_S_5_0 _ (List.mem_of_getElem? (i := 28) rfl)) rfl
theorem k_1068 : Cond.fieldLink RX10 312 "DuelRoundModel" "codes" "I" ∈ gtbl := gt_in (in_S_5_0 _ (List.mem_of_getElem? (i := 29) rfl)) rfl
theorem in_S_5_1 : ∀ w ∈ S_5_1, w ∈ lw_tbl := fun w h => List.mem_append_right _ (List.mem_append_right _ (List.mem_append_right _ (List.mem_append_right _ (List.mem_append_right _ (List.mem_append_left _ (eq_5 ▸ (List.mem_append_right _ (List.mem_append_left _ h) : w ∈ S_5_0 ++ (S_5_1 ++ (S_5_2 ++ (S_5_3 ++ (S_5_4 ++ (S_5_5 ++ (S_5_6 ++ (S_5_7))))))))))))))
theorem k_1069 : Cond.fieldLink RX10 326 "DuelRoundModel" "lines" "I" ∈ gtbl := gt_in (in_S_5_1 _ (List.mem_of_getElem? (i := 0) rfl)) rfl
theorem k_1070 : Cond.fieldLink RX10 86 "DuelRoundModel" "judgedWrong" "I" ∈ gtbl := gt_in (in_S_5_1 _ (List.mem_of_getElem? (i := 1) rfl)) rfl
theorem k_1071 : Cond.fieldLink RX10 374 "DuelRoundModel" "judgedWhy" "I" ∈ gtbl := gt_in (in_S_5_1 _ (List.mem_of_getElem? (i := 2) rfl)) rfl
theorem k_1072 : Cond.fieldLink RX10 377 "DuelRoundModel" "judgedLines" "I" ∈ gtbl := gt_in (in_S_5_1 _ (List.mem_of_getElem? (i := 3) rfl)) rfl
theorem k_1073 : Cond.fieldLink RX10 380 "DuelRoundModel" "judgedFirst" "I" ∈ gtbl := gt_in (in_S_5_1 _ (List.mem_of_getElem? (i := 4) rfl)) rfl
theorem k_1074 : Cond.fieldLink RX10 371 "DuelRoundModel" "isJudged" "Z" ∈ gtbl := gt_in (in_S_5_1 _ (List.mem_of_getElem? (i := 5) rfl)) rfl
theorem k_1075 : Cond.lays RX10 "DuelRoundModel" "thrown" "I" ∈ gtbl := gt_in (in_S_5_1 _ (List.mem_of_getElem? (i := 6) rfl)) rfl
theorem k_1077 : Cond.laysFinal RX10 "DuelRoundModel" "row" "[I" ∈ gtbl := gt_in (in_S_5_1 _ (List.mem_of_getElem? (i := 8) rfl)) rfl
theorem k_1079 : Cond.laysFinal RX10 "DuelRoundModel" "undos" "[I" ∈ gtbl := gt_in (in_S_5_1 _ (List.mem_of_getElem? (i := 10) rfl)) rfl
theorem k_1081 : Cond.lays RX10 "DuelRoundModel" "nUndo" "I" ∈ gtbl := gt_in (in_S_5_1 _ (List.mem_of_getElem? (i := 12) rfl)) rfl
theorem k_1083 : Cond.laysFinal RX10 "DuelRoundModel" "kept" "[I" ∈ gtbl := gt_in (in_S_5_1 _ (List.mem_of_getElem? (i := 14) rfl)) rfl
theorem k_1085 : Cond.laysFinal RX10 "DuelRoundModel" "isKept" "[Z" ∈ gtbl := gt_in (in_S_5_1 _ (List.mem_of_getElem? (i := 16) rfl)) rfl
theorem k_1087 : Cond.laysFinal RX10 "DuelRoundModel" "text" "[B" ∈ gtbl := gt_in (in_S_5_1 _ (List.mem_of_getElem? (i := 18) rfl)) rfl
theorem k_1089 : Cond.lays RX10 "DuelRoundModel" "texted" "I" ∈ gtbl := gt_in (in_S_5_1 _ (List.mem_of_getElem? (i := 20) rfl)) rfl
theorem k_1091 : Cond.lays RX10 "DuelRoundModel" "reading" "I" ∈ gtbl := gt_in (in_S_5_1 _ (List.mem_of_getElem? (i := 22) rfl)) rfl
theorem k_1093 : Cond.lays RX10 "DuelRoundModel" "fault" "I" ∈ gtbl := gt_in (in_S_5_1 _ (List.mem_of_getElem? (i := 24) rfl)) rfl
theorem k_1095 : Cond.lays RX10 "DuelRoundModel" "isGood" "Z" ∈ gtbl := gt_in (in_S_5_1 _ (List.mem_of_getElem? (i := 26) rfl)) rfl
theorem k_1097 : Cond.laysFinal RX10 "DuelRoundModel" "told" "[I" ∈ gtbl := gt_in (in_S_5_1 _ (List.mem_of_getElem? (i := 28) rfl)) rfl
theorem in_S_5_2 : ∀ w ∈ S_5_2, w ∈ lw_tbl := fun w h => List.mem_append_right _ (List.mem_append_right _ (List.mem_append_right _ (List.mem_append_right _ (List.mem_append_right _ (List.mem_append_left _ (eq_5 ▸ (List.mem_append_right _ (List.mem_append_right _ (List.mem_append_left _ h)) : w ∈ S_5_0 ++ (S_5_1 ++ (S_5_2 ++ (S_5_3 ++ (S_5_4 ++ (S_5_5 ++ (S_5_6 ++ (S_5_7))))))))))))))
theorem k_1099 : Cond.laysFinal RX10 "DuelRoundModel" "draft" "[I" ∈ gtbl := gt_in (in_S_5_2 _ (List.mem_of_getElem? (i := 0) rfl)) rfl
theorem k_1101 : Cond.laysFinal RX10 "DuelRoundModel" "link" "[I" ∈ gtbl := gt_in (in_S_5_2 _ (List.mem_of_getElem? (i := 2) rfl)) rfl
theorem k_1103 : Cond.laysFinal RX10 "DuelRoundModel" "open" "[I" ∈ gtbl := gt_in (in_S_5_2 _ (List.mem_of_getElem? (i := 4) rfl)) rfl
theorem k_1105 : Cond.laysFinal RX10 "DuelRoundModel" "above" "[I" ∈ gtbl := gt_in (in_S_5_2 _ (List.mem_of_getElem? (i := 6) rfl)) rfl
theorem k_1107 : Cond.laysFinal RX10 "DuelRoundModel" "rest" "[I" ∈ gtbl := gt_in (in_S_5_2 _ (List.mem_of_getElem? (i := 8) rfl)) rfl
theorem k_1109 : Cond.lays RX10 "DuelRoundModel" "links" "I" ∈ gtbl := gt_in (in_S_5_2 _ (List.mem_of_getElem? (i := 10) rfl)) rfl
theorem k_1111 : Cond.laysFinal RX10 "DuelRoundModel" "turned" "[I" ∈ gtbl := gt_in (in_S_5_2 _ (List.mem_of_getElem? (i := 12) rfl)) rfl
theorem k_1113 : Cond.laysFinal RX10 "DuelRoundModel" "ways" "[I" ∈ gtbl := gt_in (in_S_5_2 _ (List.mem_of_getElem? (i := 14) rfl)) rfl
theorem k_1115 : Cond.laysFinal RX10 "DuelRoundModel" "pairing" "[I" ∈ gtbl := gt_in (in_S_5_2 _ (List.mem_of_getElem? (i := 16) rfl)) rfl
theorem k_1117 : Cond.laysFinal RX10 "DuelRoundModel" "weight" "[I" ∈ gtbl := gt_in (in_S_5_2 _ (List.mem_of_getElem? (i := 18) rfl)) rfl
theorem k_1119 : Cond.laysFinal RX10 "DuelRoundModel" "keeping" "[I" ∈ gtbl := gt_in (in_S_5_2 _ (List.mem_of_getElem? (i := 20) rfl)) rfl
theorem k_1121 : Cond.laysFinal RX10 "DuelRoundModel" "closure" "[I" ∈ gtbl := gt_in (in_S_5_2 _ (List.mem_of_getElem? (i := 22) rfl)) rfl
theorem k_1123 : Cond.laysFinal RX10 "DuelRoundModel" "cups" "[I" ∈ gtbl := gt_in (in_S_5_2 _ (List.mem_of_getElem? (i := 24) rfl)) rfl
theorem k_1125 : Cond.laysFinal RX10 "DuelRoundModel" "sets" "[I" ∈ gtbl := gt_in (in_S_5_2 _ (List.mem_of_getElem? (i := 26) rfl)) rfl
theorem k_1127 : Cond.laysFinal RX10 "DuelRoundModel" "order" "[I" ∈ gtbl := gt_in (in_S_5_2 _ (List.mem_of_getElem? (i := 28) rfl)) rfl
theorem in_S_5_3 : ∀ w ∈ S_5_3, w ∈ lw_tbl := fun w h => List.mem_append_right _ (List.mem_append_right _ (List.mem_append_right _ (List.mem_append_right _ (List.mem_append_right _ (List.mem_append_left _ (eq_5 ▸ (List.mem_append_right _ (List.mem_append_right _ (List.mem_append_right _ (List.mem_append_left _ h))) : w ∈ S_5_0 ++ (S_5_1 ++ (S_5_2 ++ (S_5_3 ++ (S_5_4 ++ (S_5_5 ++ (S_5_6 ++ (S_5_7))))))))))))))
theorem k_1129 : Cond.laysFinal RX10 "DuelRoundModel" "left" "[I" ∈ gtbl := gt_in (in_S_5_3 _ (List.mem_of_getElem? (i := 0) rfl)) rfl
theorem k_1131 : Cond.laysFinal RX10 "DuelRoundModel" "code" "[I" ∈ gtbl := gt_in (in_S_5_3 _ (List.mem_of_getElem? (i := 2) rfl)) rfl
theorem k_1133 : Cond.laysFinal RX10 "DuelRoundModel" "lineAt" "[I" ∈ gtbl := gt_in (in_S_5_3 _ (List.mem_of_getElem? (i := 4) rfl)) rfl
theorem k_1135 : Cond.laysFinal RX10 "DuelRoundModel" "lineKind" "[I" ∈ gtbl := gt_in (in_S_5_3 _ (List.mem_of_getElem? (i := 6) rfl)) rfl
theorem k_1137 : Cond.lays RX10 "DuelRoundModel" "codes" "I" ∈ gtbl := gt_in (in_S_5_3 _ (List.mem_of_getElem? (i := 8) rfl)) rfl
theorem k_1139 : Cond.lays RX10 "DuelRoundModel" "lines" "I" ∈ gtbl := gt_in (in_S_5_3 _ (List.mem_of_getElem? (i := 10) rfl)) rfl
theorem k_1141 : Cond.lays RX10 "DuelRoundModel" "judgedWrong" "I" ∈ gtbl := gt_in (in_S_5_3 _ (List.mem_of_getElem? (i := 12) rfl)) rfl
theorem k_1143 : Cond.lays RX10 "DuelRoundModel" "judgedWhy" "I" ∈ gtbl := gt_in (in_S_5_3 _ (List.mem_of_getElem? (i := 14) rfl)) rfl
theorem k_1145 : Cond.lays RX10 "DuelRoundModel" "judgedLines" "I" ∈ gtbl := gt_in (in_S_5_3 _ (List.mem_of_getElem? (i := 16) rfl)) rfl
theorem k_1147 : Cond.lays RX10 "DuelRoundModel" "judgedFirst" "I" ∈ gtbl := gt_in (in_S_5_3 _ (List.mem_of_getElem? (i := 18) rfl)) rfl
theorem k_1149 : Cond.lays RX10 "DuelRoundModel" "isJudged" "Z" ∈ gtbl := gt_in (in_S_5_3 _ (List.mem_of_getElem? (i := 20) rfl)) rfl
theorem k_1152 : Cond.arrayClass .boolean ∈ gtbl := gt_in (in_S_5_3 _ (List.mem_of_getElem? (i := 23) rfl)) rfl
theorem k_1153 : Cond.methodLink RL 23 yX10_sign ∈ gtbl := gt_in (in_S_5_3 _ (List.mem_of_getElem? (i := 24) rfl)) rfl
theorem k_1154 : Cond.instanceMethod yX10_sign ∈ gtbl := gt_in (in_S_5_3 _ (List.mem_of_getElem? (i := 25) rfl)) rfl
theorem k_1155 : Cond.selects RX10 yX10_sign yX10_sign ∈ gtbl := gt_in (in_S_5_3 _ (List.mem_of_getElem? (i := 26) rfl)) rfl
theorem k_1156 : Cond.code yX10_sign cX10_sign 3 (some .int) ∈ gtbl := gt_in (in_S_5_3 _ (List.mem_of_getElem? (i := 27) rfl)) rfl
theorem k_1157 : Cond.methodLink RL 28 yX10_end ∈ gtbl := gt_in (in_S_5_3 _ (List.mem_of_getElem? (i := 28) rfl)) rfl
theorem k_1158 : Cond.instanceMethod yX10_end ∈ gtbl := gt_in (in_S_5_3 _ (List.mem_of_getElem? (i := 29) rfl)) rfl
theorem in_S_5_4 : ∀ w ∈ S_5_4, w ∈ lw_tbl := fun w h => List.mem_append_right _ (List.mem_append_right _ (List.mem_append_right _ (List.mem_append_right _ (List.mem_append_right _ (List.mem_append_left _ (eq_5 ▸ (List.mem_append_right _ (List.mem_append_right _ (List.mem_append_right _ (List.mem_append_right _ (List.mem_append_left _ h)))) : w ∈ S_5_0 ++ (S_5_1 ++ (S_5_2 ++ (S_5_3 ++ (S_5_4 ++ (S_5_5 ++ (S_5_6 ++ (S_5_7))))))))))))))
theorem k_1159 : Cond.selects RX10 yX10_end yX10_end ∈ gtbl := gt_in (in_S_5_4 _ (List.mem_of_getElem? (i := 0) rfl)) rfl
theorem k_1160 : Cond.code yX10_end cX10_end 2 (some .boolean) ∈ gtbl := gt_in (in_S_5_4 _ (List.mem_of_getElem? (i := 1) rfl)) rfl
theorem k_1161 : Cond.methodLink RX10 93 yX10_in ∈ gtbl := gt_in (in_S_5_4 _ (List.mem_of_getElem? (i := 2) rfl)) rfl
theorem k_1162 : Cond.static yX10_in ∈ gtbl := gt_in (in_S_5_4 _ (List.mem_of_getElem? (i := 3) rfl)) rfl
theorem k_1163 : Cond.code yX10_in cX10_in 6 (some .boolean) ∈ gtbl := gt_in (in_S_5_4 _ (List.mem_of_getElem? (i := 4) rfl)) rfl
theorem k_1164 : Cond.methodLink RL 33 yX10_round ∈ gtbl := gt_in (in_S_5_4 _ (List.mem_of_getElem? (i := 5) rfl)) rfl
theorem k_1165 : Cond.instanceMethod yX10_round ∈ gtbl := gt_in (in_S_5_4 _ (List.mem_of_getElem? (i := 6) rfl)) rfl
theorem k_1166 : Cond.selects RX10 yX10_round yX10_round ∈ gtbl := gt_in (in_S_5_4 _ (List.mem_of_getElem? (i := 7) rfl)) rfl
theorem k_1167 : Cond.code yX10_round cX10_round 3 (some .int) ∈ gtbl := gt_in (in_S_5_4 _ (List.mem_of_getElem? (i := 8) rfl)) rfl
theorem k_1168 : Cond.methodLink RX10 149 yX10_readPair ∈ gtbl := gt_in (in_S_5_4 _ (List.mem_of_getElem? (i := 9) rfl)) rfl
theorem k_1170 : Cond.instanceMethod yX10_readPair ∈ gtbl := gt_in (in_S_5_4 _ (List.mem_of_getElem? (i := 11) rfl)) rfl
theorem k_1171 : Cond.code yX10_readPair cX10_readPair 5 none ∈ gtbl := gt_in (in_S_5_4 _ (List.mem_of_getElem? (i := 12) rfl)) rfl
theorem k_1172 : Cond.methodLink RX10 139 yX10_letter ∈ gtbl := gt_in (in_S_5_4 _ (List.mem_of_getElem? (i := 13) rfl)) rfl
theorem k_1174 : Cond.instanceMethod yX10_letter ∈ gtbl := gt_in (in_S_5_4 _ (List.mem_of_getElem? (i := 15) rfl)) rfl
theorem k_1175 : Cond.code yX10_letter cX10_letter 1 (some .int) ∈ gtbl := gt_in (in_S_5_4 _ (List.mem_of_getElem? (i := 16) rfl)) rfl
theorem k_1176 : Cond.methodLink RX10 132 yX10_isLetterNext ∈ gtbl := gt_in (in_S_5_4 _ (List.mem_of_getElem? (i := 17) rfl)) rfl
theorem k_1178 : Cond.instanceMethod yX10_isLetterNext ∈ gtbl := gt_in (in_S_5_4 _ (List.mem_of_getElem? (i := 19) rfl)) rfl
theorem k_1179 : Cond.code yX10_isLetterNext cX10_isLetterNext 1 (some .boolean) ∈ gtbl := gt_in (in_S_5_4 _ (List.mem_of_getElem? (i := 20) rfl)) rfl
theorem k_1180 : Cond.methodLink RX10 125 yX10_next ∈ gtbl := gt_in (in_S_5_4 _ (List.mem_of_getElem? (i := 21) rfl)) rfl
theorem k_1182 : Cond.instanceMethod yX10_next ∈ gtbl := gt_in (in_S_5_4 _ (List.mem_of_getElem? (i := 23) rfl)) rfl
theorem k_1183 : Cond.code yX10_next cX10_next 1 (some .int) ∈ gtbl := gt_in (in_S_5_4 _ (List.mem_of_getElem? (i := 24) rfl)) rfl
theorem k_1184 : Cond.constantLong RX10 128 (97) ∈ gtbl := gt_in (in_S_5_4 _ (List.mem_of_getElem? (i := 25) rfl)) rfl
theorem k_1185 : Cond.constantLong RX10 130 (104) ∈ gtbl := gt_in (in_S_5_4 _ (List.mem_of_getElem? (i := 26) rfl)) rfl
theorem k_1186 : Cond.methodLink RX10 135 yX10_wrong ∈ gtbl := gt_in (in_S_5_4 _ (List.mem_of_getElem? (i := 27) rfl)) rfl
theorem k_1188 : Cond.instanceMethod yX10_wrong ∈ gtbl := gt_in (in_S_5_4 _ (List.mem_of_getElem? (i := 29) rfl)) rfl
theorem in_S_5_5 : ∀ w ∈ S_5_5, w ∈ lw_tbl := fun w h => List.mem_append_right _ (List.mem_append_right _ (List.mem_append_right _ (List.mem_append_right _ (List.mem_append_right _ (List.mem_append_left _ (eq_5 ▸ (List.mem_append_right _ (List.mem_append_right _ (List.mem_append_right _ (List.mem_append_right _ (List.mem_append_right _ (List.mem_append_left _ h))))) : w ∈ S_5_0 ++ (S_5_1 ++ (S_5_2 ++ (S_5_3 ++ (S_5_4 ++ (S_5_5 ++ (S_5_6 ++ (S_5_7))))))))))))))
theorem k_1189 : Cond.code yX10_wrong cX10_wrong 2 none ∈ gtbl := gt_in (in_S_5_5 _ (List.mem_of_getElem? (i := 0) rfl)) rfl
theorem k_1190 : Cond.methodLink RX10 142 yX10_takes ∈ gtbl := gt_in (in_S_5_5 _ (List.mem_of_getElem? (i := 1) rfl)) rfl
theorem k_1192 : Cond.instanceMethod yX10_takes ∈ gtbl := gt_in (in_S_5_5 _ (List.mem_of_getElem? (i := 3) rfl)) rfl
theorem k_1193 : Cond.code yX10_takes cX10_takes 3 (some .boolean) ∈ gtbl := gt_in (in_S_5_5 _ (List.mem_of_getElem? (i := 4) rfl)) rfl
theorem k_1194 : Cond.methodLink RX10 146 yX10_has ∈ gtbl := gt_in (in_S_5_5 _ (List.mem_of_getElem? (i := 5) rfl)) rfl
theorem k_1195 : Cond.static yX10_has ∈ gtbl := gt_in (in_S_5_5 _ (List.mem_of_getElem? (i := 6) rfl)) rfl
theorem k_1196 : Cond.code yX10_has cX10_has 2 (some .boolean) ∈ gtbl := gt_in (in_S_5_5 _ (List.mem_of_getElem? (i := 7) rfl)) rfl
theorem k_1197 : Cond.methodLink RX10 152 yX10_isEnd ∈ gtbl := gt_in (in_S_5_5 _ (List.mem_of_getElem? (i := 8) rfl)) rfl
theorem k_1199 : Cond.instanceMethod yX10_isEnd ∈ gtbl := gt_in (in_S_5_5 _ (List.mem_of_getElem? (i := 10) rfl)) rfl
theorem k_1200 : Cond.code yX10_isEnd cX10_isEnd 1 (some .boolean) ∈ gtbl := gt_in (in_S_5_5 _ (List.mem_of_getElem? (i := 11) rfl)) rfl
theorem k_1201 : Cond.methodLink RX10 155 yX10_isWholeRound ∈ gtbl := gt_in (in_S_5_5 _ (List.mem_of_getElem? (i := 12) rfl)) rfl
theorem k_1203 : Cond.instanceMethod yX10_isWholeRound ∈ gtbl := gt_in (in_S_5_5 _ (List.mem_of_getElem? (i := 14) rfl)) rfl
theorem k_1204 : Cond.code yX10_isWholeRound cX10_isWholeRound 4 (some .boolean) ∈ gtbl := gt_in (in_S_5_5 _ (List.mem_of_getElem? (i := 15) rfl)) rfl
theorem k_1205 : Cond.methodLink RX10 158 yX10_begin ∈ gtbl := gt_in (in_S_5_5 _ (List.mem_of_getElem? (i := 16) rfl)) rfl
theorem k_1207 : Cond.instanceMethod yX10_begin ∈ gtbl := gt_in (in_S_5_5 _ (List.mem_of_getElem? (i := 18) rfl)) rfl
theorem k_1208 : Cond.code yX10_begin cX10_begin 3 none ∈ gtbl := gt_in (in_S_5_5 _ (List.mem_of_getElem? (i := 19) rfl)) rfl
theorem k_1209 : Cond.methodLink RL 38 yX10_drawn ∈ gtbl := gt_in (in_S_5_5 _ (List.mem_of_getElem? (i := 20) rfl)) rfl
theorem k_1210 : Cond.instanceMethod yX10_drawn ∈ gtbl := gt_in (in_S_5_5 _ (List.mem_of_getElem? (i := 21) rfl)) rfl
theorem k_1211 : Cond.selects RX10 yX10_drawn yX10_drawn ∈ gtbl := gt_in (in_S_5_5 _ (List.mem_of_getElem? (i := 22) rfl)) rfl
theorem k_1212 : Cond.code yX10_drawn cX10_drawn 6 (some .int) ∈ gtbl := gt_in (in_S_5_5 _ (List.mem_of_getElem? (i := 23) rfl)) rfl
theorem k_1213 : Cond.constantLong RX10 161 (8) ∈ gtbl := gt_in (in_S_5_5 _ (List.mem_of_getElem? (i := 24) rfl)) rfl
theorem k_1214 : Cond.constantLong RX10 163 (999999) ∈ gtbl := gt_in (in_S_5_5 _ (List.mem_of_getElem? (i := 25) rfl)) rfl
theorem k_1215 : Cond.constant RX10 165 (1000003) ∈ gtbl := gt_in (in_S_5_5 _ (List.mem_of_getElem? (i := 26) rfl)) rfl
theorem k_1216 : Cond.methodLink RL 44 yX10_duel ∈ gtbl := gt_in (in_S_5_5 _ (List.mem_of_getElem? (i := 27) rfl)) rfl
theorem k_1217 : Cond.instanceMethod yX10_duel ∈ gtbl := gt_in (in_S_5_5 _ (List.mem_of_getElem? (i := 28) rfl)) rfl
theorem k_1218 : Cond.selects RX10 yX10_duel yX10_duel ∈ gtbl := gt_in (in_S_5_5 _ (List.mem_of_getElem? (i := 29) rfl)) rfl
theorem in_S_5_6 : ∀ w ∈ S_5_6, w ∈ lw_tbl := fun w h => List.mem_append_right _ (List.mem_append_right _ (List.mem_append_right _ (List.mem_append_right _ (List.mem_append_right _ (List.mem_append_left _ (eq_5 ▸ (List.mem_append_right _ (List.mem_append_right _ (List.mem_append_right _ (List.mem_append_right _ (List.mem_append_right _ (List.mem_append_right _ (List.mem_append_left _ h)))))) : w ∈ S_5_0 ++ (S_5_1 ++ (S_5_2 ++ (S_5_3 ++ (S_5_4 ++ (S_5_5 ++ (S_5_6 ++ (S_5_7))))))))))))))
theorem k_1219 : Cond.code yX10_duel cX10_duel 4 (some .int) ∈ gtbl := gt_in (in_S_5_6 _ (List.mem_of_getElem? (i := 0) rfl)) rfl
theorem k_1220 : Cond.methodLink RX10 170 yX10_isPlayer ∈ gtbl := gt_in (in_S_5_6 _ (List.mem_of_getElem? (i := 1) rfl)) rfl
theorem k_1222 : Cond.instanceMethod yX10_isPlayer ∈ gtbl := gt_in (in_S_5_6 _ (List.mem_of_getElem? (i := 3) rfl)) rfl
theorem k_1223 : Cond.code yX10_isPlayer cX10_isPlayer 2 (some .boolean) ∈ gtbl := gt_in (in_S_5_6 _ (List.mem_of_getElem? (i := 4) rfl)) rfl
theorem k_1224 : Cond.methodLink RX10 166 yX10_beats ∈ gtbl := gt_in (in_S_5_6 _ (List.mem_of_getElem? (i := 5) rfl)) rfl
theorem k_1226 : Cond.instanceMethod yX10_beats ∈ gtbl := gt_in (in_S_5_6 _ (List.mem_of_getElem? (i := 7) rfl)) rfl
theorem k_1227 : Cond.code yX10_beats cX10_beats 2 (some .int) ∈ gtbl := gt_in (in_S_5_6 _ (List.mem_of_getElem? (i := 8) rfl)) rfl
theorem k_1228 : Cond.methodLink RX10 101 yX10_all ∈ gtbl := gt_in (in_S_5_6 _ (List.mem_of_getElem? (i := 9) rfl)) rfl
theorem k_1230 : Cond.instanceMethod yX10_all ∈ gtbl := gt_in (in_S_5_6 _ (List.mem_of_getElem? (i := 11) rfl)) rfl
theorem k_1231 : Cond.code yX10_all cX10_all 1 (some .int) ∈ gtbl := gt_in (in_S_5_6 _ (List.mem_of_getElem? (i := 12) rfl)) rfl
theorem k_1232 : Cond.methodLink RX10 173 yX10_covers ∈ gtbl := gt_in (in_S_5_6 _ (List.mem_of_getElem? (i := 13) rfl)) rfl
theorem k_1234 : Cond.instanceMethod yX10_covers ∈ gtbl := gt_in (in_S_5_6 _ (List.mem_of_getElem? (i := 15) rfl)) rfl
theorem k_1235 : Cond.code yX10_covers cX10_covers 4 (some .boolean) ∈ gtbl := gt_in (in_S_5_6 _ (List.mem_of_getElem? (i := 16) rfl)) rfl
theorem k_1236 : Cond.methodLink RX10 105 yX10_isWithin ∈ gtbl := gt_in (in_S_5_6 _ (List.mem_of_getElem? (i := 17) rfl)) rfl
theorem k_1237 : Cond.static yX10_isWithin ∈ gtbl := gt_in (in_S_5_6 _ (List.mem_of_getElem? (i := 18) rfl)) rfl
theorem k_1238 : Cond.code yX10_isWithin cX10_isWithin 2 (some .boolean) ∈ gtbl := gt_in (in_S_5_6 _ (List.mem_of_getElem? (i := 19) rfl)) rfl
theorem k_1239 : Cond.methodLink RX10 177 yX10_over ∈ gtbl := gt_in (in_S_5_6 _ (List.mem_of_getElem? (i := 20) rfl)) rfl
theorem k_1241 : Cond.instanceMethod yX10_over ∈ gtbl := gt_in (in_S_5_6 _ (List.mem_of_getElem? (i := 22) rfl)) rfl
theorem k_1242 : Cond.code yX10_over cX10_over 2 (some .int) ∈ gtbl := gt_in (in_S_5_6 _ (List.mem_of_getElem? (i := 23) rfl)) rfl
theorem k_1243 : Cond.methodLink RX10 180 yX10_first ∈ gtbl := gt_in (in_S_5_6 _ (List.mem_of_getElem? (i := 24) rfl)) rfl
theorem k_1244 : Cond.static yX10_first ∈ gtbl := gt_in (in_S_5_6 _ (List.mem_of_getElem? (i := 25) rfl)) rfl
theorem k_1245 : Cond.code yX10_first cX10_first 2 (some .int) ∈ gtbl := gt_in (in_S_5_6 _ (List.mem_of_getElem? (i := 26) rfl)) rfl
theorem k_1246 : Cond.methodLink RL 48 yX10_beaten ∈ gtbl := gt_in (in_S_5_6 _ (List.mem_of_getElem? (i := 27) rfl)) rfl
theorem k_1247 : Cond.instanceMethod yX10_beaten ∈ gtbl := gt_in (in_S_5_6 _ (List.mem_of_getElem? (i := 28) rfl)) rfl
theorem k_1248 : Cond.selects RX10 yX10_beaten yX10_beaten ∈ gtbl := gt_in (in_S_5_6 _ (List.mem_of_getElem? (i := 29) rfl)) rfl
theorem in_S_5_7 : ∀ w ∈ S_5_7, w ∈ lw_tbl := fun w h => List.mem_append_right _ (List.mem_append_right _ (List.mem_append_right _ (List.mem_append_right _ (List.mem_append_right _ (List.mem_append_left _ (eq_5 ▸ (List.mem_append_right _ (List.mem_append_right _ (List.mem_append_right _ (List.mem_append_right _ (List.mem_append_right _ (List.mem_append_right _ (List.mem_append_right _ (h))))))) : w ∈ S_5_0 ++ (S_5_1 ++ (S_5_2 ++ (S_5_3 ++ (S_5_4 ++ (S_5_5 ++ (S_5_6 ++ (S_5_7))))))))))))))
theorem k_1249 : Cond.code yX10_beaten cX10_beaten 3 (some .int) ∈ gtbl := gt_in (in_S_5_7 _ (List.mem_of_getElem? (i := 0) rfl)) rfl
theorem k_1250 : Cond.methodLink RX10 183 yX10_isSome ∈ gtbl := gt_in (in_S_5_7 _ (List.mem_of_getElem? (i := 1) rfl)) rfl
theorem k_1252 : Cond.instanceMethod yX10_isSome ∈ gtbl := gt_in (in_S_5_7 _ (List.mem_of_getElem? (i := 3) rfl)) rfl
theorem k_1253 : Cond.code yX10_isSome cX10_isSome 2 (some .boolean) ∈ gtbl := gt_in (in_S_5_7 _ (List.mem_of_getElem? (i := 4) rfl)) rfl
theorem k_1254 : Cond.methodLink RX10 97 yX10_isRound ∈ gtbl := gt_in (in_S_5_7 _ (List.mem_of_getElem? (i := 5) rfl)) rfl
theorem k_1256 : Cond.instanceMethod yX10_isRound ∈ gtbl := gt_in (in_S_5_7 _ (List.mem_of_getElem? (i := 7) rfl)) rfl
theorem k_1257 : Cond.code yX10_isRound cX10_isRound 1 (some .boolean) ∈ gtbl := gt_in (in_S_5_7 _ (List.mem_of_getElem? (i := 8) rfl)) rfl
theorem k_1258 : Cond.methodLink RL 52 yX10_turn ∈ gtbl := gt_in (in_S_5_7 _ (List.mem_of_getElem? (i := 9) rfl)) rfl
theorem k_1259 : Cond.instanceMethod yX10_turn ∈ gtbl := gt_in (in_S_5_7 _ (List.mem_of_getElem? (i := 10) rfl)) rfl
theorem k_1260 : Cond.selects RX10 yX10_turn yX10_turn ∈ gtbl := gt_in (in_S_5_7 _ (List.mem_of_getElem? (i := 11) rfl)) rfl
theorem k_1261 : Cond.code yX10_turn cX10_turn 3 (some .int) ∈ gtbl := gt_in (in_S_5_7 _ (List.mem_of_getElem? (i := 12) rfl)) rfl
theorem k_1262 : Cond.methodLink RX10 186 yX10_remember ∈ gtbl := gt_in (in_S_5_7 _ (List.mem_of_getElem? (i := 13) rfl)) rfl
theorem k_1264 : Cond.instanceMethod yX10_remember ∈ gtbl := gt_in (in_S_5_7 _ (List.mem_of_getElem? (i := 15) rfl)) rfl
theorem k_1265 : Cond.code yX10_remember cX10_remember 2 none ∈ gtbl := gt_in (in_S_5_7 _ (List.mem_of_getElem? (i := 16) rfl)) rfl
theorem k_1266 : Cond.methodLink RX10 189 yX10_turnNow ∈ gtbl := gt_in (in_S_5_7 _ (List.mem_of_getElem? (i := 17) rfl)) rfl
theorem k_1268 : Cond.instanceMethod yX10_turnNow ∈ gtbl := gt_in (in_S_5_7 _ (List.mem_of_getElem? (i := 19) rfl)) rfl
theorem k_1269 : Cond.code yX10_turnNow cX10_turnNow 3 none ∈ gtbl := gt_in (in_S_5_7 _ (List.mem_of_getElem? (i := 20) rfl)) rfl
theorem k_1270 : Cond.methodLink RL 56 yX10_join ∈ gtbl := gt_in (in_S_5_7 _ (List.mem_of_getElem? (i := 21) rfl)) rfl
theorem k_1271 : Cond.instanceMethod yX10_join ∈ gtbl := gt_in (in_S_5_7 _ (List.mem_of_getElem? (i := 22) rfl)) rfl
theorem k_1272 : Cond.selects RX10 yX10_join yX10_join ∈ gtbl := gt_in (in_S_5_7 _ (List.mem_of_getElem? (i := 23) rfl)) rfl
theorem k_1273 : Cond.code yX10_join cX10_join 4 (some .int) ∈ gtbl := gt_in (in_S_5_7 _ (List.mem_of_getElem? (i := 24) rfl)) rfl
theorem k_1274 : Cond.methodLink RX10 193 yX10_many ∈ gtbl := gt_in (in_S_5_7 _ (List.mem_of_getElem? (i := 25) rfl)) rfl
theorem k_1276 : Cond.instanceMethod yX10_many ∈ gtbl := gt_in (in_S_5_7 _ (List.mem_of_getElem? (i := 27) rfl)) rfl
theorem k_1277 : Cond.code yX10_many cX10_many 1 (some .int) ∈ gtbl := gt_in (in_S_5_7 _ (List.mem_of_getElem? (i := 28) rfl)) rfl
theorem k_1278 : Cond.methodLink RL 60 yX10_drop ∈ gtbl := gt_in (in_S_5_7 _ (List.mem_of_getElem? (i := 29) rfl)) rfl
def S_6_0 : List Cond := [Cond.instanceMethod yX10_drop, Cond.selects RX10 yX10_drop yX10_drop, Cond.code yX10_drop cX10_drop 4 (some .int), Cond.methodLink RX10 196 yX10_without, Cond.static yX10_without, Cond.code yX10_without cX10_without 3 (some .int), Cond.methodLink RL 64 yX10_set, Cond.instanceMethod yX10_set, Cond.selects RX10 yX10_set yX10_set, Cond.code yX10_set cX10_set 3 (some .int), Cond.constantLong RX10 281 (9), Cond.methodLink RX10 283 yX10_setOf, (Jvm.Cond.privateMethod ({ cls := "DuelRoundModel", name := "setOf", desc := "(II)I" } : Jvm.MethodName)), Cond.instanceMethod yX10_setOf, Cond.code yX10_setOf cX10_setOf 3 (some .int), Cond.methodLink RX10 254 yX10_top, (Jvm.Cond.privateMethod ({ cls := "DuelRoundModel", name := "top", desc := "(I)I" } : Jvm.MethodName)), Cond.instanceMethod yX10_top, Cond.code yX10_top cX10_top 6 (some .int), Cond.methodLink RX10 200 yX10_sizeOf, Cond.static yX10_sizeOf, Cond.code yX10_sizeOf cX10_sizeOf 3 (some .int), Cond.methodLink RX10 257 yX10_most, (Jvm.Cond.privateMethod ({ cls := "DuelRoundModel", name := "most", desc := "(I)I" } : Jvm.MethodName)), Cond.instanceMethod yX10_most, Cond.code yX10_most cX10_most 5 (some .int), Cond.methodLink RX10 203 yX10_winsOf, (Jvm.Cond.privateMethod ({ cls := "DuelRoundModel", name := "winsOf", desc := "(II)I" } : Jvm.MethodName)), Cond.instanceMethod yX10_winsOf, Cond.code yX10_winsOf cX10_winsOf 3 (some .int)]
def S_6_1 : List Cond := [Cond.methodLink RX10 206 yX10_uncovered, (Jvm.Cond.privateMethod ({ cls := "DuelRoundModel", name := "uncovered", desc := "(I)I" } : Jvm.MethodName)), Cond.instanceMethod yX10_uncovered, Cond.code yX10_uncovered cX10_uncovered 5 (some .int), Cond.methodLink RX10 260 yX10_againUncovered, (Jvm.Cond.privateMethod ({ cls := "DuelRoundModel", name := "againUncovered", desc := "(I)I" } : Jvm.MethodName)), Cond.instanceMethod yX10_againUncovered, Cond.code yX10_againUncovered cX10_againUncovered 4 (some .int), Cond.methodLink RX10 263 yX10_banks, (Jvm.Cond.privateMethod ({ cls := "DuelRoundModel", name := "banks", desc := "(I)I" } : Jvm.MethodName)), Cond.instanceMethod yX10_banks, Cond.code yX10_banks cX10_banks 4 (some .int), Cond.methodLink RX10 212 yX10_hasChain, (Jvm.Cond.privateMethod ({ cls := "DuelRoundModel", name := "hasChain", desc := "(II)Z" } : Jvm.MethodName)), Cond.instanceMethod yX10_hasChain, Cond.code yX10_hasChain cX10_hasChain 4 (some .boolean), Cond.methodLink RX10 266 yX10_slater, (Jvm.Cond.privateMethod ({ cls := "DuelRoundModel", name := "slater", desc := "(I)I" } : Jvm.MethodName)), Cond.instanceMethod yX10_slater, Cond.code yX10_slater cX10_slater 4 (some .int), Cond.methodLink RX10 218 yX10_layOrders, (Jvm.Cond.privateMethod ({ cls := "DuelRoundModel", name := "layOrders", desc := "()V" } : Jvm.MethodName)), Cond.instanceMethod yX10_layOrders, Cond.code yX10_layOrders cX10_layOrders 3 none, Cond.methodLink RX10 215 yX10_turnedBy, (Jvm.Cond.privateMethod ({ cls := "DuelRoundModel", name := "turnedBy", desc := "(II)I" } : Jvm.MethodName)), Cond.instanceMethod yX10_turnedBy, Cond.code yX10_turnedBy cX10_turnedBy 3 (some .int), Cond.methodLink RX10 269 yX10_covering, (Jvm.Cond.privateMethod ({ cls := "DuelRoundModel", name := "covering", desc := "(I)I" } : Jvm.MethodName))]
def S_6_2 : List Cond := [Cond.instanceMethod yX10_covering, Cond.code yX10_covering cX10_covering 4 (some .int), Cond.methodLink RX10 221 yX10_isCovering, (Jvm.Cond.privateMethod ({ cls := "DuelRoundModel", name := "isCovering", desc := "(II)Z" } : Jvm.MethodName)), Cond.instanceMethod yX10_isCovering, Cond.code yX10_isCovering cX10_isCovering 7 (some .boolean), Cond.methodLink RX10 272 yX10_balanced, (Jvm.Cond.privateMethod ({ cls := "DuelRoundModel", name := "balanced", desc := "(I)I" } : Jvm.MethodName)), Cond.instanceMethod yX10_balanced, Cond.code yX10_balanced cX10_balanced 3 (some .int), Cond.methodLink RX10 233 yX10_layPairings, (Jvm.Cond.privateMethod ({ cls := "DuelRoundModel", name := "layPairings", desc := "()V" } : Jvm.MethodName)), Cond.instanceMethod yX10_layPairings, Cond.code yX10_layPairings cX10_layPairings 6 none, Cond.methodLink RX10 224 yX10_against, (Jvm.Cond.privateMethod ({ cls := "DuelRoundModel", name := "against", desc := "(II)I" } : Jvm.MethodName)), Cond.instanceMethod yX10_against, Cond.code yX10_against cX10_against 3 (some .int), Cond.methodLink RX10 236 yX10_weighs, (Jvm.Cond.privateMethod ({ cls := "DuelRoundModel", name := "weighs", desc := "(I)Z" } : Jvm.MethodName)), Cond.instanceMethod yX10_weighs, Cond.code yX10_weighs cX10_weighs 8 (some .boolean), Cond.methodLink RX10 227 yX10_commonOf, Cond.static yX10_commonOf, Cond.code yX10_commonOf cX10_commonOf 5 (some .int), Cond.methodLink RX10 239 yX10_nobodyGains, (Jvm.Cond.privateMethod ({ cls := "DuelRoundModel", name := "nobodyGains", desc := "(I)Z" } : Jvm.MethodName)), Cond.instanceMethod yX10_nobodyGains, Cond.code yX10_nobodyGains cX10_nobodyGains 4 (some .boolean), Cond.methodLink RX10 230 yX10_gains]
def S_6_3 : List Cond := [(Jvm.Cond.privateMethod ({ cls := "DuelRoundModel", name := "gains", desc := "(I)I" } : Jvm.MethodName)), Cond.instanceMethod yX10_gains, Cond.code yX10_gains cX10_gains 4 (some .int), Cond.methodLink RX10 275 yX10_layKeeping, (Jvm.Cond.privateMethod ({ cls := "DuelRoundModel", name := "layKeeping", desc := "()V" } : Jvm.MethodName)), Cond.instanceMethod yX10_layKeeping, Cond.code yX10_layKeeping cX10_layKeeping 6 none, Cond.methodLink RX10 242 yX10_closed, (Jvm.Cond.privateMethod ({ cls := "DuelRoundModel", name := "closed", desc := "(II)I" } : Jvm.MethodName)), Cond.instanceMethod yX10_closed, Cond.code yX10_closed cX10_closed 6 (some .int), Cond.methodLink RX10 278 yX10_cupOf, (Jvm.Cond.privateMethod ({ cls := "DuelRoundModel", name := "cupOf", desc := "(I)I" } : Jvm.MethodName)), Cond.instanceMethod yX10_cupOf, Cond.code yX10_cupOf cX10_cupOf 4 (some .int), Cond.methodLink RX10 248 yX10_isCup, Cond.static yX10_isCup, Cond.code yX10_isCup cX10_isCup 1 (some .boolean), Cond.methodLink RX10 251 yX10_layCups, (Jvm.Cond.privateMethod ({ cls := "DuelRoundModel", name := "layCups", desc := "()V" } : Jvm.MethodName)), Cond.instanceMethod yX10_layCups, Cond.code yX10_layCups cX10_layCups 4 none, Cond.methodLink RX10 245 yX10_layHalves, (Jvm.Cond.privateMethod ({ cls := "DuelRoundModel", name := "layHalves", desc := "(II)V" } : Jvm.MethodName)), Cond.instanceMethod yX10_layHalves, Cond.code yX10_layHalves cX10_layHalves 6 none, Cond.methodLink RL 68 yX10_praised, Cond.instanceMethod yX10_praised, Cond.selects RX10 yX10_praised yX10_praised, Cond.code yX10_praised cX10_praised 5 (some .int)]
def S_6_4 : List Cond := [Cond.constantLong RX10 286 (-1), Cond.methodLink RL 72 yX10_within, Cond.instanceMethod yX10_within, Cond.selects RX10 yX10_within yX10_within, Cond.code yX10_within cX10_within 7 (some .int), Cond.methodLink RL 76 yX10_chain, Cond.instanceMethod yX10_chain, Cond.selects RX10 yX10_chain yX10_chain, Cond.code yX10_chain cX10_chain 4 (some .int), Cond.methodLink RL 80 yX10_best, Cond.instanceMethod yX10_best, Cond.selects RX10 yX10_best yX10_best, Cond.code yX10_best cX10_best 2 (some .int), Cond.constantLong RX10 288 (10), Cond.methodLink RX10 290 yX10_bestAt, (Jvm.Cond.privateMethod ({ cls := "DuelRoundModel", name := "bestAt", desc := "(I)I" } : Jvm.MethodName)), Cond.instanceMethod yX10_bestAt, Cond.code yX10_bestAt cX10_bestAt 5 (some .int), Cond.methodLink RL 84 yX10_byWins, Cond.instanceMethod yX10_byWins, Cond.selects RX10 yX10_byWins yX10_byWins, Cond.code yX10_byWins cX10_byWins 7 (some .int), Cond.methodLink RL 88 yX10_weight, Cond.instanceMethod yX10_weight, Cond.selects RX10 yX10_weight yX10_weight, Cond.code yX10_weight cX10_weight 4 (some .int), Cond.constant RX10 293 (-2147483648), Cond.methodLink RL 92 yX10_keeps, Cond.instanceMethod yX10_keeps, Cond.selects RX10 yX10_keeps yX10_keeps]
def S_6_5 : List Cond := [Cond.code yX10_keeps cX10_keeps 3 (some .int), Cond.methodLink RL 96 yX10_is, Cond.instanceMethod yX10_is, Cond.selects RX10 yX10_is yX10_is, Cond.code yX10_is cX10_is 3 (some .int), Cond.methodLink RX10 294 yX10_isSo, (Jvm.Cond.privateMethod ({ cls := "DuelRoundModel", name := "isSo", desc := "(II)Z" } : Jvm.MethodName)), Cond.instanceMethod yX10_isSo, Cond.code yX10_isSo cX10_isSo 3 (some .boolean), Cond.methodLink RX10 297 yX10_isKeeping, (Jvm.Cond.privateMethod ({ cls := "DuelRoundModel", name := "isKeeping", desc := "(I)Z" } : Jvm.MethodName)), Cond.instanceMethod yX10_isKeeping, Cond.code yX10_isKeeping cX10_isKeeping 4 (some .boolean), Cond.methodLink RL 100 yX10_cup, Cond.instanceMethod yX10_cup, Cond.selects RX10 yX10_cup yX10_cup, Cond.code yX10_cup cX10_cup 4 (some .int), Cond.methodLink RX10 303 yX10_firstOrder, (Jvm.Cond.privateMethod ({ cls := "DuelRoundModel", name := "firstOrder", desc := "()V" } : Jvm.MethodName)), Cond.instanceMethod yX10_firstOrder, Cond.code yX10_firstOrder cX10_firstOrder 2 none, Cond.methodLink RX10 306 yX10_wins, (Jvm.Cond.privateMethod ({ cls := "DuelRoundModel", name := "wins", desc := "()I" } : Jvm.MethodName)), Cond.instanceMethod yX10_wins, Cond.code yX10_wins cX10_wins 5 (some .int), Cond.methodLink RX10 309 yX10_nextOrder, (Jvm.Cond.privateMethod ({ cls := "DuelRoundModel", name := "nextOrder", desc := "()Z" } : Jvm.MethodName)), Cond.instanceMethod yX10_nextOrder, Cond.code yX10_nextOrder cX10_nextOrder 6 (some .boolean), Cond.methodLink RX10 300 yX10_swap]
def S_6_6 : List Cond := [(Jvm.Cond.privateMethod ({ cls := "DuelRoundModel", name := "swap", desc := "(II)V" } : Jvm.MethodName)), Cond.instanceMethod yX10_swap, Cond.code yX10_swap cX10_swap 4 none, Cond.methodLink RL 104 yX10_winner, Cond.instanceMethod yX10_winner, Cond.selects RX10 yX10_winner yX10_winner, Cond.code yX10_winner cX10_winner 5 (some .int), Cond.methodLink RL 108 yX10_judge, Cond.instanceMethod yX10_judge, Cond.selects RX10 yX10_judge yX10_judge, Cond.code yX10_judge cX10_judge 2 (some .int), Cond.methodLink RX10 368 yX10_readLine, (Jvm.Cond.privateMethod ({ cls := "DuelRoundModel", name := "readLine", desc := "()V" } : Jvm.MethodName)), Cond.instanceMethod yX10_readLine, Cond.code yX10_readLine cX10_readLine 3 none, Cond.constantLong RX10 322 (99), Cond.constantLong RX10 324 (119), Cond.methodLink RX10 329 yX10_addNumber, (Jvm.Cond.privateMethod ({ cls := "DuelRoundModel", name := "addNumber", desc := "()V" } : Jvm.MethodName)), Cond.instanceMethod yX10_addNumber, Cond.code yX10_addNumber cX10_addNumber 3 none, Cond.methodLink RX10 319 yX10_isDigitNext, (Jvm.Cond.privateMethod ({ cls := "DuelRoundModel", name := "isDigitNext", desc := "()Z" } : Jvm.MethodName)), Cond.instanceMethod yX10_isDigitNext, Cond.code yX10_isDigitNext cX10_isDigitNext 1 (some .boolean), Cond.constantLong RX10 315 (48), Cond.constantLong RX10 317 (57), Cond.methodLink RX10 332 yX10_addLetter, (Jvm.Cond.privateMethod ({ cls := "DuelRoundModel", name := "addLetter", desc := "()V" } : Jvm.MethodName)), Cond.instanceMethod yX10_addLetter]
def S_6_7 : List Cond := [Cond.code yX10_addLetter cX10_addLetter 2 none, Cond.methodLink RX10 383 yX10_whyWrong, (Jvm.Cond.privateMethod ({ cls := "DuelRoundModel", name := "whyWrong", desc := "(I)I" } : Jvm.MethodName)), Cond.instanceMethod yX10_whyWrong, Cond.code yX10_whyWrong cX10_whyWrong 3 (some .int), Cond.methodLink RX10 338 yX10_lettersOf, (Jvm.Cond.privateMethod ({ cls := "DuelRoundModel", name := "lettersOf", desc := "(I)I" } : Jvm.MethodName)), Cond.instanceMethod yX10_lettersOf, Cond.code yX10_lettersOf cX10_lettersOf 4 (some .int), Cond.methodLink RX10 335 yX10_lineEnd, (Jvm.Cond.privateMethod ({ cls := "DuelRoundModel", name := "lineEnd", desc := "(I)I" } : Jvm.MethodName)), Cond.instanceMethod yX10_lineEnd, Cond.code yX10_lineEnd cX10_lineEnd 2 (some .int), Cond.methodLink RX10 353 yX10_hasTwice, (Jvm.Cond.privateMethod ({ cls := "DuelRoundModel", name := "hasTwice", desc := "(I)Z" } : Jvm.MethodName)), Cond.instanceMethod yX10_hasTwice, Cond.code yX10_hasTwice cX10_hasTwice 4 (some .boolean), Cond.methodLink RX10 356 yX10_isOtherWay, (Jvm.Cond.privateMethod ({ cls := "DuelRoundModel", name := "isOtherWay", desc := "(I)Z" } : Jvm.MethodName)), Cond.instanceMethod yX10_isOtherWay, Cond.code yX10_isOtherWay cX10_isOtherWay 7 (some .boolean), Cond.methodLink RX10 359 yX10_isTopped, (Jvm.Cond.privateMethod ({ cls := "DuelRoundModel", name := "isTopped", desc := "(I)Z" } : Jvm.MethodName)), Cond.instanceMethod yX10_isTopped, Cond.code yX10_isTopped cX10_isTopped 4 (some .boolean), Cond.methodLink RX10 341 yX10_sumOf, (Jvm.Cond.privateMethod ({ cls := "DuelRoundModel", name := "sumOf", desc := "(I)I" } : Jvm.MethodName)), Cond.instanceMethod yX10_sumOf, Cond.code yX10_sumOf cX10_sumOf 4 (some .int), Cond.methodLink RX10 362 yX10_isOther]
set_option maxRecDepth 100000 in
theorem eq_6 : S_6_0 ++ (S_6_1 ++ (S_6_2 ++ (S_6_3 ++ (S_6_4 ++ (S_6_5 ++ (S_6_6 ++ (S_6_7))))))) = tables_1_6 := rfl
theorem in_S_6_0 : ∀ w ∈ S_6_0, w ∈ lw_tbl := fun w h => List.mem_append_right _ (List.mem_append_right _ (List.mem_append_right _ (List.mem_append_right _ (List.mem_append_right _ (List.mem_append_right _ (List.mem_append_left _ (eq_6 ▸ (List.mem_append_left _ h : w ∈ S_6_0 ++ (S_6_1 ++ (S_6_2 ++ (S_6_3 ++ (S_6_4 ++ (S_6_5 ++ (S_6_6 ++ (S_6_7)))))))))))))))
theorem k_1279 : Cond.instanceMethod yX10_drop ∈ gtbl := gt_in (in_S_6_0 _ (List.mem_of_getElem? (i := 0) rfl)) rfl
theorem k_1280 : Cond.selects RX10 yX10_drop yX10_drop ∈ gtbl := gt_in (in_S_6_0 _ (List.mem_of_getElem? (i := 1) rfl)) rfl
theorem k_1281 : Cond.code yX10_drop cX10_drop 4 (some .int) ∈ gtbl := gt_in (in_S_6_0 _ (List.mem_of_getElem? (i := 2) rfl)) rfl
theorem k_1282 : Cond.methodLink RX10 196 yX10_without ∈ gtbl := gt_in (in_S_6_0 _ (List.mem_of_getElem? (i := 3) rfl)) rfl
theorem k_1283 : Cond.static yX10_without ∈ gtbl := gt_in (in_S_6_0 _ (List.mem_of_getElem? (i := 4) rfl)) rfl
theorem k_1284 : Cond.code yX10_without cX10_without 3 (some .int) ∈ gtbl := gt_in (in_S_6_0 _ (List.mem_of_getElem? (i := 5) rfl)) rfl
theorem k_1285 : Cond.methodLink RL 64 yX10_set ∈ gtbl := gt_in (in_S_6_0 _ (List.mem_of_getElem? (i := 6) rfl)) rfl
theorem k_1286 : Cond.instanceMethod yX10_set ∈ gtbl := gt_in (in_S_6_0 _ (List.mem_of_getElem? (i := 7) rfl)) rfl
theorem k_1287 : Cond.selects RX10 yX10_set yX10_set ∈ gtbl := gt_in (in_S_6_0 _ (List.mem_of_getElem? (i := 8) rfl)) rfl
theorem k_1288 : Cond.code yX10_set cX10_set 3 (some .int) ∈ gtbl := gt_in (in_S_6_0 _ (List.mem_of_getElem? (i := 9) rfl)) rfl
theorem k_1289 : Cond.constantLong RX10 281 (9) ∈ gtbl := gt_in (in_S_6_0 _ (List.mem_of_getElem? (i := 10) rfl)) rfl
theorem k_1290 : Cond.methodLink RX10 283 yX10_setOf ∈ gtbl := gt_in (in_S_6_0 _ (List.mem_of_getElem? (i := 11) rfl)) rfl
theorem k_1292 : Cond.instanceMethod yX10_setOf ∈ gtbl := gt_in (in_S_6_0 _ (List.mem_of_getElem? (i := 13) rfl)) rfl
theorem k_1293 : Cond.code yX10_setOf cX10_setOf 3 (some .int) ∈ gtbl := gt_in (in_S_6_0 _ (List.mem_of_getElem? (i := 14) rfl)) rfl
theorem k_1294 : Cond.methodLink RX10 254 yX10_top ∈ gtbl := gt_in (in_S_6_0 _ (List.mem_of_getElem? (i := 15) rfl)) rfl
theorem k_1296 : Cond.instanceMethod yX10_top ∈ gtbl := gt_in (in_S_6_0 _ (List.mem_of_getElem? (i := 17) rfl)) rfl
theorem k_1297 : Cond.code yX10_top cX10_top 6 (some .int) ∈ gtbl := gt_in (in_S_6_0 _ (List.mem_of_getElem? (i := 18) rfl)) rfl
theorem k_1298 : Cond.methodLink RX10 200 yX10_sizeOf ∈ gtbl := gt_in (in_S_6_0 _ (List.mem_of_getElem? (i := 19) rfl)) rfl
theorem k_1299 : Cond.static yX10_sizeOf ∈ gtbl := gt_in (in_S_6_0 _ (List.mem_of_getElem? (i := 20) rfl)) rfl
theorem k_1300 : Cond.code yX10_sizeOf cX10_sizeOf 3 (some .int) ∈ gtbl := gt_in (in_S_6_0 _ (List.mem_of_getElem? (i := 21) rfl)) rfl
theorem k_1301 : Cond.methodLink RX10 257 yX10_most ∈ gtbl := gt_in (in_S_6_0 _ (List.mem_of_getElem? (i := 22) rfl)) rfl
theorem k_1303 : Cond.instanceMethod yX10_most ∈ gtbl := gt_in (in_S_6_0 _ (List.mem_of_getElem? (i := 24) rfl)) rfl
theorem k_1304 : Cond.code yX10_most cX10_most 5 (some .int) ∈ gtbl := gt_in (in_S_6_0 _ (List.mem_of_getElem? (i := 25) rfl)) rfl
theorem k_1305 : Cond.methodLink RX10 203 yX10_winsOf ∈ gtbl := gt_in (in_S_6_0 _ (List.mem_of_getElem? (i := 26) rfl)) rfl
theorem k_1307 : Cond.instanceMethod yX10_winsOf ∈ gtbl := gt_in (in_S_6_0 _ (List.mem_of_getElem? (i := 28) rfl)) rfl
theorem k_1308 : Cond.code yX10_winsOf cX10_winsOf 3 (some .int) ∈ gtbl := gt_in (in_S_6_0 _ (List.mem_of_getElem? (i := 29) rfl)) rfl
theorem in_S_6_1 : ∀ w ∈ S_6_1, w ∈ lw_tbl := fun w h => List.mem_append_right _ (List.mem_append_right _ (List.mem_append_right _ (List.mem_append_right _ (List.mem_append_right _ (List.mem_append_right _ (List.mem_append_left _ (eq_6 ▸ (List.mem_append_right _ (List.mem_append_left _ h) : w ∈ S_6_0 ++ (S_6_1 ++ (S_6_2 ++ (S_6_3 ++ (S_6_4 ++ (S_6_5 ++ (S_6_6 ++ (S_6_7)))))))))))))))
theorem k_1309 : Cond.methodLink RX10 206 yX10_uncovered ∈ gtbl := gt_in (in_S_6_1 _ (List.mem_of_getElem? (i := 0) rfl)) rfl
theorem k_1311 : Cond.instanceMethod yX10_uncovered ∈ gtbl := gt_in (in_S_6_1 _ (List.mem_of_getElem? (i := 2) rfl)) rfl
theorem k_1312 : Cond.code yX10_uncovered cX10_uncovered 5 (some .int) ∈ gtbl := gt_in (in_S_6_1 _ (List.mem_of_getElem? (i := 3) rfl)) rfl
theorem k_1313 : Cond.methodLink RX10 260 yX10_againUncovered ∈ gtbl := gt_in (in_S_6_1 _ (List.mem_of_getElem? (i := 4) rfl)) rfl
theorem k_1315 : Cond.instanceMethod yX10_againUncovered ∈ gtbl := gt_in (in_S_6_1 _ (List.mem_of_getElem? (i := 6) rfl)) rfl
theorem k_1316 : Cond.code yX10_againUncovered cX10_againUncovered 4 (some .int) ∈ gtbl := gt_in (in_S_6_1 _ (List.mem_of_getElem? (i := 7) rfl)) rfl
theorem k_1317 : Cond.methodLink RX10 263 yX10_banks ∈ gtbl := gt_in (in_S_6_1 _ (List.mem_of_getElem? (i := 8) rfl)) rfl
theorem k_1319 : Cond.instanceMethod yX10_banks ∈ gtbl := gt_in (in_S_6_1 _ (List.mem_of_getElem? (i := 10) rfl)) rfl
theorem k_1320 : Cond.code yX10_banks cX10_banks 4 (some .int) ∈ gtbl := gt_in (in_S_6_1 _ (List.mem_of_getElem? (i := 11) rfl)) rfl
theorem k_1321 : Cond.methodLink RX10 212 yX10_hasChain ∈ gtbl := gt_in (in_S_6_1 _ (List.mem_of_getElem? (i := 12) rfl)) rfl
theorem k_1323 : Cond.instanceMethod yX10_hasChain ∈ gtbl := gt_in (in_S_6_1 _ (List.mem_of_getElem? (i := 14) rfl)) rfl
theorem k_1324 : Cond.code yX10_hasChain cX10_hasChain 4 (some .boolean) ∈ gtbl := gt_in (in_S_6_1 _ (List.mem_of_getElem? (i := 15) rfl)) rfl
theorem k_1325 : Cond.methodLink RX10 266 yX10_slater ∈ gtbl := gt_in (in_S_6_1 _ (List.mem_of_getElem? (i := 16) rfl)) rfl
theorem k_1327 : Cond.instanceMethod yX10_slater ∈ gtbl := gt_in (in_S_6_1 _ (List.mem_of_getElem? (i := 18) rfl)) rfl
theorem k_1328 : Cond.code yX10_slater cX10_slater 4 (some .int) ∈ gtbl := gt_in (in_S_6_1 _ (List.mem_of_getElem? (i := 19) rfl)) rfl
theorem k_1329 : Cond.methodLink RX10 218 yX10_layOrders ∈ gtbl := gt_in (in_S_6_1 _ (List.mem_of_getElem? (i := 20) rfl)) rfl
theorem k_1331 : Cond.instanceMethod yX10_layOrders ∈ gtbl := gt_in (in_S_6_1 _ (List.mem_of_getElem? (i := 22) rfl)) rfl
theorem k_1332 : Cond.code yX10_layOrders cX10_layOrders 3 none ∈ gtbl := gt_in (in_S_6_1 _ (List.mem_of_getElem? (i := 23) rfl)) rfl
theorem k_1333 : Cond.methodLink RX10 215 yX10_turnedBy ∈ gtbl := gt_in (in_S_6_1 _ (List.mem_of_getElem? (i := 24) rfl)) rfl
theorem k_1335 : Cond.instanceMethod yX10_turnedBy ∈ gtbl := gt_in (in_S_6_1 _ (List.mem_of_getElem? (i := 26) rfl)) rfl
theorem k_1336 : Cond.code yX10_turnedBy cX10_turnedBy 3 (some .int) ∈ gtbl := gt_in (in_S_6_1 _ (List.mem_of_getElem? (i := 27) rfl)) rfl
theorem k_1337 : Cond.methodLink RX10 269 yX10_covering ∈ gtbl := gt_in (in_S_6_1 _ (List.mem_of_getElem? (i := 28) rfl)) rfl
theorem in_S_6_2 : ∀ w ∈ S_6_2, w ∈ lw_tbl := fun w h => List.mem_append_right _ (List.mem_append_right _ (List.mem_append_right _ (List.mem_append_right _ (List.mem_append_right _ (List.mem_append_right _ (List.mem_append_left _ (eq_6 ▸ (List.mem_append_right _ (List.mem_append_right _ (List.mem_append_left _ h)) : w ∈ S_6_0 ++ (S_6_1 ++ (S_6_2 ++ (S_6_3 ++ (S_6_4 ++ (S_6_5 ++ (S_6_6 ++ (S_6_7)))))))))))))))
theorem k_1339 : Cond.instanceMethod yX10_covering ∈ gtbl := gt_in (in_S_6_2 _ (List.mem_of_getElem? (i := 0) rfl)) rfl
theorem k_1340 : Cond.code yX10_covering cX10_covering 4 (some .int) ∈ gtbl := gt_in (in_S_6_2 _ (List.mem_of_getElem? (i := 1) rfl)) rfl
theorem k_1341 : Cond.methodLink RX10 221 yX10_isCovering ∈ gtbl := gt_in (in_S_6_2 _ (List.mem_of_getElem? (i := 2) rfl)) rfl
theorem k_1343 : Cond.instanceMethod yX10_isCovering ∈ gtbl := gt_in (in_S_6_2 _ (List.mem_of_getElem? (i := 4) rfl)) rfl
theorem k_1344 : Cond.code yX10_isCovering cX10_isCovering 7 (some .boolean) ∈ gtbl := gt_in (in_S_6_2 _ (List.mem_of_getElem? (i := 5) rfl)) rfl
theorem k_1345 : Cond.methodLink RX10 272 yX10_balanced ∈ gtbl := gt_in (in_S_6_2 _ (List.mem_of_getElem? (i := 6) rfl)) rfl
theorem k_1347 : Cond.instanceMethod yX10_balanced ∈ gtbl := gt_in (in_S_6_2 _ (List.mem_of_getElem? (i := 8) rfl)) rfl
theorem k_1348 : Cond.code yX10_balanced cX10_balanced 3 (some .int) ∈ gtbl := gt_in (in_S_6_2 _ (List.mem_of_getElem? (i := 9) rfl)) rfl
theorem k_1349 : Cond.methodLink RX10 233 yX10_layPairings ∈ gtbl := gt_in (in_S_6_2 _ (List.mem_of_getElem? (i := 10) rfl)) rfl
theorem k_1351 : Cond.instanceMethod yX10_layPairings ∈ gtbl := gt_in (in_S_6_2 _ (List.mem_of_getElem? (i := 12) rfl)) rfl
theorem k_1352 : Cond.code yX10_layPairings cX10_layPairings 6 none ∈ gtbl := gt_in (in_S_6_2 _ (List.mem_of_getElem? (i := 13) rfl)) rfl
theorem k_1353 : Cond.methodLink RX10 224 yX10_against ∈ gtbl := gt_in (in_S_6_2 _ (List.mem_of_getElem? (i := 14) rfl)) rfl
theorem k_1355 : Cond.instanceMethod yX10_against ∈ gtbl := gt_in (in_S_6_2 _ (List.mem_of_getElem? (i := 16) rfl)) rfl
theorem k_1356 : Cond.code yX10_against cX10_against 3 (some .int) ∈ gtbl := gt_in (in_S_6_2 _ (List.mem_of_getElem? (i := 17) rfl)) rfl
theorem k_1357 : Cond.methodLink RX10 236 yX10_weighs ∈ gtbl := gt_in (in_S_6_2 _ (List.mem_of_getElem? (i := 18) rfl)) rfl
theorem k_1359 : Cond.instanceMethod yX10_weighs ∈ gtbl := gt_in (in_S_6_2 _ (List.mem_of_getElem? (i := 20) rfl)) rfl
theorem k_1360 : Cond.code yX10_weighs cX10_weighs 8 (some .boolean) ∈ gtbl := gt_in (in_S_6_2 _ (List.mem_of_getElem? (i := 21) rfl)) rfl
theorem k_1361 : Cond.methodLink RX10 227 yX10_commonOf ∈ gtbl := gt_in (in_S_6_2 _ (List.mem_of_getElem? (i := 22) rfl)) rfl
theorem k_1362 : Cond.static yX10_commonOf ∈ gtbl := gt_in (in_S_6_2 _ (List.mem_of_getElem? (i := 23) rfl)) rfl
theorem k_1363 : Cond.code yX10_commonOf cX10_commonOf 5 (some .int) ∈ gtbl := gt_in (in_S_6_2 _ (List.mem_of_getElem? (i := 24) rfl)) rfl
theorem k_1364 : Cond.methodLink RX10 239 yX10_nobodyGains ∈ gtbl := gt_in (in_S_6_2 _ (List.mem_of_getElem? (i := 25) rfl)) rfl
theorem k_1366 : Cond.instanceMethod yX10_nobodyGains ∈ gtbl := gt_in (in_S_6_2 _ (List.mem_of_getElem? (i := 27) rfl)) rfl
theorem k_1367 : Cond.code yX10_nobodyGains cX10_nobodyGains 4 (some .boolean) ∈ gtbl := gt_in (in_S_6_2 _ (List.mem_of_getElem? (i := 28) rfl)) rfl
theorem k_1368 : Cond.methodLink RX10 230 yX10_gains ∈ gtbl := gt_in (in_S_6_2 _ (List.mem_of_getElem? (i := 29) rfl)) rfl
theorem in_S_6_3 : ∀ w ∈ S_6_3, w ∈ lw_tbl := fun w h => List.mem_append_right _ (List.mem_append_right _ (List.mem_append_right _ (List.mem_append_right _ (List.mem_append_right _ (List.mem_append_right _ (List.mem_append_left _ (eq_6 ▸ (List.mem_append_right _ (List.mem_append_right _ (List.mem_append_right _ (List.mem_append_left _ h))) : w ∈ S_6_0 ++ (S_6_1 ++ (S_6_2 ++ (S_6_3 ++ (S_6_4 ++ (S_6_5 ++ (S_6_6 ++ (S_6_7)))))))))))))))
theorem k_1370 : Cond.instanceMethod yX10_gains ∈ gtbl := gt_in (in_S_6_3 _ (List.mem_of_getElem? (i := 1) rfl)) rfl
theorem k_1371 : Cond.code yX10_gains cX10_gains 4 (some .int) ∈ gtbl := gt_in (in_S_6_3 _ (List.mem_of_getElem? (i := 2) rfl)) rfl
theorem k_1372 : Cond.methodLink RX10 275 yX10_layKeeping ∈ gtbl := gt_in (in_S_6_3 _ (List.mem_of_getElem? (i := 3) rfl)) rfl
theorem k_1374 : Cond.instanceMethod yX10_layKeeping ∈ gtbl := gt_in (in_S_6_3 _ (List.mem_of_getElem? (i := 5) rfl)) rfl
theorem k_1375 : Cond.code yX10_layKeeping cX10_layKeeping 6 none ∈ gtbl := gt_in (in_S_6_3 _ (List.mem_of_getElem? (i := 6) rfl)) rfl
theorem k_1376 : Cond.methodLink RX10 242 yX10_closed ∈ gtbl := gt_in (in_S_6_3 _ (List.mem_of_getElem? (i := 7) rfl)) rfl
theorem k_1378 : Cond.instanceMethod yX10_closed ∈ gtbl := gt_in (in_S_6_3 _ (List.mem_of_getElem? (i := 9) rfl)) rfl
theorem k_1379 : Cond.code yX10_closed cX10_closed 6 (some .int) ∈ gtbl := gt_in (in_S_6_3 _ (List.mem_of_getElem? (i := 10) rfl)) rfl
theorem k_1380 : Cond.methodLink RX10 278 yX10_cupOf ∈ gtbl := gt_in (in_S_6_3 _ (List.mem_of_getElem? (i := 11) rfl)) rfl
theorem k_1382 : Cond.instanceMethod yX10_cupOf ∈ gtbl := gt_in (in_S_6_3 _ (List.mem_of_getElem? (i := 13) rfl)) rfl
theorem k_1383 : Cond.code yX10_cupOf cX10_cupOf 4 (some .int) ∈ gtbl := gt_in (in_S_6_3 _ (List.mem_of_getElem? (i := 14) rfl)) rfl
theorem k_1384 : Cond.methodLink RX10 248 yX10_isCup ∈ gtbl := gt_in (in_S_6_3 _ (List.mem_of_getElem? (i := 15) rfl)) rfl
theorem k_1385 : Cond.static yX10_isCup ∈ gtbl := gt_in (in_S_6_3 _ (List.mem_of_getElem? (i := 16) rfl)) rfl
theorem k_1386 : Cond.code yX10_isCup cX10_isCup 1 (some .boolean) ∈ gtbl := gt_in (in_S_6_3 _ (List.mem_of_getElem? (i := 17) rfl)) rfl
theorem k_1387 : Cond.methodLink RX10 251 yX10_layCups ∈ gtbl := gt_in (in_S_6_3 _ (List.mem_of_getElem? (i := 18) rfl)) rfl
theorem k_1389 : Cond.instanceMethod yX10_layCups ∈ gtbl := gt_in (in_S_6_3 _ (List.mem_of_getElem? (i := 20) rfl)) rfl
theorem k_1390 : Cond.code yX10_layCups cX10_layCups 4 none ∈ gtbl := gt_in (in_S_6_3 _ (List.mem_of_getElem? (i := 21) rfl)) rfl
theorem k_1391 : Cond.methodLink RX10 245 yX10_layHalves ∈ gtbl := gt_in (in_S_6_3 _ (List.mem_of_getElem? (i := 22) rfl)) rfl
theorem k_1393 : Cond.instanceMethod yX10_layHalves ∈ gtbl := gt_in (in_S_6_3 _ (List.mem_of_getElem? (i := 24) rfl)) rfl
theorem k_1394 : Cond.code yX10_layHalves cX10_layHalves 6 none ∈ gtbl := gt_in (in_S_6_3 _ (List.mem_of_getElem? (i := 25) rfl)) rfl
theorem k_1395 : Cond.methodLink RL 68 yX10_praised ∈ gtbl := gt_in (in_S_6_3 _ (List.mem_of_getElem? (i := 26) rfl)) rfl
theorem k_1396 : Cond.instanceMethod yX10_praised ∈ gtbl := gt_in (in_S_6_3 _ (List.mem_of_getElem? (i := 27) rfl)) rfl
theorem k_1397 : Cond.selects RX10 yX10_praised yX10_praised ∈ gtbl := gt_in (in_S_6_3 _ (List.mem_of_getElem? (i := 28) rfl)) rfl
theorem k_1398 : Cond.code yX10_praised cX10_praised 5 (some .int) ∈ gtbl := gt_in (in_S_6_3 _ (List.mem_of_getElem? (i := 29) rfl)) rfl
theorem in_S_6_4 : ∀ w ∈ S_6_4, w ∈ lw_tbl := fun w h => List.mem_append_right _ (List.mem_append_right _ (List.mem_append_right _ (List.mem_append_right _ (List.mem_append_right _ (List.mem_append_right _ (List.mem_append_left _ (eq_6 ▸ (List.mem_append_right _ (List.mem_append_right _ (List.mem_append_right _ (List.mem_append_right _ (List.mem_append_left _ h)))) : w ∈ S_6_0 ++ (S_6_1 ++ (S_6_2 ++ (S_6_3 ++ (S_6_4 ++ (S_6_5 ++ (S_6_6 ++ (S_6_7)))))))))))))))
theorem k_1399 : Cond.constantLong RX10 286 (-1) ∈ gtbl := gt_in (in_S_6_4 _ (List.mem_of_getElem? (i := 0) rfl)) rfl
theorem k_1400 : Cond.methodLink RL 72 yX10_within ∈ gtbl := gt_in (in_S_6_4 _ (List.mem_of_getElem? (i := 1) rfl)) rfl
theorem k_1401 : Cond.instanceMethod yX10_within ∈ gtbl := gt_in (in_S_6_4 _ (List.mem_of_getElem? (i := 2) rfl)) rfl
theorem k_1402 : Cond.selects RX10 yX10_within yX10_within ∈ gtbl := gt_in (in_S_6_4 _ (List.mem_of_getElem? (i := 3) rfl)) rfl
theorem k_1403 : Cond.code yX10_within cX10_within 7 (some .int) ∈ gtbl := gt_in (in_S_6_4 _ (List.mem_of_getElem? (i := 4) rfl)) rfl
theorem k_1404 : Cond.methodLink RL 76 yX10_chain ∈ gtbl := gt_in (in_S_6_4 _ (List.mem_of_getElem? (i := 5) rfl)) rfl
theorem k_1405 : Cond.instanceMethod yX10_chain ∈ gtbl := gt_in (in_S_6_4 _ (List.mem_of_getElem? (i := 6) rfl)) rfl
theorem k_1406 : Cond.selects RX10 yX10_chain yX10_chain ∈ gtbl := gt_in (in_S_6_4 _ (List.mem_of_getElem? (i := 7) rfl)) rfl
theorem k_1407 : Cond.code yX10_chain cX10_chain 4 (some .int) ∈ gtbl := gt_in (in_S_6_4 _ (List.mem_of_getElem? (i := 8) rfl)) rfl
theorem k_1408 : Cond.methodLink RL 80 yX10_best ∈ gtbl := gt_in (in_S_6_4 _ (List.mem_of_getElem? (i := 9) rfl)) rfl
theorem k_1409 : Cond.instanceMethod yX10_best ∈ gtbl := gt_in (in_S_6_4 _ (List.mem_of_getElem? (i := 10) rfl)) rfl
theorem k_1410 : Cond.selects RX10 yX10_best yX10_best ∈ gtbl := gt_in (in_S_6_4 _ (List.mem_of_getElem? (i := 11) rfl)) rfl
theorem k_1411 : Cond.code yX10_best cX10_best 2 (some .int) ∈ gtbl := gt_in (in_S_6_4 _ (List.mem_of_getElem? (i := 12) rfl)) rfl
theorem k_1412 : Cond.constantLong RX10 288 (10) ∈ gtbl := gt_in (in_S_6_4 _ (List.mem_of_getElem? (i := 13) rfl)) rfl
theorem k_1413 : Cond.methodLink RX10 290 yX10_bestAt ∈ gtbl := gt_in (in_S_6_4 _ (List.mem_of_getElem? (i := 14) rfl)) rfl
theorem k_1415 : Cond.instanceMethod yX10_bestAt ∈ gtbl := gt_in (in_S_6_4 _ (List.mem_of_getElem? (i := 16) rfl)) rfl
theorem k_1416 : Cond.code yX10_bestAt cX10_bestAt 5 (some .int) ∈ gtbl := gt_in (in_S_6_4 _ (List.mem_of_getElem? (i := 17) rfl)) rfl
theorem k_1417 : Cond.methodLink RL 84 yX10_byWins ∈ gtbl := gt_in (in_S_6_4 _ (List.mem_of_getElem? (i := 18) rfl)) rfl
theorem k_1418 : Cond.instanceMethod yX10_byWins ∈ gtbl := gt_in (in_S_6_4 _ (List.mem_of_getElem? (i := 19) rfl)) rfl
theorem k_1419 : Cond.selects RX10 yX10_byWins yX10_byWins ∈ gtbl := gt_in (in_S_6_4 _ (List.mem_of_getElem? (i := 20) rfl)) rfl
theorem k_1420 : Cond.code yX10_byWins cX10_byWins 7 (some .int) ∈ gtbl := gt_in (in_S_6_4 _ (List.mem_of_getElem? (i := 21) rfl)) rfl
theorem k_1421 : Cond.methodLink RL 88 yX10_weight ∈ gtbl := gt_in (in_S_6_4 _ (List.mem_of_getElem? (i := 22) rfl)) rfl
theorem k_1422 : Cond.instanceMethod yX10_weight ∈ gtbl := gt_in (in_S_6_4 _ (List.mem_of_getElem? (i := 23) rfl)) rfl
theorem k_1423 : Cond.selects RX10 yX10_weight yX10_weight ∈ gtbl := gt_in (in_S_6_4 _ (List.mem_of_getElem? (i := 24) rfl)) rfl
theorem k_1424 : Cond.code yX10_weight cX10_weight 4 (some .int) ∈ gtbl := gt_in (in_S_6_4 _ (List.mem_of_getElem? (i := 25) rfl)) rfl
theorem k_1425 : Cond.constant RX10 293 (-2147483648) ∈ gtbl := gt_in (in_S_6_4 _ (List.mem_of_getElem? (i := 26) rfl)) rfl
theorem k_1426 : Cond.methodLink RL 92 yX10_keeps ∈ gtbl := gt_in (in_S_6_4 _ (List.mem_of_getElem? (i := 27) rfl)) rfl
theorem k_1427 : Cond.instanceMethod yX10_keeps ∈ gtbl := gt_in (in_S_6_4 _ (List.mem_of_getElem? (i := 28) rfl)) rfl
theorem k_1428 : Cond.selects RX10 yX10_keeps yX10_keeps ∈ gtbl := gt_in (in_S_6_4 _ (List.mem_of_getElem? (i := 29) rfl)) rfl
theorem in_S_6_5 : ∀ w ∈ S_6_5, w ∈ lw_tbl := fun w h => List.mem_append_right _ (List.mem_append_right _ (List.mem_append_right _ (List.mem_append_right _ (List.mem_append_right _ (List.mem_append_right _ (List.mem_append_left _ (eq_6 ▸ (List.mem_append_right _ (List.mem_append_right _ (List.mem_append_right _ (List.mem_append_right _ (List.mem_append_right _ (List.mem_append_left _ h))))) : w ∈ S_6_0 ++ (S_6_1 ++ (S_6_2 ++ (S_6_3 ++ (S_6_4 ++ (S_6_5 ++ (S_6_6 ++ (S_6_7)))))))))))))))
theorem k_1429 : Cond.code yX10_keeps cX10_keeps 3 (some .int) ∈ gtbl := gt_in (in_S_6_5 _ (List.mem_of_getElem? (i := 0) rfl)) rfl
theorem k_1430 : Cond.methodLink RL 96 yX10_is ∈ gtbl := gt_in (in_S_6_5 _ (List.mem_of_getElem? (i := 1) rfl)) rfl
theorem k_1431 : Cond.instanceMethod yX10_is ∈ gtbl := gt_in (in_S_6_5 _ (List.mem_of_getElem? (i := 2) rfl)) rfl
theorem k_1432 : Cond.selects RX10 yX10_is yX10_is ∈ gtbl := gt_in (in_S_6_5 _ (List.mem_of_getElem? (i := 3) rfl)) rfl
theorem k_1433 : Cond.code yX10_is cX10_is 3 (some .int) ∈ gtbl := gt_in (in_S_6_5 _ (List.mem_of_getElem? (i := 4) rfl)) rfl
theorem k_1434 : Cond.methodLink RX10 294 yX10_isSo ∈ gtbl := gt_in (in_S_6_5 _ (List.mem_of_getElem? (i := 5) rfl)) rfl
theorem k_1436 : Cond.instanceMethod yX10_isSo ∈ gtbl := gt_in (in_S_6_5 _ (List.mem_of_getElem? (i := 7) rfl)) rfl
theorem k_1437 : Cond.code yX10_isSo cX10_isSo 3 (some .boolean) ∈ gtbl := gt_in (in_S_6_5 _ (List.mem_of_getElem? (i := 8) rfl)) rfl
theorem k_1438 : Cond.methodLink RX10 297 yX10_isKeeping ∈ gtbl := gt_in (in_S_6_5 _ (List.mem_of_getElem? (i := 9) rfl)) rfl
theorem k_1440 : Cond.instanceMethod yX10_isKeeping ∈ gtbl := gt_in (in_S_6_5 _ (List.mem_of_getElem? (i := 11) rfl)) rfl
theorem k_1441 : Cond.code yX10_isKeeping cX10_isKeeping 4 (some .boolean) ∈ gtbl := gt_in (in_S_6_5 _ (List.mem_of_getElem? (i := 12) rfl)) rfl
theorem k_1442 : Cond.methodLink RL 100 yX10_cup ∈ gtbl := gt_in (in_S_6_5 _ (List.mem_of_getElem? (i := 13) rfl)) rfl
theorem k_1443 : Cond.instanceMethod yX10_cup ∈ gtbl := gt_in (in_S_6_5 _ (List.mem_of_getElem? (i := 14) rfl)) rfl
theorem k_1444 : Cond.selects RX10 yX10_cup yX10_cup ∈ gtbl := gt_in (in_S_6_5 _ (List.mem_of_getElem? (i := 15) rfl)) rfl
theorem k_1445 : Cond.code yX10_cup cX10_cup 4 (some .int) ∈ gtbl := gt_in (in_S_6_5 _ (List.mem_of_getElem? (i := 16) rfl)) rfl
theorem k_1446 : Cond.methodLink RX10 303 yX10_firstOrder ∈ gtbl := gt_in (in_S_6_5 _ (List.mem_of_getElem? (i := 17) rfl)) rfl
theorem k_1448 : Cond.instanceMethod yX10_firstOrder ∈ gtbl := gt_in (in_S_6_5 _ (List.mem_of_getElem? (i := 19) rfl)) rfl
theorem k_1449 : Cond.code yX10_firstOrder cX10_firstOrder 2 none ∈ gtbl := gt_in (in_S_6_5 _ (List.mem_of_getElem? (i := 20) rfl)) rfl
theorem k_1450 : Cond.methodLink RX10 306 yX10_wins ∈ gtbl := gt_in (in_S_6_5 _ (List.mem_of_getElem? (i := 21) rfl)) rfl
theorem k_1452 : Cond.instanceMethod yX10_wins ∈ gtbl := gt_in (in_S_6_5 _ (List.mem_of_getElem? (i := 23) rfl)) rfl
theorem k_1453 : Cond.code yX10_wins cX10_wins 5 (some .int) ∈ gtbl := gt_in (in_S_6_5 _ (List.mem_of_getElem? (i := 24) rfl)) rfl
theorem k_1454 : Cond.methodLink RX10 309 yX10_nextOrder ∈ gtbl := gt_in (in_S_6_5 _ (List.mem_of_getElem? (i := 25) rfl)) rfl
theorem k_1456 : Cond.instanceMethod yX10_nextOrder ∈ gtbl := gt_in (in_S_6_5 _ (List.mem_of_getElem? (i := 27) rfl)) rfl
theorem k_1457 : Cond.code yX10_nextOrder cX10_nextOrder 6 (some .boolean) ∈ gtbl := gt_in (in_S_6_5 _ (List.mem_of_getElem? (i := 28) rfl)) rfl
theorem k_1458 : Cond.methodLink RX10 300 yX10_swap ∈ gtbl := gt_in (in_S_6_5 _ (List.mem_of_getElem? (i := 29) rfl)) rfl
theorem in_S_6_6 : ∀ w ∈ S_6_6, w ∈ lw_tbl := fun w h => List.mem_append_right _ (List.mem_append_right _ (List.mem_append_right _ (List.mem_append_right _ (List.mem_append_right _ (List.mem_append_right _ (List.mem_append_left _ (eq_6 ▸ (List.mem_append_right _ (List.mem_append_right _ (List.mem_append_right _ (List.mem_append_right _ (List.mem_append_right _ (List.mem_append_right _ (List.mem_append_left _ h)))))) : w ∈ S_6_0 ++ (S_6_1 ++ (S_6_2 ++ (S_6_3 ++ (S_6_4 ++ (S_6_5 ++ (S_6_6 ++ (S_6_7)))))))))))))))
theorem k_1460 : Cond.instanceMethod yX10_swap ∈ gtbl := gt_in (in_S_6_6 _ (List.mem_of_getElem? (i := 1) rfl)) rfl
theorem k_1461 : Cond.code yX10_swap cX10_swap 4 none ∈ gtbl := gt_in (in_S_6_6 _ (List.mem_of_getElem? (i := 2) rfl)) rfl
theorem k_1462 : Cond.methodLink RL 104 yX10_winner ∈ gtbl := gt_in (in_S_6_6 _ (List.mem_of_getElem? (i := 3) rfl)) rfl
theorem k_1463 : Cond.instanceMethod yX10_winner ∈ gtbl := gt_in (in_S_6_6 _ (List.mem_of_getElem? (i := 4) rfl)) rfl
theorem k_1464 : Cond.selects RX10 yX10_winner yX10_winner ∈ gtbl := gt_in (in_S_6_6 _ (List.mem_of_getElem? (i := 5) rfl)) rfl
theorem k_1465 : Cond.code yX10_winner cX10_winner 5 (some .int) ∈ gtbl := gt_in (in_S_6_6 _ (List.mem_of_getElem? (i := 6) rfl)) rfl
theorem k_1466 : Cond.methodLink RL 108 yX10_judge ∈ gtbl := gt_in (in_S_6_6 _ (List.mem_of_getElem? (i := 7) rfl)) rfl
theorem k_1467 : Cond.instanceMethod yX10_judge ∈ gtbl := gt_in (in_S_6_6 _ (List.mem_of_getElem? (i := 8) rfl)) rfl
theorem k_1468 : Cond.selects RX10 yX10_judge yX10_judge ∈ gtbl := gt_in (in_S_6_6 _ (List.mem_of_getElem? (i := 9) rfl)) rfl
theorem k_1469 : Cond.code yX10_judge cX10_judge 2 (some .int) ∈ gtbl := gt_in (in_S_6_6 _ (List.mem_of_getElem? (i := 10) rfl)) rfl
theorem k_1470 : Cond.methodLink RX10 368 yX10_readLine ∈ gtbl := gt_in (in_S_6_6 _ (List.mem_of_getElem? (i := 11) rfl)) rfl
theorem k_1472 : Cond.instanceMethod yX10_readLine ∈ gtbl := gt_in (in_S_6_6 _ (List.mem_of_getElem? (i := 13) rfl)) rfl
theorem k_1473 : Cond.code yX10_readLine cX10_readLine 3 none ∈ gtbl := gt_in (in_S_6_6 _ (List.mem_of_getElem? (i := 14) rfl)) rfl
theorem k_1474 : Cond.constantLong RX10 322 (99) ∈ gtbl := gt_in (in_S_6_6 _ (List.mem_of_getElem? (i := 15) rfl)) rfl
theorem k_1475 : Cond.constantLong RX10 324 (119) ∈ gtbl := gt_in (in_S_6_6 _ (List.mem_of_getElem? (i := 16) rfl)) rfl
theorem k_1476 : Cond.methodLink RX10 329 yX10_addNumber ∈ gtbl := gt_in (in_S_6_6 _ (List.mem_of_getElem? (i := 17) rfl)) rfl
theorem k_1478 : Cond.instanceMethod yX10_addNumber ∈ gtbl := gt_in (in_S_6_6 _ (List.mem_of_getElem? (i := 19) rfl)) rfl
theorem k_1479 : Cond.code yX10_addNumber cX10_addNumber 3 none ∈ gtbl := gt_in (in_S_6_6 _ (List.mem_of_getElem? (i := 20) rfl)) rfl
theorem k_1480 : Cond.methodLink RX10 319 yX10_isDigitNext ∈ gtbl := gt_in (in_S_6_6 _ (List.mem_of_getElem? (i := 21) rfl)) rfl
theorem k_1482 : Cond.instanceMethod yX10_isDigitNext ∈ gtbl := gt_in (in_S_6_6 _ (List.mem_of_getElem? (i := 23) rfl)) rfl
theorem k_1483 : Cond.code yX10_isDigitNext cX10_isDigitNext 1 (some .boolean) ∈ gtbl := gt_in (in_S_6_6 _ (List.mem_of_getElem? (i := 24) rfl)) rfl
theorem k_1484 : Cond.constantLong RX10 315 (48) ∈ gtbl := gt_in (in_S_6_6 _ (List.mem_of_getElem? (i := 25) rfl)) rfl
theorem k_1485 : Cond.constantLong RX10 317 (57) ∈ gtbl := gt_in (in_S_6_6 _ (List.mem_of_getElem? (i := 26) rfl)) rfl
theorem k_1486 : Cond.methodLink RX10 332 yX10_addLetter ∈ gtbl := gt_in (in_S_6_6 _ (List.mem_of_getElem? (i := 27) rfl)) rfl
theorem k_1488 : Cond.instanceMethod yX10_addLetter ∈ gtbl := gt_in (in_S_6_6 _ (List.mem_of_getElem? (i := 29) rfl)) rfl
theorem in_S_6_7 : ∀ w ∈ S_6_7, w ∈ lw_tbl := fun w h => List.mem_append_right _ (List.mem_append_right _ (List.mem_append_right _ (List.mem_append_right _ (List.mem_append_right _ (List.mem_append_right _ (List.mem_append_left _ (eq_6 ▸ (List.mem_append_right _ (List.mem_append_right _ (List.mem_append_right _ (List.mem_append_right _ (List.mem_append_right _ (List.mem_append_right _ (List.mem_append_right _ (h))))))) : w ∈ S_6_0 ++ (S_6_1 ++ (S_6_2 ++ (S_6_3 ++ (S_6_4 ++ (S_6_5 ++ (S_6_6 ++ (S_6_7)))))))))))))))
theorem k_1489 : Cond.code yX10_addLetter cX10_addLetter 2 none ∈ gtbl := gt_in (in_S_6_7 _ (List.mem_of_getElem? (i := 0) rfl)) rfl
theorem k_1490 : Cond.methodLink RX10 383 yX10_whyWrong ∈ gtbl := gt_in (in_S_6_7 _ (List.mem_of_getElem? (i := 1) rfl)) rfl
theorem k_1492 : Cond.instanceMethod yX10_whyWrong ∈ gtbl := gt_in (in_S_6_7 _ (List.mem_of_getElem? (i := 3) rfl)) rfl
theorem k_1493 : Cond.code yX10_whyWrong cX10_whyWrong 3 (some .int) ∈ gtbl := gt_in (in_S_6_7 _ (List.mem_of_getElem? (i := 4) rfl)) rfl
theorem k_1494 : Cond.methodLink RX10 338 yX10_lettersOf ∈ gtbl := gt_in (in_S_6_7 _ (List.mem_of_getElem? (i := 5) rfl)) rfl
theorem k_1496 : Cond.instanceMethod yX10_lettersOf ∈ gtbl := gt_in (in_S_6_7 _ (List.mem_of_getElem? (i := 7) rfl)) rfl
theorem k_1497 : Cond.code yX10_lettersOf cX10_lettersOf 4 (some .int) ∈ gtbl := gt_in (in_S_6_7 _ (List.mem_of_getElem? (i := 8) rfl)) rfl
theorem k_1498 : Cond.methodLink RX10 335 yX10_lineEnd ∈ gtbl := gt_in (in_S_6_7 _ (List.mem_of_getElem? (i := 9) rfl)) rfl
theorem k_1500 : Cond.instanceMethod yX10_lineEnd ∈ gtbl := gt_in (in_S_6_7 _ (List.mem_of_getElem? (i := 11) rfl)) rfl
theorem k_1501 : Cond.code yX10_lineEnd cX10_lineEnd 2 (some .int) ∈ gtbl := gt_in (in_S_6_7 _ (List.mem_of_getElem? (i := 12) rfl)) rfl
theorem k_1502 : Cond.methodLink RX10 353 yX10_hasTwice ∈ gtbl := gt_in (in_S_6_7 _ (List.mem_of_getElem? (i := 13) rfl)) rfl
theorem k_1504 : Cond.instanceMethod yX10_hasTwice ∈ gtbl := gt_in (in_S_6_7 _ (List.mem_of_getElem? (i := 15) rfl)) rfl
theorem k_1505 : Cond.code yX10_hasTwice cX10_hasTwice 4 (some .boolean) ∈ gtbl := gt_in (in_S_6_7 _ (List.mem_of_getElem? (i := 16) rfl)) rfl
theorem k_1506 : Cond.methodLink RX10 356 yX10_isOtherWay ∈ gtbl := gt_in (in_S_6_7 _ (List.mem_of_getElem? (i := 17) rfl)) rfl
theorem k_1508 : Cond.instanceMethod yX10_isOtherWay ∈ gtbl := gt_in (in_S_6_7 _ (List.mem_of_getElem? (i := 19) rfl)) rfl
theorem k_1509 : Cond.code yX10_isOtherWay cX10_isOtherWay 7 (some .boolean) ∈ gtbl := gt_in (in_S_6_7 _ (List.mem_of_getElem? (i := 20) rfl)) rfl
theorem k_1510 : Cond.methodLink RX10 359 yX10_isTopped ∈ gtbl := gt_in (in_S_6_7 _ (List.mem_of_getElem? (i := 21) rfl)) rfl
theorem k_1512 : Cond.instanceMethod yX10_isTopped ∈ gtbl := gt_in (in_S_6_7 _ (List.mem_of_getElem? (i := 23) rfl)) rfl
theorem k_1513 : Cond.code yX10_isTopped cX10_isTopped 4 (some .boolean) ∈ gtbl := gt_in (in_S_6_7 _ (List.mem_of_getElem? (i := 24) rfl)) rfl
theorem k_1514 : Cond.methodLink RX10 341 yX10_sumOf ∈ gtbl := gt_in (in_S_6_7 _ (List.mem_of_getElem? (i := 25) rfl)) rfl
theorem k_1516 : Cond.instanceMethod yX10_sumOf ∈ gtbl := gt_in (in_S_6_7 _ (List.mem_of_getElem? (i := 27) rfl)) rfl
theorem k_1517 : Cond.code yX10_sumOf cX10_sumOf 4 (some .int) ∈ gtbl := gt_in (in_S_6_7 _ (List.mem_of_getElem? (i := 28) rfl)) rfl
theorem k_1518 : Cond.methodLink RX10 362 yX10_isOther ∈ gtbl := gt_in (in_S_6_7 _ (List.mem_of_getElem? (i := 29) rfl)) rfl
def S_7_0 : List Cond := [(Jvm.Cond.privateMethod ({ cls := "DuelRoundModel", name := "isOther", desc := "(I)Z" } : Jvm.MethodName)), Cond.instanceMethod yX10_isOther, Cond.code yX10_isOther cX10_isOther 2 (some .boolean), Cond.methodLink RX10 344 yX10_isOtherOrder, (Jvm.Cond.privateMethod ({ cls := "DuelRoundModel", name := "isOtherOrder", desc := "(I)Z" } : Jvm.MethodName)), Cond.instanceMethod yX10_isOtherOrder, Cond.code yX10_isOtherOrder cX10_isOtherOrder 6 (some .boolean), Cond.methodLink RX10 347 yX10_isOtherWeights, (Jvm.Cond.privateMethod ({ cls := "DuelRoundModel", name := "isOtherWeights", desc := "(I)Z" } : Jvm.MethodName)), Cond.instanceMethod yX10_isOtherWeights, Cond.code yX10_isOtherWeights cX10_isOtherWeights 9 (some .boolean), Cond.methodLink RX10 365 yX10_wasSaid, (Jvm.Cond.privateMethod ({ cls := "DuelRoundModel", name := "wasSaid", desc := "(I)Z" } : Jvm.MethodName)), Cond.instanceMethod yX10_wasSaid, Cond.code yX10_wasSaid cX10_wasSaid 4 (some .boolean), Cond.methodLink RX10 350 yX10_areAlike, (Jvm.Cond.privateMethod ({ cls := "DuelRoundModel", name := "areAlike", desc := "(II)Z" } : Jvm.MethodName)), Cond.instanceMethod yX10_areAlike, Cond.code yX10_areAlike cX10_areAlike 5 (some .boolean), Cond.methodLink RL 112 yX10_judged, Cond.instanceMethod yX10_judged, Cond.selects RX10 yX10_judged yX10_judged, Cond.code yX10_judged cX10_judged 2 (some .int), Cond.methodLink RL 116 yX10_fewest, Cond.instanceMethod yX10_fewest, Cond.selects RX10 yX10_fewest yX10_fewest, Cond.code yX10_fewest cX10_fewest 6 (some .int), Cond.methodLink RX10 386 yX10_isIn, (Jvm.Cond.privateMethod ({ cls := "DuelRoundModel", name := "isIn", desc := "(II)Z" } : Jvm.MethodName)), Cond.instanceMethod yX10_isIn]
def S_7_1 : List Cond := [Cond.code yX10_isIn cX10_isIn 3 (some .boolean), Cond.methodLink RX10 389 yX10_byOne, (Jvm.Cond.privateMethod ({ cls := "DuelRoundModel", name := "byOne", desc := "(II)Z" } : Jvm.MethodName)), Cond.instanceMethod yX10_byOne, Cond.code yX10_byOne cX10_byOne 6 (some .boolean), Cond.methodLink RL 120 yX10_selves, Cond.instanceMethod yX10_selves, Cond.selects RX10 yX10_selves yX10_selves, Cond.code yX10_selves cX10_selves 3 (some .int), Cond.methodLink RX10 392 yX10_areNames, (Jvm.Cond.privateMethod ({ cls := "DuelRoundModel", name := "areNames", desc := "([II)Z" } : Jvm.MethodName)), Cond.instanceMethod yX10_areNames, Cond.code yX10_areNames cX10_areNames 6 (some .boolean), Cond.methodLink RL 124 yX10_undo, Cond.instanceMethod yX10_undo, Cond.selects RX10 yX10_undo yX10_undo, Cond.code yX10_undo cX10_undo 2 (some .int), Cond.methodLink RL 128 yX10_keep, Cond.instanceMethod yX10_keep, Cond.selects RX10 yX10_keep yX10_keep, Cond.code yX10_keep cX10_keep 3 (some .boolean), Cond.methodLink RL 132 yX10_again, Cond.instanceMethod yX10_again, Cond.selects RX10 yX10_again yX10_again, Cond.code yX10_again cX10_again 3 (some .boolean), Cond.methodLink RL 136 yX10_alike, Cond.instanceMethod yX10_alike, Cond.selects RX10 yX10_alike yX10_alike, Cond.code yX10_alike cX10_alike 7 (some .int), Cond.methodLink RX10 396 yX10_isAlike]
def S_7_2 : List Cond := [(Jvm.Cond.privateMethod ({ cls := "DuelRoundModel", name := "isAlike", desc := "(I)Z" } : Jvm.MethodName)), Cond.instanceMethod yX10_isAlike, Cond.code yX10_isAlike cX10_isAlike 3 (some .boolean), Cond.methodLink RL 140 yX10_count, Cond.instanceMethod yX10_count, Cond.selects RX10 yX10_count yX10_count, Cond.code yX10_count cX10_count 4 (some .int), Cond.methodLink RX10 399 yX10_cycles, (Jvm.Cond.privateMethod ({ cls := "DuelRoundModel", name := "cycles", desc := "()I" } : Jvm.MethodName)), Cond.instanceMethod yX10_cycles, Cond.code yX10_cycles cX10_cycles 4 (some .int), (Jvm.Cond.sameMethod "java/lang/Throwable" "java/lang/Throwable" "fillInStackTrace" "(I)Ljava/lang/Throwable;"), (Jvm.Cond.castable "DuelRound" "java/lang/Object"), (Jvm.Cond.castable "DuelRound$Signs" "java/lang/Object"), (Jvm.Cond.castable "DuelRound$Duels" "java/lang/Object"), (Jvm.Cond.castable "DuelRound$Past" "java/lang/Object"), (Jvm.Cond.castable "DuelRound$Orders" "java/lang/Object"), (Jvm.Cond.castable "DuelRound$Weights" "java/lang/Object"), (Jvm.Cond.castable "DuelRound$Cups" "java/lang/Object"), (Jvm.Cond.castable "DuelRound$Sets" "java/lang/Object"), (Jvm.Cond.castable "DuelRound$Proofs" "java/lang/Object"), (Jvm.Cond.castable "DuelRound$Names" "java/lang/Object"), (Jvm.Cond.castable "DuelRoundModel" "java/lang/Object"), (Jvm.Cond.castable "java/util/NoSuchElementException" "java/lang/Object"), (Jvm.Cond.castable "java/lang/Throwable" "java/lang/Object"), (Jvm.Cond.castable "java/lang/String" "java/lang/Object")]
set_option maxRecDepth 100000 in
theorem eq_7 : S_7_0 ++ (S_7_1 ++ (S_7_2)) = tables_1_7 := rfl
theorem in_S_7_0 : ∀ w ∈ S_7_0, w ∈ lw_tbl := fun w h => List.mem_append_right _ (List.mem_append_right _ (List.mem_append_right _ (List.mem_append_right _ (List.mem_append_right _ (List.mem_append_right _ (List.mem_append_right _ ((eq_7 ▸ (List.mem_append_left _ h : w ∈ S_7_0 ++ (S_7_1 ++ (S_7_2)))))))))))
theorem k_1520 : Cond.instanceMethod yX10_isOther ∈ gtbl := gt_in (in_S_7_0 _ (List.mem_of_getElem? (i := 1) rfl)) rfl
theorem k_1521 : Cond.code yX10_isOther cX10_isOther 2 (some .boolean) ∈ gtbl := gt_in (in_S_7_0 _ (List.mem_of_getElem? (i := 2) rfl)) rfl
theorem k_1522 : Cond.methodLink RX10 344 yX10_isOtherOrder ∈ gtbl := gt_in (in_S_7_0 _ (List.mem_of_getElem? (i := 3) rfl)) rfl
theorem k_1524 : Cond.instanceMethod yX10_isOtherOrder ∈ gtbl := gt_in (in_S_7_0 _ (List.mem_of_getElem? (i := 5) rfl)) rfl
theorem k_1525 : Cond.code yX10_isOtherOrder cX10_isOtherOrder 6 (some .boolean) ∈ gtbl := gt_in (in_S_7_0 _ (List.mem_of_getElem? (i := 6) rfl)) rfl
theorem k_1526 : Cond.methodLink RX10 347 yX10_isOtherWeights ∈ gtbl := gt_in (in_S_7_0 _ (List.mem_of_getElem? (i := 7) rfl)) rfl
theorem k_1528 : Cond.instanceMethod yX10_isOtherWeights ∈ gtbl := gt_in (in_S_7_0 _ (List.mem_of_getElem? (i := 9) rfl)) rfl
theorem k_1529 : Cond.code yX10_isOtherWeights cX10_isOtherWeights 9 (some .boolean) ∈ gtbl := gt_in (in_S_7_0 _ (List.mem_of_getElem? (i := 10) rfl)) rfl
theorem k_1530 : Cond.methodLink RX10 365 yX10_wasSaid ∈ gtbl := gt_in (in_S_7_0 _ (List.mem_of_getElem? (i := 11) rfl)) rfl
theorem k_1532 : Cond.instanceMethod yX10_wasSaid ∈ gtbl := gt_in (in_S_7_0 _ (List.mem_of_getElem? (i := 13) rfl)) rfl
theorem k_1533 : Cond.code yX10_wasSaid cX10_wasSaid 4 (some .boolean) ∈ gtbl := gt_in (in_S_7_0 _ (List.mem_of_getElem? (i := 14) rfl)) rfl
theorem k_1534 : Cond.methodLink RX10 350 yX10_areAlike ∈ gtbl := gt_in (in_S_7_0 _ (List.mem_of_getElem? (i := 15) rfl)) rfl
theorem k_1536 : Cond.instanceMethod yX10_areAlike ∈ gtbl := gt_in (in_S_7_0 _ (List.mem_of_getElem? (i := 17) rfl)) rfl
theorem k_1537 : Cond.code yX10_areAlike cX10_areAlike 5 (some .boolean) ∈ gtbl := gt_in (in_S_7_0 _ (List.mem_of_getElem? (i := 18) rfl)) rfl
theorem k_1538 : Cond.methodLink RL 112 yX10_judged ∈ gtbl := gt_in (in_S_7_0 _ (List.mem_of_getElem? (i := 19) rfl)) rfl
theorem k_1539 : Cond.instanceMethod yX10_judged ∈ gtbl := gt_in (in_S_7_0 _ (List.mem_of_getElem? (i := 20) rfl)) rfl
theorem k_1540 : Cond.selects RX10 yX10_judged yX10_judged ∈ gtbl := gt_in (in_S_7_0 _ (List.mem_of_getElem? (i := 21) rfl)) rfl
theorem k_1541 : Cond.code yX10_judged cX10_judged 2 (some .int) ∈ gtbl := gt_in (in_S_7_0 _ (List.mem_of_getElem? (i := 22) rfl)) rfl
theorem k_1542 : Cond.methodLink RL 116 yX10_fewest ∈ gtbl := gt_in (in_S_7_0 _ (List.mem_of_getElem? (i := 23) rfl)) rfl
theorem k_1543 : Cond.instanceMethod yX10_fewest ∈ gtbl := gt_in (in_S_7_0 _ (List.mem_of_getElem? (i := 24) rfl)) rfl
theorem k_1544 : Cond.selects RX10 yX10_fewest yX10_fewest ∈ gtbl := gt_in (in_S_7_0 _ (List.mem_of_getElem? (i := 25) rfl)) rfl
theorem k_1545 : Cond.code yX10_fewest cX10_fewest 6 (some .int) ∈ gtbl := gt_in (in_S_7_0 _ (List.mem_of_getElem? (i := 26) rfl)) rfl
theorem k_1546 : Cond.methodLink RX10 386 yX10_isIn ∈ gtbl := gt_in (in_S_7_0 _ (List.mem_of_getElem? (i := 27) rfl)) rfl
theorem k_1548 : Cond.instanceMethod yX10_isIn ∈ gtbl := gt_in (in_S_7_0 _ (List.mem_of_getElem? (i := 29) rfl)) rfl
theorem in_S_7_1 : ∀ w ∈ S_7_1, w ∈ lw_tbl := fun w h => List.mem_append_right _ (List.mem_append_right _ (List.mem_append_right _ (List.mem_append_right _ (List.mem_append_right _ (List.mem_append_right _ (List.mem_append_right _ ((eq_7 ▸ (List.mem_append_right _ (List.mem_append_left _ h) : w ∈ S_7_0 ++ (S_7_1 ++ (S_7_2)))))))))))
theorem k_1549 : Cond.code yX10_isIn cX10_isIn 3 (some .boolean) ∈ gtbl := gt_in (in_S_7_1 _ (List.mem_of_getElem? (i := 0) rfl)) rfl
theorem k_1550 : Cond.methodLink RX10 389 yX10_byOne ∈ gtbl := gt_in (in_S_7_1 _ (List.mem_of_getElem? (i := 1) rfl)) rfl
theorem k_1552 : Cond.instanceMethod yX10_byOne ∈ gtbl := gt_in (in_S_7_1 _ (List.mem_of_getElem? (i := 3) rfl)) rfl
theorem k_1553 : Cond.code yX10_byOne cX10_byOne 6 (some .boolean) ∈ gtbl := gt_in (in_S_7_1 _ (List.mem_of_getElem? (i := 4) rfl)) rfl
theorem k_1554 : Cond.methodLink RL 120 yX10_selves ∈ gtbl := gt_in (in_S_7_1 _ (List.mem_of_getElem? (i := 5) rfl)) rfl
theorem k_1555 : Cond.instanceMethod yX10_selves ∈ gtbl := gt_in (in_S_7_1 _ (List.mem_of_getElem? (i := 6) rfl)) rfl
theorem k_1556 : Cond.selects RX10 yX10_selves yX10_selves ∈ gtbl := gt_in (in_S_7_1 _ (List.mem_of_getElem? (i := 7) rfl)) rfl
theorem k_1557 : Cond.code yX10_selves cX10_selves 3 (some .int) ∈ gtbl := gt_in (in_S_7_1 _ (List.mem_of_getElem? (i := 8) rfl)) rfl
theorem k_1558 : Cond.methodLink RX10 392 yX10_areNames ∈ gtbl := gt_in (in_S_7_1 _ (List.mem_of_getElem? (i := 9) rfl)) rfl
theorem k_1560 : Cond.instanceMethod yX10_areNames ∈ gtbl := gt_in (in_S_7_1 _ (List.mem_of_getElem? (i := 11) rfl)) rfl
theorem k_1561 : Cond.code yX10_areNames cX10_areNames 6 (some .boolean) ∈ gtbl := gt_in (in_S_7_1 _ (List.mem_of_getElem? (i := 12) rfl)) rfl
theorem k_1562 : Cond.methodLink RL 124 yX10_undo ∈ gtbl := gt_in (in_S_7_1 _ (List.mem_of_getElem? (i := 13) rfl)) rfl
theorem k_1563 : Cond.instanceMethod yX10_undo ∈ gtbl := gt_in (in_S_7_1 _ (List.mem_of_getElem? (i := 14) rfl)) rfl
theorem k_1564 : Cond.selects RX10 yX10_undo yX10_undo ∈ gtbl := gt_in (in_S_7_1 _ (List.mem_of_getElem? (i := 15) rfl)) rfl
theorem k_1565 : Cond.code yX10_undo cX10_undo 2 (some .int) ∈ gtbl := gt_in (in_S_7_1 _ (List.mem_of_getElem? (i := 16) rfl)) rfl
theorem k_1566 : Cond.methodLink RL 128 yX10_keep ∈ gtbl := gt_in (in_S_7_1 _ (List.mem_of_getElem? (i := 17) rfl)) rfl
theorem k_1567 : Cond.instanceMethod yX10_keep ∈ gtbl := gt_in (in_S_7_1 _ (List.mem_of_getElem? (i := 18) rfl)) rfl
theorem k_1568 : Cond.selects RX10 yX10_keep yX10_keep ∈ gtbl := gt_in (in_S_7_1 _ (List.mem_of_getElem? (i := 19) rfl)) rfl
theorem k_1569 : Cond.code yX10_keep cX10_keep 3 (some .boolean) ∈ gtbl := gt_in (in_S_7_1 _ (List.mem_of_getElem? (i := 20) rfl)) rfl
theorem k_1570 : Cond.methodLink RL 132 yX10_again ∈ gtbl := gt_in (in_S_7_1 _ (List.mem_of_getElem? (i := 21) rfl)) rfl
theorem k_1571 : Cond.instanceMethod yX10_again ∈ gtbl := gt_in (in_S_7_1 _ (List.mem_of_getElem? (i := 22) rfl)) rfl
theorem k_1572 : Cond.selects RX10 yX10_again yX10_again ∈ gtbl := gt_in (in_S_7_1 _ (List.mem_of_getElem? (i := 23) rfl)) rfl
theorem k_1573 : Cond.code yX10_again cX10_again 3 (some .boolean) ∈ gtbl := gt_in (in_S_7_1 _ (List.mem_of_getElem? (i := 24) rfl)) rfl
theorem k_1574 : Cond.methodLink RL 136 yX10_alike ∈ gtbl := gt_in (in_S_7_1 _ (List.mem_of_getElem? (i := 25) rfl)) rfl
theorem k_1575 : Cond.instanceMethod yX10_alike ∈ gtbl := gt_in (in_S_7_1 _ (List.mem_of_getElem? (i := 26) rfl)) rfl
theorem k_1576 : Cond.selects RX10 yX10_alike yX10_alike ∈ gtbl := gt_in (in_S_7_1 _ (List.mem_of_getElem? (i := 27) rfl)) rfl
theorem k_1577 : Cond.code yX10_alike cX10_alike 7 (some .int) ∈ gtbl := gt_in (in_S_7_1 _ (List.mem_of_getElem? (i := 28) rfl)) rfl
theorem k_1578 : Cond.methodLink RX10 396 yX10_isAlike ∈ gtbl := gt_in (in_S_7_1 _ (List.mem_of_getElem? (i := 29) rfl)) rfl
theorem in_S_7_2 : ∀ w ∈ S_7_2, w ∈ lw_tbl := fun w h => List.mem_append_right _ (List.mem_append_right _ (List.mem_append_right _ (List.mem_append_right _ (List.mem_append_right _ (List.mem_append_right _ (List.mem_append_right _ ((eq_7 ▸ (List.mem_append_right _ (List.mem_append_right _ (h)) : w ∈ S_7_0 ++ (S_7_1 ++ (S_7_2)))))))))))
theorem k_1580 : Cond.instanceMethod yX10_isAlike ∈ gtbl := gt_in (in_S_7_2 _ (List.mem_of_getElem? (i := 1) rfl)) rfl
theorem k_1581 : Cond.code yX10_isAlike cX10_isAlike 3 (some .boolean) ∈ gtbl := gt_in (in_S_7_2 _ (List.mem_of_getElem? (i := 2) rfl)) rfl
theorem k_1582 : Cond.methodLink RL 140 yX10_count ∈ gtbl := gt_in (in_S_7_2 _ (List.mem_of_getElem? (i := 3) rfl)) rfl
theorem k_1583 : Cond.instanceMethod yX10_count ∈ gtbl := gt_in (in_S_7_2 _ (List.mem_of_getElem? (i := 4) rfl)) rfl
theorem k_1584 : Cond.selects RX10 yX10_count yX10_count ∈ gtbl := gt_in (in_S_7_2 _ (List.mem_of_getElem? (i := 5) rfl)) rfl
theorem k_1585 : Cond.code yX10_count cX10_count 4 (some .int) ∈ gtbl := gt_in (in_S_7_2 _ (List.mem_of_getElem? (i := 6) rfl)) rfl
theorem k_1586 : Cond.methodLink RX10 399 yX10_cycles ∈ gtbl := gt_in (in_S_7_2 _ (List.mem_of_getElem? (i := 7) rfl)) rfl
theorem k_1588 : Cond.instanceMethod yX10_cycles ∈ gtbl := gt_in (in_S_7_2 _ (List.mem_of_getElem? (i := 9) rfl)) rfl
theorem k_1589 : Cond.code yX10_cycles cX10_cycles 4 (some .int) ∈ gtbl := gt_in (in_S_7_2 _ (List.mem_of_getElem? (i := 10) rfl)) rfl
theorem k_108 {U : State} (h : Nst U) : va_Nw (Cond.methodLinkNest RX9 13 yX7_init RX9) U := h (RX9, 13, yX7_init, RX9) (List.mem_of_getElem? (i := 0) rfl)
theorem k_128 {U : State} (h : Nst U) : va_Nw (Cond.methodLinkNest RX9 20 yX1_init RX9) U := h (RX9, 20, yX1_init, RX9) (List.mem_of_getElem? (i := 1) rfl)
theorem k_154 {U : State} (h : Nst U) : va_Nw (Cond.methodLinkNest RX9 30 yX4_init RX9) U := h (RX9, 30, yX4_init, RX9) (List.mem_of_getElem? (i := 2) rfl)
theorem k_303 {U : State} (h : Nst U) : va_Nw (Cond.methodLinkNest RX9 78 yX2_init RX9) U := h (RX9, 78, yX2_init, RX9) (List.mem_of_getElem? (i := 3) rfl)
theorem k_423 {U : State} (h : Nst U) : va_Nw (Cond.methodLinkNest RX1 27 yX9_bitOf RX9) U := h (RX1, 27, yX9_bitOf, RX9) (List.mem_of_getElem? (i := 4) rfl)
theorem k_509 {U : State} (h : Nst U) : va_Nw (Cond.methodLinkNest RX6 78 yX9_bitOf RX9) U := h (RX6, 78, yX9_bitOf, RX9) (List.mem_of_getElem? (i := 5) rfl)
theorem k_563 {U : State} (h : Nst U) : va_Nw (Cond.methodLinkNest RX3 28 yX9_bitOf RX9) U := h (RX3, 28, yX9_bitOf, RX9) (List.mem_of_getElem? (i := 6) rfl)
theorem k_594 {U : State} (h : Nst U) : va_Nw (Cond.methodLinkNest RX8 46 yX9_lowestOf RX9) U := h (RX8, 46, yX9_lowestOf, RX9) (List.mem_of_getElem? (i := 7) rfl)
theorem k_598 {U : State} (h : Nst U) : va_Nw (Cond.methodLinkNest RX8 55 yX9_bitOf RX9) U := h (RX8, 55, yX9_bitOf, RX9) (List.mem_of_getElem? (i := 8) rfl)
theorem k_637 {U : State} (h : Nst U) : va_Nw (Cond.methodLinkNest RX0 44 yX9_bitOf RX9) U := h (RX0, 44, yX9_bitOf, RX9) (List.mem_of_getElem? (i := 9) rfl)
theorem k_908 {U : State} (h : Nst U) : va_Nw (Cond.methodLinkNest RX2 25 yX9_bitOf RX9) U := h (RX2, 25, yX9_bitOf, RX9) (List.mem_of_getElem? (i := 10) rfl)
theorem iw_0 : ∀ w ∈ u_ws RX0 TX0 2, w ∈ gtbl := fun w h => by
  obtain ⟨j, hj, e⟩ := List.mem_map.mp h
  have hj := List.mem_range.mp hj
  subst e
  rcases (show j = 0 ∨ j = 1 by omega) with rfl | rfl
  · exact k_213
  · exact k_215
theorem iw_1 : ∀ w ∈ u_ws RX1 TX1 2, w ∈ gtbl := fun w h => by
  obtain ⟨j, hj, e⟩ := List.mem_map.mp h
  have hj := List.mem_range.mp hj
  subst e
  rcases (show j = 0 ∨ j = 1 by omega) with rfl | rfl
  · exact k_146
  · exact k_148
theorem iw_2 : ∀ w ∈ u_ws RX2 TX2 1, w ∈ gtbl := fun w h => by
  obtain ⟨j, hj, e⟩ := List.mem_map.mp h
  have hj := List.mem_range.mp hj
  subst e
  rcases (show j = 0 by omega) with rfl
  · exact k_308
theorem iw_3 : ∀ w ∈ u_ws RX3 TX3 3, w ∈ gtbl := fun w h => by
  obtain ⟨j, hj, e⟩ := List.mem_map.mp h
  have hj := List.mem_range.mp hj
  subst e
  rcases (show j = 0 ∨ j = 1 ∨ j = 2 by omega) with rfl | rfl | rfl
  · exact k_181
  · exact k_183
  · exact k_185
theorem iw_4 : ∀ w ∈ u_ws RX4 TX4 3, w ∈ gtbl := fun w h => by
  obtain ⟨j, hj, e⟩ := List.mem_map.mp h
  have hj := List.mem_range.mp hj
  subst e
  rcases (show j = 0 ∨ j = 1 ∨ j = 2 by omega) with rfl | rfl | rfl
  · exact k_163
  · exact k_165
  · exact k_167
theorem iw_5 : ∀ w ∈ u_ws RX5 TX5 15, w ∈ gtbl := fun w h => by
  obtain ⟨j, hj, e⟩ := List.mem_map.mp h
  have hj := List.mem_range.mp hj
  subst e
  rcases (show j = 0 ∨ j = 1 ∨ j = 2 ∨ j = 3 ∨ j = 4 ∨ j = 5 ∨ j = 6 ∨ j = 7 ∨ j = 8 ∨ j = 9 ∨ j = 10 ∨ j = 11 ∨ j = 12 ∨ j = 13 ∨ j = 14 by omega) with rfl | rfl | rfl | rfl | rfl | rfl | rfl | rfl | rfl | rfl | rfl | rfl | rfl | rfl | rfl
  · exact k_270
  · exact k_272
  · exact k_274
  · exact k_276
  · exact k_278
  · exact k_280
  · exact k_282
  · exact k_284
  · exact k_286
  · exact k_288
  · exact k_290
  · exact k_292
  · exact k_294
  · exact k_296
  · exact k_298
theorem iw_6 : ∀ w ∈ u_ws RX6 TX6 6, w ∈ gtbl := fun w h => by
  obtain ⟨j, hj, e⟩ := List.mem_map.mp h
  have hj := List.mem_range.mp hj
  subst e
  rcases (show j = 0 ∨ j = 1 ∨ j = 2 ∨ j = 3 ∨ j = 4 ∨ j = 5 by omega) with rfl | rfl | rfl | rfl | rfl | rfl
  · exact k_231
  · exact k_233
  · exact k_235
  · exact k_237
  · exact k_239
  · exact k_241
theorem iw_7 : ∀ w ∈ u_ws RX7 TX7 3, w ∈ gtbl := fun w h => by
  obtain ⟨j, hj, e⟩ := List.mem_map.mp h
  have hj := List.mem_range.mp hj
  subst e
  rcases (show j = 0 ∨ j = 1 ∨ j = 2 by omega) with rfl | rfl | rfl
  · exact k_118
  · exact k_120
  · exact k_122
theorem iw_8 : ∀ w ∈ u_ws RX8 TX8 3, w ∈ gtbl := fun w h => by
  obtain ⟨j, hj, e⟩ := List.mem_map.mp h
  have hj := List.mem_range.mp hj
  subst e
  rcases (show j = 0 ∨ j = 1 ∨ j = 2 by omega) with rfl | rfl | rfl
  · exact k_198
  · exact k_200
  · exact k_202
theorem iw_9 : ∀ w ∈ u_ws RX9 TX9 11, w ∈ gtbl := fun w h => by
  obtain ⟨j, hj, e⟩ := List.mem_map.mp h
  have hj := List.mem_range.mp hj
  subst e
  rcases (show j = 0 ∨ j = 1 ∨ j = 2 ∨ j = 3 ∨ j = 4 ∨ j = 5 ∨ j = 6 ∨ j = 7 ∨ j = 8 ∨ j = 9 ∨ j = 10 by omega) with rfl | rfl | rfl | rfl | rfl | rfl | rfl | rfl | rfl | rfl | rfl
  · exact k_322
  · exact k_324
  · exact k_326
  · exact k_328
  · exact k_330
  · exact k_332
  · exact k_334
  · exact k_336
  · exact k_338
  · exact k_340
  · exact k_342
theorem iw_10 : ∀ w ∈ u_ws RX10 TX10 38, w ∈ gtbl := fun w h => by
  obtain ⟨j, hj, e⟩ := List.mem_map.mp h
  have hj := List.mem_range.mp hj
  subst e
  rcases (show j = 0 ∨ j = 1 ∨ j = 2 ∨ j = 3 ∨ j = 4 ∨ j = 5 ∨ j = 6 ∨ j = 7 ∨ j = 8 ∨ j = 9 ∨ j = 10 ∨ j = 11 ∨ j = 12 ∨ j = 13 ∨ j = 14 ∨ j = 15 ∨ j = 16 ∨ j = 17 ∨ j = 18 ∨ j = 19 ∨ j = 20 ∨ j = 21 ∨ j = 22 ∨ j = 23 ∨ j = 24 ∨ j = 25 ∨ j = 26 ∨ j = 27 ∨ j = 28 ∨ j = 29 ∨ j = 30 ∨ j = 31 ∨ j = 32 ∨ j = 33 ∨ j = 34 ∨ j = 35 ∨ j = 36 ∨ j = 37 by omega) with rfl | rfl | rfl | rfl | rfl | rfl | rfl | rfl | rfl | rfl | rfl | rfl | rfl | rfl | rfl | rfl | rfl | rfl | rfl | rfl | rfl | rfl | rfl | rfl | rfl | rfl | rfl | rfl | rfl | rfl | rfl | rfl | rfl | rfl | rfl | rfl | rfl | rfl
  · exact k_1075
  · exact k_1077
  · exact k_1079
  · exact k_1081
  · exact k_1083
  · exact k_1085
  · exact k_1087
  · exact k_1089
  · exact k_1091
  · exact k_1093
  · exact k_1095
  · exact k_1097
  · exact k_1099
  · exact k_1101
  · exact k_1103
  · exact k_1105
  · exact k_1107
  · exact k_1109
  · exact k_1111
  · exact k_1113
  · exact k_1115
  · exact k_1117
  · exact k_1119
  · exact k_1121
  · exact k_1123
  · exact k_1125
  · exact k_1127
  · exact k_1129
  · exact k_1131
  · exact k_1133
  · exact k_1135
  · exact k_1137
  · exact k_1139
  · exact k_1141
  · exact k_1143
  · exact k_1145
  · exact k_1147
  · exact k_1149
theorem nc_0 : RX9 ≠ "java/lang/invoke/MethodHandle" ∧ RX9 ≠ "java/lang/invoke/VarHandle" := ⟨by decide +kernel, by decide +kernel⟩
theorem pd_0 : (parseMethodDescriptor "()V").map (fun d => d.parameters.length) = some 0 := by decide +kernel
theorem o_X9_init : yok yX9_init cX9_init 1 none 0 := ⟨k_102, k_80, nc_0.1, nc_0.2, pd_0⟩
theorem nc_1 : RX7 ≠ "java/lang/invoke/MethodHandle" ∧ RX7 ≠ "java/lang/invoke/VarHandle" := ⟨by decide +kernel, by decide +kernel⟩
theorem o_X7_init : yok yX7_init cX7_init 1 none 0 := ⟨k_110, k_81, nc_1.1, nc_1.2, pd_0⟩
theorem nc_2 : RX1 ≠ "java/lang/invoke/MethodHandle" ∧ RX1 ≠ "java/lang/invoke/VarHandle" := ⟨by decide +kernel, by decide +kernel⟩
theorem o_X1_init : yok yX1_init cX1_init 1 none 0 := ⟨k_130, k_82, nc_2.1, nc_2.2, pd_0⟩
theorem nc_3 : RX4 ≠ "java/lang/invoke/MethodHandle" ∧ RX4 ≠ "java/lang/invoke/VarHandle" := ⟨by decide +kernel, by decide +kernel⟩
theorem o_X4_init : yok yX4_init cX4_init 1 none 0 := ⟨k_156, k_83, nc_3.1, nc_3.2, pd_0⟩
theorem nc_4 : RX3 ≠ "java/lang/invoke/MethodHandle" ∧ RX3 ≠ "java/lang/invoke/VarHandle" := ⟨by decide +kernel, by decide +kernel⟩
theorem pd_1 : (parseMethodDescriptor "(LDuelRound$Duels;)V").map (fun d => d.parameters.length) = some 1 := by decide +kernel
theorem o_X3_init : yok yX3_init cX3_init 2 none 1 := ⟨k_175, k_84, nc_4.1, nc_4.2, pd_1⟩
theorem nc_5 : RX8 ≠ "java/lang/invoke/MethodHandle" ∧ RX8 ≠ "java/lang/invoke/VarHandle" := ⟨by decide +kernel, by decide +kernel⟩
theorem o_X8_init : yok yX8_init cX8_init 2 none 1 := ⟨k_192, k_85, nc_5.1, nc_5.2, pd_1⟩
theorem nc_6 : RX0 ≠ "java/lang/invoke/MethodHandle" ∧ RX0 ≠ "java/lang/invoke/VarHandle" := ⟨by decide +kernel, by decide +kernel⟩
theorem o_X0_init : yok yX0_init cX0_init 2 none 1 := ⟨k_209, k_86, nc_6.1, nc_6.2, pd_1⟩
theorem nc_7 : RX6 ≠ "java/lang/invoke/MethodHandle" ∧ RX6 ≠ "java/lang/invoke/VarHandle" := ⟨by decide +kernel, by decide +kernel⟩
theorem pd_2 : (parseMethodDescriptor "(LDuelRound$Duels;LDuelRound$Orders;LDuelRound$Weights;LDuelRound$Cups;)V").map (fun d => d.parameters.length) = some 4 := by decide +kernel
theorem o_X6_init : yok yX6_init cX6_init 5 none 4 := ⟨k_222, k_87, nc_7.1, nc_7.2, pd_2⟩
theorem nc_8 : RX5 ≠ "java/lang/invoke/MethodHandle" ∧ RX5 ≠ "java/lang/invoke/VarHandle" := ⟨by decide +kernel, by decide +kernel⟩
theorem pd_3 : (parseMethodDescriptor "(LDuelRound$Duels;LDuelRound$Signs;LDuelRound$Sets;LDuelRound$Orders;LDuelRound$Weights;)V").map (fun d => d.parameters.length) = some 5 := by decide +kernel
theorem o_X5_init : yok yX5_init cX5_init 6 none 5 := ⟨k_248, k_88, nc_8.1, nc_8.2, pd_3⟩
theorem nc_9 : RX2 ≠ "java/lang/invoke/MethodHandle" ∧ RX2 ≠ "java/lang/invoke/VarHandle" := ⟨by decide +kernel, by decide +kernel⟩
theorem o_X2_init : yok yX2_init cX2_init 1 none 0 := ⟨k_305, k_89, nc_9.1, nc_9.2, pd_0⟩
theorem pd_4 : (parseMethodDescriptor "(I)I").map (fun d => d.parameters.length) = some 1 := by decide +kernel
theorem o_X9_sign : yokV yX9_sign cX9_sign 2 (some .int) 1 := ⟨⟨k_348, k_80, nc_0.1, nc_0.2, pd_4⟩, k_346, k_347⟩
theorem o_X7_addFour : yokV yX7_addFour cX7_addFour 3 (some .int) 1 := ⟨⟨k_352, k_81, nc_1.1, nc_1.2, pd_4⟩, k_350, k_351⟩
theorem pd_5 : (parseMethodDescriptor "(I)Z").map (fun d => d.parameters.length) = some 1 := by decide +kernel
theorem o_X9_end : yokV yX9_end cX9_end 2 (some .boolean) 1 := ⟨⟨k_356, k_80, nc_0.1, nc_0.2, pd_5⟩, k_354, k_355⟩
theorem o_X7_cutTo : yokV yX7_cutTo cX7_cutTo 2 (some .boolean) 1 := ⟨⟨k_360, k_81, nc_1.1, nc_1.2, pd_5⟩, k_358, k_359⟩
theorem pd_6 : (parseMethodDescriptor "()I").map (fun d => d.parameters.length) = some 0 := by decide +kernel
theorem o_X9_round : yokV yX9_round cX9_round 2 (some .int) 0 := ⟨⟨k_364, k_80, nc_0.1, nc_0.2, pd_6⟩, k_362, k_363⟩
theorem o_X9_faultOfRound : yokV yX9_faultOfRound cX9_faultOfRound 2 (some .int) 0 := ⟨⟨k_368, k_80, nc_0.1, nc_0.2, pd_6⟩, k_367, k_0⟩
theorem o_X1_clear : yokV yX1_clear cX1_clear 2 none 0 := ⟨⟨k_372, k_82, nc_2.1, nc_2.2, pd_0⟩, k_370, k_371⟩
theorem pd_7 : (parseMethodDescriptor "()Z").map (fun d => d.parameters.length) = some 0 := by decide +kernel
theorem o_X9_readPair : yokV yX9_readPair cX9_readPair 3 (some .boolean) 0 := ⟨⟨k_376, k_80, nc_0.1, nc_0.2, pd_7⟩, k_375, k_1⟩
theorem o_X7_nextLetter : yokV yX7_nextLetter cX7_nextLetter 2 (some .int) 0 := ⟨⟨k_380, k_81, nc_1.1, nc_1.2, pd_6⟩, k_378, k_379⟩
theorem o_X7_next : yokV yX7_next cX7_next 1 (some .int) 0 := ⟨⟨k_384, k_81, nc_1.1, nc_1.2, pd_6⟩, k_382, k_383⟩
theorem pd_8 : (parseMethodDescriptor "(II)Z").map (fun d => d.parameters.length) = some 2 := by decide +kernel
theorem o_X1_isTold : yokV yX1_isTold cX1_isTold 3 (some .boolean) 2 := ⟨⟨k_389, k_82, nc_2.1, nc_2.2, pd_8⟩, k_387, k_388⟩
theorem o_X1_isBeating : yokV yX1_isBeating cX1_isBeating 3 (some .boolean) 2 := ⟨⟨k_393, k_82, nc_2.1, nc_2.2, pd_8⟩, k_391, k_392⟩
theorem pd_9 : (parseMethodDescriptor "(II)V").map (fun d => d.parameters.length) = some 2 := by decide +kernel
theorem o_X1_letBeat : yokV yX1_letBeat cX1_letBeat 3 none 2 := ⟨⟨k_397, k_82, nc_2.1, nc_2.2, pd_9⟩, k_395, k_396⟩
theorem nc_10 : RJ9 ≠ "java/lang/invoke/MethodHandle" ∧ RJ9 ≠ "java/lang/invoke/VarHandle" := ⟨by decide +kernel, by decide +kernel⟩
theorem pd_10 : (parseMethodDescriptor "(II)I").map (fun d => d.parameters.length) = some 2 := by decide +kernel
theorem o_J9_max_7cf53 : yokS yJ9_max_7cf53 cJ9_max_7cf53 2 (some .int) 2 := ⟨⟨k_400, k_91, nc_10.1, nc_10.2, pd_10⟩, k_399⟩
theorem o_X1_arrowsTold : yokV yX1_arrowsTold cX1_arrowsTold 3 (some .int) 0 := ⟨⟨k_404, k_82, nc_2.1, nc_2.2, pd_6⟩, k_402, k_403⟩
theorem nc_11 : RJ6 ≠ "java/lang/invoke/MethodHandle" ∧ RJ6 ≠ "java/lang/invoke/VarHandle" := ⟨by decide +kernel, by decide +kernel⟩
theorem o_J6_bitCount_0f7a4 : yokS yJ6_bitCount_0f7a4 cJ6_bitCount_0f7a4 1 (some .int) 1 := ⟨⟨k_407, k_92, nc_11.1, nc_11.2, pd_4⟩, k_406⟩
theorem o_X1_arrows : yokV yX1_arrows cX1_arrows 1 (some .int) 0 := ⟨⟨k_414, k_82, nc_2.1, nc_2.2, pd_6⟩, k_412, k_413⟩
theorem o_X9_startWithSpare : yokV yX9_startWithSpare cX9_startWithSpare 1 (some .int) 0 := ⟨⟨k_418, k_80, nc_0.1, nc_0.2, pd_6⟩, k_417, k_2⟩
theorem pd_11 : (parseMethodDescriptor "()J").map (fun d => d.parameters.length) = some 0 := by decide +kernel
theorem o_X1_packed : yokV yX1_packed cX1_packed 5 (some .long) 0 := ⟨⟨k_422, k_82, nc_2.1, nc_2.2, pd_11⟩, k_420, k_421⟩
theorem o_X9_bitOf : yokS yX9_bitOf cX9_bitOf 2 (some .int) 2 := ⟨⟨k_425, k_80, nc_0.1, nc_0.2, pd_10⟩, k_424⟩
theorem pd_12 : (parseMethodDescriptor "(J)V").map (fun d => d.parameters.length) = some 1 := by decide +kernel
theorem o_X1_unpack : yokV yX1_unpack cX1_unpack 8 none 1 := ⟨⟨k_429, k_82, nc_2.1, nc_2.2, pd_12⟩, k_427, k_428⟩
theorem o_X4_forgetAll : yokV yX4_forgetAll cX4_forgetAll 2 none 0 := ⟨⟨k_436, k_83, nc_3.1, nc_3.2, pd_0⟩, k_434, k_435⟩
theorem o_X9_drawn : yokV yX9_drawn cX9_drawn 6 (some .int) 2 := ⟨⟨k_440, k_80, nc_0.1, nc_0.2, pd_10⟩, k_438, k_439⟩
theorem o_X9_beaten : yokV yX9_beaten cX9_beaten 3 (some .int) 2 := ⟨⟨k_446, k_80, nc_0.1, nc_0.2, pd_10⟩, k_444, k_445⟩
theorem o_X1_isPlayer : yokV yX1_isPlayer cX1_isPlayer 2 (some .boolean) 1 := ⟨⟨k_450, k_82, nc_2.1, nc_2.2, pd_5⟩, k_448, k_449⟩
theorem o_X1_arePlayers : yokV yX1_arePlayers cX1_arePlayers 2 (some .boolean) 1 := ⟨⟨k_454, k_82, nc_2.1, nc_2.2, pd_5⟩, k_452, k_453⟩
theorem o_X1_everybody : yokV yX1_everybody cX1_everybody 1 (some .int) 0 := ⟨⟨k_458, k_82, nc_2.1, nc_2.2, pd_6⟩, k_456, k_457⟩
theorem o_X9_turn : yokV yX9_turn cX9_turn 3 (some .int) 2 := ⟨⟨k_462, k_80, nc_0.1, nc_0.2, pd_10⟩, k_460, k_461⟩
theorem o_X4_remember : yokV yX4_remember cX4_remember 3 none 1 := ⟨⟨k_466, k_83, nc_3.1, nc_3.2, pd_12⟩, k_464, k_465⟩
theorem o_X1_flip : yokV yX1_flip cX1_flip 3 none 2 := ⟨⟨k_473, k_82, nc_2.1, nc_2.2, pd_9⟩, k_471, k_472⟩
theorem o_X1_winnerOf : yokV yX1_winnerOf cX1_winnerOf 3 (some .int) 2 := ⟨⟨k_477, k_82, nc_2.1, nc_2.2, pd_10⟩, k_475, k_476⟩
theorem o_X9_join : yokV yX9_join cX9_join 2 (some .int) 1 := ⟨⟨k_481, k_80, nc_0.1, nc_0.2, pd_4⟩, k_479, k_480⟩
theorem pd_13 : (parseMethodDescriptor "(I)V").map (fun d => d.parameters.length) = some 1 := by decide +kernel
theorem o_X1_addPlayer : yokV yX1_addPlayer cX1_addPlayer 4 none 1 := ⟨⟨k_485, k_82, nc_2.1, nc_2.2, pd_13⟩, k_483, k_484⟩
theorem o_X9_drop : yokV yX9_drop cX9_drop 2 (some .int) 1 := ⟨⟨k_489, k_80, nc_0.1, nc_0.2, pd_4⟩, k_487, k_488⟩
theorem o_X1_removePlayer : yokV yX1_removePlayer cX1_removePlayer 4 none 1 := ⟨⟨k_493, k_82, nc_2.1, nc_2.2, pd_13⟩, k_491, k_492⟩
theorem o_X9_set : yokV yX9_set cX9_set 3 (some .int) 2 := ⟨⟨k_497, k_80, nc_0.1, nc_0.2, pd_10⟩, k_495, k_496⟩
theorem o_X9_isKind : yokS yX9_isKind cX9_isKind 1 (some .boolean) 1 := ⟨⟨k_500, k_80, nc_0.1, nc_0.2, pd_5⟩, k_499⟩
theorem o_X6_ofKind : yokV yX6_ofKind cX6_ofKind 3 (some .int) 2 := ⟨⟨k_504, k_87, nc_7.1, nc_7.2, pd_10⟩, k_502, k_503⟩
theorem o_X6_top : yokV yX6_top cX6_top 3 (some .int) 1 := ⟨⟨k_508, k_87, nc_7.1, nc_7.2, pd_4⟩, k_506, k_507⟩
theorem o_X1_beatersOf : yokV yX1_beatersOf cX1_beatersOf 3 (some .int) 2 := ⟨⟨k_513, k_82, nc_2.1, nc_2.2, pd_10⟩, k_511, k_512⟩
theorem o_X6_closeNeeds : yokV yX6_closeNeeds cX6_closeNeeds 5 none 2 := ⟨⟨k_517, k_87, nc_7.1, nc_7.2, pd_9⟩, k_515, k_516⟩
theorem o_X6_leastClosed : yokV yX6_leastClosed cX6_leastClosed 6 (some .int) 2 := ⟨⟨k_521, k_87, nc_7.1, nc_7.2, pd_10⟩, k_519, k_520⟩
theorem o_X6_most : yokV yX6_most cX6_most 6 (some .int) 1 := ⟨⟨k_525, k_87, nc_7.1, nc_7.2, pd_4⟩, k_523, k_524⟩
theorem o_X6_uncovered : yokV yX6_uncovered cX6_uncovered 4 (some .int) 1 := ⟨⟨k_530, k_87, nc_7.1, nc_7.2, pd_4⟩, k_528, k_529⟩
theorem o_X6_isCovered : yokV yX6_isCovered cX6_isCovered 4 (some .boolean) 2 := ⟨⟨k_534, k_87, nc_7.1, nc_7.2, pd_8⟩, k_532, k_533⟩
theorem pd_14 : (parseMethodDescriptor "(III)Z").map (fun d => d.parameters.length) = some 3 := by decide +kernel
theorem o_X6_isCovering : yokV yX6_isCovering cX6_isCovering 5 (some .boolean) 3 := ⟨⟨k_538, k_87, nc_7.1, nc_7.2, pd_14⟩, k_536, k_537⟩
theorem o_X6_uncoveredAgain : yokV yX6_uncoveredAgain cX6_uncoveredAgain 4 (some .int) 1 := ⟨⟨k_542, k_87, nc_7.1, nc_7.2, pd_4⟩, k_540, k_541⟩
theorem o_X6_banks : yokV yX6_banks cX6_banks 4 (some .int) 1 := ⟨⟨k_546, k_87, nc_7.1, nc_7.2, pd_4⟩, k_544, k_545⟩
theorem o_X6_leastChain : yokV yX6_leastChain cX6_leastChain 3 (some .int) 2 := ⟨⟨k_550, k_87, nc_7.1, nc_7.2, pd_10⟩, k_548, k_549⟩
theorem pd_15 : (parseMethodDescriptor "(III)I").map (fun d => d.parameters.length) = some 3 := by decide +kernel
theorem o_X6_chainFrom : yokV yX6_chainFrom cX6_chainFrom 6 (some .int) 3 := ⟨⟨k_554, k_87, nc_7.1, nc_7.2, pd_15⟩, k_552, k_553⟩
theorem o_X3_firsts : yokV yX3_firsts cX3_firsts 4 (some .int) 1 := ⟨⟨k_558, k_84, nc_4.1, nc_4.2, pd_4⟩, k_556, k_557⟩
theorem o_X3_measure : yokV yX3_measure cX3_measure 5 none 1 := ⟨⟨k_562, k_84, nc_4.1, nc_4.2, pd_13⟩, k_560, k_561⟩
theorem o_X3_turnedWithFirst : yokV yX3_turnedWithFirst cX3_turnedWithFirst 4 (some .int) 2 := ⟨⟨k_567, k_84, nc_4.1, nc_4.2, pd_10⟩, k_565, k_566⟩
theorem o_X3_isFirstOfBest : yokV yX3_isFirstOfBest cX3_isFirstOfBest 3 (some .boolean) 2 := ⟨⟨k_572, k_84, nc_4.1, nc_4.2, pd_8⟩, k_570, k_571⟩
theorem o_X6_leastCovering : yokV yX6_leastCovering cX6_leastCovering 5 (some .int) 1 := ⟨⟨k_576, k_87, nc_7.1, nc_7.2, pd_4⟩, k_574, k_575⟩
theorem o_X6_isCoveringSet : yokV yX6_isCoveringSet cX6_isCoveringSet 4 (some .boolean) 2 := ⟨⟨k_580, k_87, nc_7.1, nc_7.2, pd_8⟩, k_578, k_579⟩
theorem o_X8_balance : yokV yX8_balance cX8_balance 3 (some .int) 1 := ⟨⟨k_584, k_85, nc_5.1, nc_5.2, pd_4⟩, k_582, k_583⟩
theorem o_X8_findPfaffians : yokV yX8_findPfaffians cX8_findPfaffians 3 none 1 := ⟨⟨k_588, k_85, nc_5.1, nc_5.2, pd_13⟩, k_586, k_587⟩
theorem o_X8_pfaffianOf : yokV yX8_pfaffianOf cX8_pfaffianOf 8 (some .int) 1 := ⟨⟨k_593, k_85, nc_5.1, nc_5.2, pd_4⟩, k_591, k_592⟩
theorem o_X9_lowestOf : yokS yX9_lowestOf cX9_lowestOf 2 (some .int) 1 := ⟨⟨k_596, k_80, nc_0.1, nc_0.2, pd_4⟩, k_595⟩
theorem o_X8_shareAmong : yokV yX8_shareAmong cX8_shareAmong 5 (some .boolean) 1 := ⟨⟨k_603, k_85, nc_5.1, nc_5.2, pd_5⟩, k_601, k_602⟩
theorem pd_16 : (parseMethodDescriptor "(I[I)Z").map (fun d => d.parameters.length) = some 2 := by decide +kernel
theorem o_X8_nobodyGains : yokV yX8_nobodyGains cX8_nobodyGains 4 (some .boolean) 2 := ⟨⟨k_607, k_85, nc_5.1, nc_5.2, pd_16⟩, k_605, k_606⟩
theorem pd_17 : (parseMethodDescriptor "(I[I)I").map (fun d => d.parameters.length) = some 2 := by decide +kernel
theorem o_X8_gainOf : yokV yX8_gainOf cX8_gainOf 5 (some .int) 2 := ⟨⟨k_611, k_85, nc_5.1, nc_5.2, pd_17⟩, k_609, k_610⟩
theorem o_X8_divideShares : yokV yX8_divideShares cX8_divideShares 3 none 0 := ⟨⟨k_615, k_85, nc_5.1, nc_5.2, pd_0⟩, k_613, k_614⟩
theorem o_X8_commonDivisor : yokS yX8_commonDivisor cX8_commonDivisor 6 (some .int) 2 := ⟨⟨k_618, k_85, nc_5.1, nc_5.2, pd_10⟩, k_617⟩
theorem o_X6_keeping : yokV yX6_keeping cX6_keeping 6 (some .int) 2 := ⟨⟨k_622, k_87, nc_7.1, nc_7.2, pd_10⟩, k_620, k_621⟩
theorem o_X1_unbeatenOf : yokV yX1_unbeatenOf cX1_unbeatenOf 3 (some .int) 1 := ⟨⟨k_626, k_82, nc_2.1, nc_2.2, pd_4⟩, k_624, k_625⟩
theorem o_X0_winners : yokV yX0_winners cX0_winners 2 (some .int) 1 := ⟨⟨k_631, k_86, nc_6.1, nc_6.2, pd_4⟩, k_629, k_630⟩
theorem o_X0_putIntoRow : yokV yX0_putIntoRow cX0_putIntoRow 5 (some .int) 2 := ⟨⟨k_636, k_86, nc_6.1, nc_6.2, pd_10⟩, k_634, k_635⟩
theorem o_X0_winnersOfFour : yokV yX0_winnersOfFour cX0_winnersOfFour 4 (some .int) 1 := ⟨⟨k_642, k_86, nc_6.1, nc_6.2, pd_4⟩, k_640, k_641⟩
theorem o_X0_winnerByWay : yokV yX0_winnerByWay cX0_winnerByWay 4 (some .int) 1 := ⟨⟨k_646, k_86, nc_6.1, nc_6.2, pd_4⟩, k_644, k_645⟩
theorem o_X0_winnersOfEight : yokV yX0_winnersOfEight cX0_winnersOfEight 6 (some .int) 1 := ⟨⟨k_650, k_86, nc_6.1, nc_6.2, pd_4⟩, k_648, k_649⟩
theorem o_X0_winnersOver : yokV yX0_winnersOver cX0_winnersOver 5 (some .int) 2 := ⟨⟨k_654, k_86, nc_6.1, nc_6.2, pd_10⟩, k_652, k_653⟩
theorem o_X9_praised : yokV yX9_praised cX9_praised 5 (some .int) 2 := ⟨⟨k_658, k_80, nc_0.1, nc_0.2, pd_10⟩, k_656, k_657⟩
theorem o_X9_within : yokV yX9_within cX9_within 3 (some .int) 1 := ⟨⟨k_663, k_80, nc_0.1, nc_0.2, pd_4⟩, k_661, k_662⟩
theorem o_X9_countWithin : yokV yX9_countWithin cX9_countWithin 4 (some .int) 0 := ⟨⟨k_667, k_80, nc_0.1, nc_0.2, pd_6⟩, k_666, k_3⟩
theorem o_X9_firstLessWithin : yokV yX9_firstLessWithin cX9_firstLessWithin 3 (some .int) 0 := ⟨⟨k_671, k_80, nc_0.1, nc_0.2, pd_6⟩, k_670, k_4⟩
theorem o_X9_chain : yokV yX9_chain cX9_chain 5 (some .int) 3 := ⟨⟨k_675, k_80, nc_0.1, nc_0.2, pd_15⟩, k_673, k_674⟩
theorem o_X9_best : yokV yX9_best cX9_best 2 (some .int) 1 := ⟨⟨k_680, k_80, nc_0.1, nc_0.2, pd_4⟩, k_678, k_679⟩
theorem o_X3_fewestTurned : yokV yX3_fewestTurned cX3_fewestTurned 2 (some .int) 1 := ⟨⟨k_684, k_84, nc_4.1, nc_4.2, pd_4⟩, k_682, k_683⟩
theorem o_X3_howMany : yokV yX3_howMany cX3_howMany 2 (some .int) 1 := ⟨⟨k_688, k_84, nc_4.1, nc_4.2, pd_4⟩, k_686, k_687⟩
theorem o_X3_placeInLeast : yokV yX3_placeInLeast cX3_placeInLeast 6 (some .int) 2 := ⟨⟨k_692, k_84, nc_4.1, nc_4.2, pd_10⟩, k_690, k_691⟩
theorem o_X3_leastFirst : yokV yX3_leastFirst cX3_leastFirst 3 (some .int) 1 := ⟨⟨k_696, k_84, nc_4.1, nc_4.2, pd_4⟩, k_694, k_695⟩
theorem o_X9_byWins : yokV yX9_byWins cX9_byWins 3 (some .int) 1 := ⟨⟨k_700, k_80, nc_0.1, nc_0.2, pd_4⟩, k_698, k_699⟩
theorem o_X3_turnedByWins : yokV yX3_turnedByWins cX3_turnedByWins 6 (some .int) 0 := ⟨⟨k_704, k_84, nc_4.1, nc_4.2, pd_6⟩, k_702, k_703⟩
theorem o_X9_weight : yokV yX9_weight cX9_weight 3 (some .int) 2 := ⟨⟨k_709, k_80, nc_0.1, nc_0.2, pd_10⟩, k_707, k_708⟩
theorem o_X9_keeps : yokV yX9_keeps cX9_keeps 3 (some .int) 2 := ⟨⟨k_716, k_80, nc_0.1, nc_0.2, pd_10⟩, k_714, k_715⟩
theorem o_X9_is : yokV yX9_is cX9_is 4 (some .int) 2 := ⟨⟨k_721, k_80, nc_0.1, nc_0.2, pd_10⟩, k_719, k_720⟩
theorem o_X6_isKeepingSet : yokV yX6_isKeepingSet cX6_isKeepingSet 4 (some .boolean) 2 := ⟨⟨k_726, k_87, nc_7.1, nc_7.2, pd_8⟩, k_724, k_725⟩
theorem o_X9_cup : yokV yX9_cup cX9_cup 4 (some .int) 2 := ⟨⟨k_730, k_80, nc_0.1, nc_0.2, pd_10⟩, k_728, k_729⟩
theorem o_X0_fits : yokV yX0_fits cX0_fits 2 (some .boolean) 1 := ⟨⟨k_734, k_86, nc_6.1, nc_6.2, pd_5⟩, k_732, k_733⟩
theorem o_X0_rowsWonBy : yokV yX0_rowsWonBy cX0_rowsWonBy 3 (some .int) 1 := ⟨⟨k_738, k_86, nc_6.1, nc_6.2, pd_4⟩, k_736, k_737⟩
theorem o_X0_rowsOfFour : yokV yX0_rowsOfFour cX0_rowsOfFour 5 (some .int) 2 := ⟨⟨k_743, k_86, nc_6.1, nc_6.2, pd_10⟩, k_741, k_742⟩
theorem o_X0_rowsOfEight : yokV yX0_rowsOfEight cX0_rowsOfEight 5 (some .int) 2 := ⟨⟨k_747, k_86, nc_6.1, nc_6.2, pd_10⟩, k_745, k_746⟩
theorem o_X0_leastRowWonBy : yokV yX0_leastRowWonBy cX0_leastRowWonBy 3 (some .int) 1 := ⟨⟨k_751, k_86, nc_6.1, nc_6.2, pd_4⟩, k_749, k_750⟩
theorem o_X0_leastRowOfFour : yokV yX0_leastRowOfFour cX0_leastRowOfFour 6 (some .int) 2 := ⟨⟨k_755, k_86, nc_6.1, nc_6.2, pd_10⟩, k_753, k_754⟩
theorem o_X0_leastRowOfEight : yokV yX0_leastRowOfEight cX0_leastRowOfEight 9 (some .int) 2 := ⟨⟨k_759, k_86, nc_6.1, nc_6.2, pd_10⟩, k_757, k_758⟩
theorem o_X0_placeIn : yokV yX0_placeIn cX0_placeIn 4 (some .int) 3 := ⟨⟨k_763, k_86, nc_6.1, nc_6.2, pd_15⟩, k_761, k_762⟩
theorem o_X9_winner : yokV yX9_winner cX9_winner 2 (some .int) 1 := ⟨⟨k_767, k_80, nc_0.1, nc_0.2, pd_4⟩, k_765, k_766⟩
theorem o_X0_playWithFirst : yokV yX0_playWithFirst cX0_playWithFirst 5 (some .int) 1 := ⟨⟨k_771, k_86, nc_6.1, nc_6.2, pd_4⟩, k_769, k_770⟩
theorem o_X9_judge : yokV yX9_judge cX9_judge 2 (some .int) 0 := ⟨⟨k_775, k_80, nc_0.1, nc_0.2, pd_6⟩, k_773, k_774⟩
theorem o_X5_readLines : yokV yX5_readLines cX5_readLines 2 (some .int) 0 := ⟨⟨k_779, k_88, nc_8.1, nc_8.2, pd_6⟩, k_777, k_778⟩
theorem o_X5_readLine : yokV yX5_readLine cX5_readLine 2 (some .boolean) 0 := ⟨⟨k_783, k_88, nc_8.1, nc_8.2, pd_7⟩, k_781, k_782⟩
theorem o_X5_addSign : yokV yX5_addSign cX5_addSign 2 none 1 := ⟨⟨k_788, k_88, nc_8.1, nc_8.2, pd_13⟩, k_786, k_787⟩
theorem o_X5_addWord : yokV yX5_addWord cX5_addWord 2 none 1 := ⟨⟨k_792, k_88, nc_8.1, nc_8.2, pd_13⟩, k_790, k_791⟩
theorem o_X5_readLetter : yokV yX5_readLetter cX5_readLetter 2 (some .boolean) 0 := ⟨⟨k_796, k_88, nc_8.1, nc_8.2, pd_7⟩, k_794, k_795⟩
theorem o_X5_readMoreLetters : yokV yX5_readMoreLetters cX5_readMoreLetters 3 (some .boolean) 1 := ⟨⟨k_801, k_88, nc_8.1, nc_8.2, pd_5⟩, k_799, k_800⟩
theorem o_X5_readNumber : yokV yX5_readNumber cX5_readNumber 4 (some .boolean) 0 := ⟨⟨k_805, k_88, nc_8.1, nc_8.2, pd_7⟩, k_803, k_804⟩
theorem o_X7_nextDigit : yokV yX7_nextDigit cX7_nextDigit 2 (some .int) 0 := ⟨⟨k_809, k_81, nc_1.1, nc_1.2, pd_6⟩, k_807, k_808⟩
theorem o_X5_readWeights : yokV yX5_readWeights cX5_readWeights 2 (some .boolean) 0 := ⟨⟨k_813, k_88, nc_8.1, nc_8.2, pd_7⟩, k_811, k_812⟩
theorem o_X5_judgeLines : yokV yX5_judgeLines cX5_judgeLines 2 (some .int) 0 := ⟨⟨k_817, k_88, nc_8.1, nc_8.2, pd_6⟩, k_815, k_816⟩
theorem o_X5_judgeLine : yokV yX5_judgeLine cX5_judgeLine 5 none 1 := ⟨⟨k_821, k_88, nc_8.1, nc_8.2, pd_13⟩, k_819, k_820⟩
theorem o_X5_lettersOf : yokV yX5_lettersOf cX5_lettersOf 5 (some .int) 2 := ⟨⟨k_825, k_88, nc_8.1, nc_8.2, pd_10⟩, k_823, k_824⟩
theorem o_X5_countLetters : yokV yX5_countLetters cX5_countLetters 5 (some .int) 2 := ⟨⟨k_831, k_88, nc_8.1, nc_8.2, pd_10⟩, k_829, k_830⟩
theorem pd_18 : (parseMethodDescriptor "(IIII)I").map (fun d => d.parameters.length) = some 4 := by decide +kernel
theorem o_X5_whyNotSo : yokV yX5_whyNotSo cX5_whyNotSo 6 (some .int) 4 := ⟨⟨k_835, k_88, nc_8.1, nc_8.2, pd_18⟩, k_833, k_834⟩
theorem o_X5_isStep : yokV yX5_isStep cX5_isStep 6 (some .boolean) 2 := ⟨⟨k_840, k_88, nc_8.1, nc_8.2, pd_8⟩, k_838, k_839⟩
theorem o_X5_whyNoChain : yokV yX5_whyNoChain cX5_whyNoChain 5 (some .int) 3 := ⟨⟨k_845, k_88, nc_8.1, nc_8.2, pd_15⟩, k_843, k_844⟩
theorem o_X5_countTurned : yokV yX5_countTurned cX5_countTurned 6 (some .int) 2 := ⟨⟨k_849, k_88, nc_8.1, nc_8.2, pd_10⟩, k_847, k_848⟩
theorem o_X5_whyNoBestOrder : yokV yX5_whyNoBestOrder cX5_whyNoBestOrder 6 (some .int) 3 := ⟨⟨k_853, k_88, nc_8.1, nc_8.2, pd_15⟩, k_851, k_852⟩
theorem o_X5_whyNoWeights : yokV yX5_whyNoWeights cX5_whyNoWeights 5 (some .int) 2 := ⟨⟨k_858, k_88, nc_8.1, nc_8.2, pd_10⟩, k_856, k_857⟩
theorem o_X5_isSaidAhead : yokV yX5_isSaidAhead cX5_isSaidAhead 3 (some .boolean) 1 := ⟨⟨k_865, k_88, nc_8.1, nc_8.2, pd_5⟩, k_863, k_864⟩
theorem o_X5_saysTheSame : yokV yX5_saysTheSame cX5_saysTheSame 5 (some .boolean) 2 := ⟨⟨k_869, k_88, nc_8.1, nc_8.2, pd_8⟩, k_867, k_868⟩
theorem o_X5_firstOf : yokV yX5_firstOf cX5_firstOf 3 (some .int) 1 := ⟨⟨k_873, k_88, nc_8.1, nc_8.2, pd_4⟩, k_871, k_872⟩
theorem o_X9_judged : yokV yX9_judged cX9_judged 2 (some .int) 1 := ⟨⟨k_877, k_80, nc_0.1, nc_0.2, pd_4⟩, k_875, k_876⟩
theorem o_X9_fewest : yokV yX9_fewest cX9_fewest 4 (some .int) 2 := ⟨⟨k_881, k_80, nc_0.1, nc_0.2, pd_10⟩, k_879, k_880⟩
theorem pd_19 : (parseMethodDescriptor "(IIII)Z").map (fun d => d.parameters.length) = some 4 := by decide +kernel
theorem o_X9_getsInto : yokV yX9_getsInto cX9_getsInto 9 (some .boolean) 4 := ⟨⟨k_885, k_80, nc_0.1, nc_0.2, pd_19⟩, k_884, k_5⟩
theorem o_X9_isTooFar : yokV yX9_isTooFar cX9_isTooFar 4 (some .boolean) 3 := ⟨⟨k_889, k_80, nc_0.1, nc_0.2, pd_14⟩, k_888, k_6⟩
theorem o_X3_behindBest : yokV yX3_behindBest cX3_behindBest 3 (some .int) 2 := ⟨⟨k_895, k_84, nc_4.1, nc_4.2, pd_10⟩, k_893, k_894⟩
theorem o_X9_selves : yokV yX9_selves cX9_selves 1 (some .int) 0 := ⟨⟨k_899, k_80, nc_0.1, nc_0.2, pd_6⟩, k_897, k_898⟩
theorem pd_20 : (parseMethodDescriptor "(LDuelRound$Duels;LDuelRound$Duels;)I").map (fun d => d.parameters.length) = some 2 := by decide +kernel
theorem o_X2_waysToRename : yokV yX2_waysToRename cX2_waysToRename 3 (some .int) 2 := ⟨⟨k_903, k_89, nc_9.1, nc_9.2, pd_20⟩, k_901, k_902⟩
theorem pd_21 : (parseMethodDescriptor "(LDuelRound$Duels;LDuelRound$Duels;II)I").map (fun d => d.parameters.length) = some 4 := by decide +kernel
theorem o_X2_waysFrom : yokV yX2_waysFrom cX2_waysFrom 7 (some .int) 4 := ⟨⟨k_907, k_89, nc_9.1, nc_9.2, pd_21⟩, k_905, k_906⟩
theorem pd_22 : (parseMethodDescriptor "(LDuelRound$Duels;LDuelRound$Duels;II)Z").map (fun d => d.parameters.length) = some 4 := by decide +kernel
theorem o_X2_isFitting : yokV yX2_isFitting cX2_isFitting 6 (some .boolean) 4 := ⟨⟨k_912, k_89, nc_9.1, nc_9.2, pd_22⟩, k_910, k_911⟩
theorem o_X9_undo : yokV yX9_undo cX9_undo 1 (some .int) 0 := ⟨⟨k_917, k_80, nc_0.1, nc_0.2, pd_6⟩, k_915, k_916⟩
theorem o_X4_takeLatest : yokV yX4_takeLatest cX4_takeLatest 1 (some .long) 0 := ⟨⟨k_921, k_83, nc_3.1, nc_3.2, pd_11⟩, k_919, k_920⟩
theorem o_X9_keep : yokV yX9_keep cX9_keep 2 (some .boolean) 1 := ⟨⟨k_925, k_80, nc_0.1, nc_0.2, pd_5⟩, k_923, k_924⟩
theorem o_X9_again : yokV yX9_again cX9_again 2 (some .boolean) 1 := ⟨⟨k_929, k_80, nc_0.1, nc_0.2, pd_5⟩, k_927, k_928⟩
theorem o_X4_isKept : yokV yX4_isKept cX4_isKept 2 (some .boolean) 1 := ⟨⟨k_933, k_83, nc_3.1, nc_3.2, pd_5⟩, k_931, k_932⟩
theorem o_X9_alike : yokV yX9_alike cX9_alike 3 (some .int) 2 := ⟨⟨k_937, k_80, nc_0.1, nc_0.2, pd_10⟩, k_935, k_936⟩
theorem pd_23 : (parseMethodDescriptor "(LDuelRound$Duels;)I").map (fun d => d.parameters.length) = some 1 := by decide +kernel
theorem o_X1_arrowsUnlike : yokV yX1_arrowsUnlike cX1_arrowsUnlike 5 (some .int) 1 := ⟨⟨k_941, k_82, nc_2.1, nc_2.2, pd_23⟩, k_939, k_940⟩
theorem o_J9_min_7cf53 : yokS yJ9_min_7cf53 cJ9_min_7cf53 2 (some .int) 2 := ⟨⟨k_944, k_91, nc_10.1, nc_10.2, pd_10⟩, k_943⟩
theorem o_X9_count : yokV yX9_count cX9_count 2 (some .int) 1 := ⟨⟨k_948, k_80, nc_0.1, nc_0.2, pd_4⟩, k_946, k_947⟩
theorem o_X1_cyclesOfThree : yokV yX1_cyclesOfThree cX1_cyclesOfThree 5 (some .int) 0 := ⟨⟨k_952, k_82, nc_2.1, nc_2.2, pd_6⟩, k_950, k_951⟩
theorem o_X9_duel : yokV yX9_duel cX9_duel 4 (some .int) 3 := ⟨⟨k_961, k_80, nc_0.1, nc_0.2, pd_15⟩, k_959, k_960⟩
theorem nc_12 : RX10 ≠ "java/lang/invoke/MethodHandle" ∧ RX10 ≠ "java/lang/invoke/VarHandle" := ⟨by decide +kernel, by decide +kernel⟩
theorem o_X10_init : yok yX10_init cX10_init 1 none 0 := ⟨k_1035, k_90, nc_12.1, nc_12.2, pd_0⟩
theorem o_X10_sign : yokV yX10_sign cX10_sign 3 (some .int) 1 := ⟨⟨k_1156, k_90, nc_12.1, nc_12.2, pd_4⟩, k_1154, k_1155⟩
theorem o_X10_end : yokV yX10_end cX10_end 2 (some .boolean) 1 := ⟨⟨k_1160, k_90, nc_12.1, nc_12.2, pd_5⟩, k_1158, k_1159⟩
theorem pd_24 : (parseMethodDescriptor "(JJJ)Z").map (fun d => d.parameters.length) = some 3 := by decide +kernel
theorem o_X10_in : yokS yX10_in cX10_in 6 (some .boolean) 3 := ⟨⟨k_1163, k_90, nc_12.1, nc_12.2, pd_24⟩, k_1162⟩
theorem o_X10_round : yokV yX10_round cX10_round 3 (some .int) 0 := ⟨⟨k_1167, k_90, nc_12.1, nc_12.2, pd_6⟩, k_1165, k_1166⟩
theorem o_X10_readPair : yokV yX10_readPair cX10_readPair 5 none 0 := ⟨⟨k_1171, k_90, nc_12.1, nc_12.2, pd_0⟩, k_1170, k_8⟩
theorem o_X10_letter : yokV yX10_letter cX10_letter 1 (some .int) 0 := ⟨⟨k_1175, k_90, nc_12.1, nc_12.2, pd_6⟩, k_1174, k_9⟩
theorem o_X10_isLetterNext : yokV yX10_isLetterNext cX10_isLetterNext 1 (some .boolean) 0 := ⟨⟨k_1179, k_90, nc_12.1, nc_12.2, pd_7⟩, k_1178, k_10⟩
theorem o_X10_next : yokV yX10_next cX10_next 1 (some .int) 0 := ⟨⟨k_1183, k_90, nc_12.1, nc_12.2, pd_6⟩, k_1182, k_11⟩
theorem o_X10_wrong : yokV yX10_wrong cX10_wrong 2 none 1 := ⟨⟨k_1189, k_90, nc_12.1, nc_12.2, pd_13⟩, k_1188, k_12⟩
theorem o_X10_takes : yokV yX10_takes cX10_takes 3 (some .boolean) 1 := ⟨⟨k_1193, k_90, nc_12.1, nc_12.2, pd_5⟩, k_1192, k_13⟩
theorem o_X10_has : yokS yX10_has cX10_has 2 (some .boolean) 2 := ⟨⟨k_1196, k_90, nc_12.1, nc_12.2, pd_8⟩, k_1195⟩
theorem o_X10_isEnd : yokV yX10_isEnd cX10_isEnd 1 (some .boolean) 0 := ⟨⟨k_1200, k_90, nc_12.1, nc_12.2, pd_7⟩, k_1199, k_14⟩
theorem o_X10_isWholeRound : yokV yX10_isWholeRound cX10_isWholeRound 4 (some .boolean) 1 := ⟨⟨k_1204, k_90, nc_12.1, nc_12.2, pd_5⟩, k_1203, k_15⟩
theorem o_X10_begin : yokV yX10_begin cX10_begin 3 none 1 := ⟨⟨k_1208, k_90, nc_12.1, nc_12.2, pd_13⟩, k_1207, k_16⟩
theorem o_X10_drawn : yokV yX10_drawn cX10_drawn 6 (some .int) 2 := ⟨⟨k_1212, k_90, nc_12.1, nc_12.2, pd_10⟩, k_1210, k_1211⟩
theorem o_X10_duel : yokV yX10_duel cX10_duel 4 (some .int) 3 := ⟨⟨k_1219, k_90, nc_12.1, nc_12.2, pd_15⟩, k_1217, k_1218⟩
theorem o_X10_isPlayer : yokV yX10_isPlayer cX10_isPlayer 2 (some .boolean) 1 := ⟨⟨k_1223, k_90, nc_12.1, nc_12.2, pd_5⟩, k_1222, k_17⟩
theorem o_X10_beats : yokV yX10_beats cX10_beats 2 (some .int) 1 := ⟨⟨k_1227, k_90, nc_12.1, nc_12.2, pd_4⟩, k_1226, k_18⟩
theorem o_X10_all : yokV yX10_all cX10_all 1 (some .int) 0 := ⟨⟨k_1231, k_90, nc_12.1, nc_12.2, pd_6⟩, k_1230, k_19⟩
theorem o_X10_covers : yokV yX10_covers cX10_covers 4 (some .boolean) 3 := ⟨⟨k_1235, k_90, nc_12.1, nc_12.2, pd_14⟩, k_1234, k_20⟩
theorem o_X10_isWithin : yokS yX10_isWithin cX10_isWithin 2 (some .boolean) 2 := ⟨⟨k_1238, k_90, nc_12.1, nc_12.2, pd_8⟩, k_1237⟩
theorem o_X10_over : yokV yX10_over cX10_over 2 (some .int) 1 := ⟨⟨k_1242, k_90, nc_12.1, nc_12.2, pd_4⟩, k_1241, k_21⟩
theorem o_X10_first : yokS yX10_first cX10_first 2 (some .int) 1 := ⟨⟨k_1245, k_90, nc_12.1, nc_12.2, pd_4⟩, k_1244⟩
theorem o_X10_beaten : yokV yX10_beaten cX10_beaten 3 (some .int) 2 := ⟨⟨k_1249, k_90, nc_12.1, nc_12.2, pd_10⟩, k_1247, k_1248⟩
theorem o_X10_isSome : yokV yX10_isSome cX10_isSome 2 (some .boolean) 1 := ⟨⟨k_1253, k_90, nc_12.1, nc_12.2, pd_5⟩, k_1252, k_22⟩
theorem o_X10_isRound : yokV yX10_isRound cX10_isRound 1 (some .boolean) 0 := ⟨⟨k_1257, k_90, nc_12.1, nc_12.2, pd_7⟩, k_1256, k_23⟩
theorem o_X10_turn : yokV yX10_turn cX10_turn 3 (some .int) 2 := ⟨⟨k_1261, k_90, nc_12.1, nc_12.2, pd_10⟩, k_1259, k_1260⟩
theorem o_X10_remember : yokV yX10_remember cX10_remember 2 none 0 := ⟨⟨k_1265, k_90, nc_12.1, nc_12.2, pd_0⟩, k_1264, k_24⟩
theorem o_X10_turnNow : yokV yX10_turnNow cX10_turnNow 3 none 2 := ⟨⟨k_1269, k_90, nc_12.1, nc_12.2, pd_9⟩, k_1268, k_25⟩
theorem o_X10_join : yokV yX10_join cX10_join 4 (some .int) 1 := ⟨⟨k_1273, k_90, nc_12.1, nc_12.2, pd_4⟩, k_1271, k_1272⟩
theorem o_X10_many : yokV yX10_many cX10_many 1 (some .int) 0 := ⟨⟨k_1277, k_90, nc_12.1, nc_12.2, pd_6⟩, k_1276, k_26⟩
theorem o_X10_drop : yokV yX10_drop cX10_drop 4 (some .int) 1 := ⟨⟨k_1281, k_90, nc_12.1, nc_12.2, pd_4⟩, k_1279, k_1280⟩
theorem o_X10_without : yokS yX10_without cX10_without 3 (some .int) 2 := ⟨⟨k_1284, k_90, nc_12.1, nc_12.2, pd_10⟩, k_1283⟩
theorem o_X10_set : yokV yX10_set cX10_set 3 (some .int) 2 := ⟨⟨k_1288, k_90, nc_12.1, nc_12.2, pd_10⟩, k_1286, k_1287⟩
theorem o_X10_setOf : yokV yX10_setOf cX10_setOf 3 (some .int) 2 := ⟨⟨k_1293, k_90, nc_12.1, nc_12.2, pd_10⟩, k_1292, k_27⟩
theorem o_X10_top : yokV yX10_top cX10_top 6 (some .int) 1 := ⟨⟨k_1297, k_90, nc_12.1, nc_12.2, pd_4⟩, k_1296, k_28⟩
theorem o_X10_sizeOf : yokS yX10_sizeOf cX10_sizeOf 3 (some .int) 1 := ⟨⟨k_1300, k_90, nc_12.1, nc_12.2, pd_4⟩, k_1299⟩
theorem o_X10_most : yokV yX10_most cX10_most 5 (some .int) 1 := ⟨⟨k_1304, k_90, nc_12.1, nc_12.2, pd_4⟩, k_1303, k_29⟩
theorem o_X10_winsOf : yokV yX10_winsOf cX10_winsOf 3 (some .int) 2 := ⟨⟨k_1308, k_90, nc_12.1, nc_12.2, pd_10⟩, k_1307, k_30⟩
theorem o_X10_uncovered : yokV yX10_uncovered cX10_uncovered 5 (some .int) 1 := ⟨⟨k_1312, k_90, nc_12.1, nc_12.2, pd_4⟩, k_1311, k_31⟩
theorem o_X10_againUncovered : yokV yX10_againUncovered cX10_againUncovered 4 (some .int) 1 := ⟨⟨k_1316, k_90, nc_12.1, nc_12.2, pd_4⟩, k_1315, k_32⟩
theorem o_X10_banks : yokV yX10_banks cX10_banks 4 (some .int) 1 := ⟨⟨k_1320, k_90, nc_12.1, nc_12.2, pd_4⟩, k_1319, k_33⟩
theorem o_X10_hasChain : yokV yX10_hasChain cX10_hasChain 4 (some .boolean) 2 := ⟨⟨k_1324, k_90, nc_12.1, nc_12.2, pd_8⟩, k_1323, k_34⟩
theorem o_X10_slater : yokV yX10_slater cX10_slater 4 (some .int) 1 := ⟨⟨k_1328, k_90, nc_12.1, nc_12.2, pd_4⟩, k_1327, k_35⟩
theorem o_X10_layOrders : yokV yX10_layOrders cX10_layOrders 3 none 0 := ⟨⟨k_1332, k_90, nc_12.1, nc_12.2, pd_0⟩, k_1331, k_36⟩
theorem o_X10_turnedBy : yokV yX10_turnedBy cX10_turnedBy 3 (some .int) 2 := ⟨⟨k_1336, k_90, nc_12.1, nc_12.2, pd_10⟩, k_1335, k_37⟩
theorem o_X10_covering : yokV yX10_covering cX10_covering 4 (some .int) 1 := ⟨⟨k_1340, k_90, nc_12.1, nc_12.2, pd_4⟩, k_1339, k_38⟩
theorem o_X10_isCovering : yokV yX10_isCovering cX10_isCovering 7 (some .boolean) 2 := ⟨⟨k_1344, k_90, nc_12.1, nc_12.2, pd_8⟩, k_1343, k_39⟩
theorem o_X10_balanced : yokV yX10_balanced cX10_balanced 3 (some .int) 1 := ⟨⟨k_1348, k_90, nc_12.1, nc_12.2, pd_4⟩, k_1347, k_40⟩
theorem o_X10_layPairings : yokV yX10_layPairings cX10_layPairings 6 none 0 := ⟨⟨k_1352, k_90, nc_12.1, nc_12.2, pd_0⟩, k_1351, k_41⟩
theorem o_X10_against : yokV yX10_against cX10_against 3 (some .int) 2 := ⟨⟨k_1356, k_90, nc_12.1, nc_12.2, pd_10⟩, k_1355, k_42⟩
theorem o_X10_weighs : yokV yX10_weighs cX10_weighs 8 (some .boolean) 1 := ⟨⟨k_1360, k_90, nc_12.1, nc_12.2, pd_5⟩, k_1359, k_43⟩
theorem o_X10_commonOf : yokS yX10_commonOf cX10_commonOf 5 (some .int) 2 := ⟨⟨k_1363, k_90, nc_12.1, nc_12.2, pd_10⟩, k_1362⟩
theorem o_X10_nobodyGains : yokV yX10_nobodyGains cX10_nobodyGains 4 (some .boolean) 1 := ⟨⟨k_1367, k_90, nc_12.1, nc_12.2, pd_5⟩, k_1366, k_44⟩
theorem o_X10_gains : yokV yX10_gains cX10_gains 4 (some .int) 1 := ⟨⟨k_1371, k_90, nc_12.1, nc_12.2, pd_4⟩, k_1370, k_45⟩
theorem o_X10_layKeeping : yokV yX10_layKeeping cX10_layKeeping 6 none 0 := ⟨⟨k_1375, k_90, nc_12.1, nc_12.2, pd_0⟩, k_1374, k_46⟩
theorem o_X10_closed : yokV yX10_closed cX10_closed 6 (some .int) 2 := ⟨⟨k_1379, k_90, nc_12.1, nc_12.2, pd_10⟩, k_1378, k_47⟩
theorem o_X10_cupOf : yokV yX10_cupOf cX10_cupOf 4 (some .int) 1 := ⟨⟨k_1383, k_90, nc_12.1, nc_12.2, pd_4⟩, k_1382, k_48⟩
theorem o_X10_isCup : yokS yX10_isCup cX10_isCup 1 (some .boolean) 1 := ⟨⟨k_1386, k_90, nc_12.1, nc_12.2, pd_5⟩, k_1385⟩
theorem o_X10_layCups : yokV yX10_layCups cX10_layCups 4 none 0 := ⟨⟨k_1390, k_90, nc_12.1, nc_12.2, pd_0⟩, k_1389, k_49⟩
theorem o_X10_layHalves : yokV yX10_layHalves cX10_layHalves 6 none 2 := ⟨⟨k_1394, k_90, nc_12.1, nc_12.2, pd_9⟩, k_1393, k_50⟩
theorem o_X10_praised : yokV yX10_praised cX10_praised 5 (some .int) 2 := ⟨⟨k_1398, k_90, nc_12.1, nc_12.2, pd_10⟩, k_1396, k_1397⟩
theorem o_X10_within : yokV yX10_within cX10_within 7 (some .int) 1 := ⟨⟨k_1403, k_90, nc_12.1, nc_12.2, pd_4⟩, k_1401, k_1402⟩
theorem o_X10_chain : yokV yX10_chain cX10_chain 4 (some .int) 3 := ⟨⟨k_1407, k_90, nc_12.1, nc_12.2, pd_15⟩, k_1405, k_1406⟩
theorem o_X10_best : yokV yX10_best cX10_best 2 (some .int) 1 := ⟨⟨k_1411, k_90, nc_12.1, nc_12.2, pd_4⟩, k_1409, k_1410⟩
theorem o_X10_bestAt : yokV yX10_bestAt cX10_bestAt 5 (some .int) 1 := ⟨⟨k_1416, k_90, nc_12.1, nc_12.2, pd_4⟩, k_1415, k_51⟩
theorem o_X10_byWins : yokV yX10_byWins cX10_byWins 7 (some .int) 1 := ⟨⟨k_1420, k_90, nc_12.1, nc_12.2, pd_4⟩, k_1418, k_1419⟩
theorem o_X10_weight : yokV yX10_weight cX10_weight 4 (some .int) 2 := ⟨⟨k_1424, k_90, nc_12.1, nc_12.2, pd_10⟩, k_1422, k_1423⟩
theorem o_X10_keeps : yokV yX10_keeps cX10_keeps 3 (some .int) 2 := ⟨⟨k_1429, k_90, nc_12.1, nc_12.2, pd_10⟩, k_1427, k_1428⟩
theorem o_X10_is : yokV yX10_is cX10_is 3 (some .int) 2 := ⟨⟨k_1433, k_90, nc_12.1, nc_12.2, pd_10⟩, k_1431, k_1432⟩
theorem o_X10_isSo : yokV yX10_isSo cX10_isSo 3 (some .boolean) 2 := ⟨⟨k_1437, k_90, nc_12.1, nc_12.2, pd_8⟩, k_1436, k_52⟩
theorem o_X10_isKeeping : yokV yX10_isKeeping cX10_isKeeping 4 (some .boolean) 1 := ⟨⟨k_1441, k_90, nc_12.1, nc_12.2, pd_5⟩, k_1440, k_53⟩
theorem o_X10_cup : yokV yX10_cup cX10_cup 4 (some .int) 2 := ⟨⟨k_1445, k_90, nc_12.1, nc_12.2, pd_10⟩, k_1443, k_1444⟩
theorem o_X10_firstOrder : yokV yX10_firstOrder cX10_firstOrder 2 none 0 := ⟨⟨k_1449, k_90, nc_12.1, nc_12.2, pd_0⟩, k_1448, k_54⟩
theorem o_X10_wins : yokV yX10_wins cX10_wins 5 (some .int) 0 := ⟨⟨k_1453, k_90, nc_12.1, nc_12.2, pd_6⟩, k_1452, k_55⟩
theorem o_X10_nextOrder : yokV yX10_nextOrder cX10_nextOrder 6 (some .boolean) 0 := ⟨⟨k_1457, k_90, nc_12.1, nc_12.2, pd_7⟩, k_1456, k_56⟩
theorem o_X10_swap : yokV yX10_swap cX10_swap 4 none 2 := ⟨⟨k_1461, k_90, nc_12.1, nc_12.2, pd_9⟩, k_1460, k_57⟩
theorem o_X10_winner : yokV yX10_winner cX10_winner 5 (some .int) 1 := ⟨⟨k_1465, k_90, nc_12.1, nc_12.2, pd_4⟩, k_1463, k_1464⟩
theorem o_X10_judge : yokV yX10_judge cX10_judge 2 (some .int) 0 := ⟨⟨k_1469, k_90, nc_12.1, nc_12.2, pd_6⟩, k_1467, k_1468⟩
theorem o_X10_readLine : yokV yX10_readLine cX10_readLine 3 none 0 := ⟨⟨k_1473, k_90, nc_12.1, nc_12.2, pd_0⟩, k_1472, k_58⟩
theorem o_X10_addNumber : yokV yX10_addNumber cX10_addNumber 3 none 0 := ⟨⟨k_1479, k_90, nc_12.1, nc_12.2, pd_0⟩, k_1478, k_59⟩
theorem o_X10_isDigitNext : yokV yX10_isDigitNext cX10_isDigitNext 1 (some .boolean) 0 := ⟨⟨k_1483, k_90, nc_12.1, nc_12.2, pd_7⟩, k_1482, k_60⟩
theorem o_X10_addLetter : yokV yX10_addLetter cX10_addLetter 2 none 0 := ⟨⟨k_1489, k_90, nc_12.1, nc_12.2, pd_0⟩, k_1488, k_61⟩
theorem o_X10_whyWrong : yokV yX10_whyWrong cX10_whyWrong 3 (some .int) 1 := ⟨⟨k_1493, k_90, nc_12.1, nc_12.2, pd_4⟩, k_1492, k_62⟩
theorem o_X10_lettersOf : yokV yX10_lettersOf cX10_lettersOf 4 (some .int) 1 := ⟨⟨k_1497, k_90, nc_12.1, nc_12.2, pd_4⟩, k_1496, k_63⟩
theorem o_X10_lineEnd : yokV yX10_lineEnd cX10_lineEnd 2 (some .int) 1 := ⟨⟨k_1501, k_90, nc_12.1, nc_12.2, pd_4⟩, k_1500, k_64⟩
theorem o_X10_hasTwice : yokV yX10_hasTwice cX10_hasTwice 4 (some .boolean) 1 := ⟨⟨k_1505, k_90, nc_12.1, nc_12.2, pd_5⟩, k_1504, k_65⟩
theorem o_X10_isOtherWay : yokV yX10_isOtherWay cX10_isOtherWay 7 (some .boolean) 1 := ⟨⟨k_1509, k_90, nc_12.1, nc_12.2, pd_5⟩, k_1508, k_66⟩
theorem o_X10_isTopped : yokV yX10_isTopped cX10_isTopped 4 (some .boolean) 1 := ⟨⟨k_1513, k_90, nc_12.1, nc_12.2, pd_5⟩, k_1512, k_67⟩
theorem o_X10_sumOf : yokV yX10_sumOf cX10_sumOf 4 (some .int) 1 := ⟨⟨k_1517, k_90, nc_12.1, nc_12.2, pd_4⟩, k_1516, k_68⟩
theorem o_X10_isOther : yokV yX10_isOther cX10_isOther 2 (some .boolean) 1 := ⟨⟨k_1521, k_90, nc_12.1, nc_12.2, pd_5⟩, k_1520, k_69⟩
theorem o_X10_isOtherOrder : yokV yX10_isOtherOrder cX10_isOtherOrder 6 (some .boolean) 1 := ⟨⟨k_1525, k_90, nc_12.1, nc_12.2, pd_5⟩, k_1524, k_70⟩
theorem o_X10_isOtherWeights : yokV yX10_isOtherWeights cX10_isOtherWeights 9 (some .boolean) 1 := ⟨⟨k_1529, k_90, nc_12.1, nc_12.2, pd_5⟩, k_1528, k_71⟩
theorem o_X10_wasSaid : yokV yX10_wasSaid cX10_wasSaid 4 (some .boolean) 1 := ⟨⟨k_1533, k_90, nc_12.1, nc_12.2, pd_5⟩, k_1532, k_72⟩
theorem o_X10_areAlike : yokV yX10_areAlike cX10_areAlike 5 (some .boolean) 2 := ⟨⟨k_1537, k_90, nc_12.1, nc_12.2, pd_8⟩, k_1536, k_73⟩
theorem o_X10_judged : yokV yX10_judged cX10_judged 2 (some .int) 1 := ⟨⟨k_1541, k_90, nc_12.1, nc_12.2, pd_4⟩, k_1539, k_1540⟩
theorem o_X10_fewest : yokV yX10_fewest cX10_fewest 6 (some .int) 2 := ⟨⟨k_1545, k_90, nc_12.1, nc_12.2, pd_10⟩, k_1543, k_1544⟩
theorem o_X10_isIn : yokV yX10_isIn cX10_isIn 3 (some .boolean) 2 := ⟨⟨k_1549, k_90, nc_12.1, nc_12.2, pd_8⟩, k_1548, k_74⟩
theorem o_X10_byOne : yokV yX10_byOne cX10_byOne 6 (some .boolean) 2 := ⟨⟨k_1553, k_90, nc_12.1, nc_12.2, pd_8⟩, k_1552, k_75⟩
theorem o_X10_selves : yokV yX10_selves cX10_selves 3 (some .int) 0 := ⟨⟨k_1557, k_90, nc_12.1, nc_12.2, pd_6⟩, k_1555, k_1556⟩
theorem pd_25 : (parseMethodDescriptor "([II)Z").map (fun d => d.parameters.length) = some 2 := by decide +kernel
theorem o_X10_areNames : yokV yX10_areNames cX10_areNames 6 (some .boolean) 2 := ⟨⟨k_1561, k_90, nc_12.1, nc_12.2, pd_25⟩, k_1560, k_76⟩
theorem o_X10_undo : yokV yX10_undo cX10_undo 2 (some .int) 0 := ⟨⟨k_1565, k_90, nc_12.1, nc_12.2, pd_6⟩, k_1563, k_1564⟩
theorem o_X10_keep : yokV yX10_keep cX10_keep 3 (some .boolean) 1 := ⟨⟨k_1569, k_90, nc_12.1, nc_12.2, pd_5⟩, k_1567, k_1568⟩
theorem o_X10_again : yokV yX10_again cX10_again 3 (some .boolean) 1 := ⟨⟨k_1573, k_90, nc_12.1, nc_12.2, pd_5⟩, k_1571, k_1572⟩
theorem o_X10_alike : yokV yX10_alike cX10_alike 7 (some .int) 2 := ⟨⟨k_1577, k_90, nc_12.1, nc_12.2, pd_10⟩, k_1575, k_1576⟩
theorem o_X10_isAlike : yokV yX10_isAlike cX10_isAlike 3 (some .boolean) 1 := ⟨⟨k_1581, k_90, nc_12.1, nc_12.2, pd_5⟩, k_1580, k_77⟩
theorem o_X10_count : yokV yX10_count cX10_count 4 (some .int) 1 := ⟨⟨k_1585, k_90, nc_12.1, nc_12.2, pd_4⟩, k_1583, k_1584⟩
theorem o_X10_cycles : yokV yX10_cycles cX10_cycles 4 (some .int) 0 := ⟨⟨k_1589, k_90, nc_12.1, nc_12.2, pd_6⟩, k_1588, k_78⟩
