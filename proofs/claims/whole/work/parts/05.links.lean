-- ===== PART A: goes FIRST, ahead of the names: the tables' words, and 'selects' of the private methods out of them =====
/-- a private method of a class that the tables say can be made, by its rows of tables_1 -/
def lw_okq (q : MethodName × Nat) : Prop := (q.1.cls ≠ "java/lang/invoke/MethodHandle" ∧ q.1.cls ≠ "java/lang/invoke/VarHandle") ∧ Cond.instantiable q.1.cls q.2 ∈ tables_1 ∧ Cond.privateMethod q.1 ∈ tables_1 ∧ Cond.instanceMethod q.1 ∈ tables_1
theorem lw_p0 : lw_okq (⟨"BorrowedWords", "forget", "()V"⟩, 10) := ⟨⟨by decide +kernel, by decide +kernel⟩, List.mem_of_getElem? (i := 22) (by decide +kernel), List.mem_of_getElem? (i := 422) (by decide +kernel), List.mem_of_getElem? (i := 423) (by decide +kernel)⟩
theorem lw_p1 : lw_okq (⟨"BorrowedWords$Text", "repeats", "(ILBorrowedWords$Text;II)Z"⟩, 5) := ⟨⟨by decide +kernel, by decide +kernel⟩, List.mem_of_getElem? (i := 37) (by decide +kernel), List.mem_of_getElem? (i := 506) (by decide +kernel), List.mem_of_getElem? (i := 507) (by decide +kernel)⟩
theorem lw_p2 : lw_okq (⟨"BorrowedWords$RuleReader", "skipBlanks", "()V"⟩, 7) := ⟨⟨by decide +kernel, by decide +kernel⟩, List.mem_of_getElem? (i := 136) (by decide +kernel), List.mem_of_getElem? (i := 580) (by decide +kernel), List.mem_of_getElem? (i := 581) (by decide +kernel)⟩
theorem lw_p3 : lw_okq (⟨"BorrowedWords$RuleReader", "readClause", "(II)V"⟩, 7) := ⟨⟨by decide +kernel, by decide +kernel⟩, List.mem_of_getElem? (i := 136) (by decide +kernel), List.mem_of_getElem? (i := 584) (by decide +kernel), List.mem_of_getElem? (i := 585) (by decide +kernel)⟩
theorem lw_p4 : lw_okq (⟨"BorrowedWords$RuleReader", "endOfWord", "(I)I"⟩, 7) := ⟨⟨by decide +kernel, by decide +kernel⟩, List.mem_of_getElem? (i := 136) (by decide +kernel), List.mem_of_getElem? (i := 588) (by decide +kernel), List.mem_of_getElem? (i := 589) (by decide +kernel)⟩
theorem lw_p5 : lw_okq (⟨"BorrowedWords$RuleReader", "kindOf", "(II)I"⟩, 7) := ⟨⟨by decide +kernel, by decide +kernel⟩, List.mem_of_getElem? (i := 136) (by decide +kernel), List.mem_of_getElem? (i := 592) (by decide +kernel), List.mem_of_getElem? (i := 593) (by decide +kernel)⟩
theorem lw_p6 : lw_okq (⟨"BorrowedWords$RuleReader", "spells", "(IILjava/lang/String;)Z"⟩, 7) := ⟨⟨by decide +kernel, by decide +kernel⟩, List.mem_of_getElem? (i := 136) (by decide +kernel), List.mem_of_getElem? (i := 597) (by decide +kernel), List.mem_of_getElem? (i := 598) (by decide +kernel)⟩
theorem lw_p7 : lw_okq (⟨"BorrowedWords$RuleReader", "fail", "(II)V"⟩, 7) := ⟨⟨by decide +kernel, by decide +kernel⟩, List.mem_of_getElem? (i := 136) (by decide +kernel), List.mem_of_getElem? (i := 656) (by decide +kernel), List.mem_of_getElem? (i := 657) (by decide +kernel)⟩
theorem lw_p8 : lw_okq (⟨"BorrowedWords$RuleReader", "readStrike", "(I)V"⟩, 7) := ⟨⟨by decide +kernel, by decide +kernel⟩, List.mem_of_getElem? (i := 136) (by decide +kernel), List.mem_of_getElem? (i := 660) (by decide +kernel), List.mem_of_getElem? (i := 661) (by decide +kernel)⟩
theorem lw_p9 : lw_okq (⟨"BorrowedWords$RuleReader", "readNumber", "()I"⟩, 7) := ⟨⟨by decide +kernel, by decide +kernel⟩, List.mem_of_getElem? (i := 136) (by decide +kernel), List.mem_of_getElem? (i := 664) (by decide +kernel), List.mem_of_getElem? (i := 665) (by decide +kernel)⟩
theorem lw_p10 : lw_okq (⟨"BorrowedWords$RuleReader", "readYes", "(I)V"⟩, 7) := ⟨⟨by decide +kernel, by decide +kernel⟩, List.mem_of_getElem? (i := 136) (by decide +kernel), List.mem_of_getElem? (i := 668) (by decide +kernel), List.mem_of_getElem? (i := 669) (by decide +kernel)⟩
theorem lw_p11 : lw_okq (⟨"BorrowedWords$RuleReader", "readSetting", "(I)V"⟩, 7) := ⟨⟨by decide +kernel, by decide +kernel⟩, List.mem_of_getElem? (i := 136) (by decide +kernel), List.mem_of_getElem? (i := 674) (by decide +kernel), List.mem_of_getElem? (i := 675) (by decide +kernel)⟩
theorem lw_p12 : lw_okq (⟨"BorrowedWords$RuleBook", "countingOn", "(I)I"⟩, 4) := ⟨⟨by decide +kernel, by decide +kernel⟩, List.mem_of_getElem? (i := 168) (by decide +kernel), List.mem_of_getElem? (i := 699) (by decide +kernel), List.mem_of_getElem? (i := 700) (by decide +kernel)⟩
theorem lw_p13 : lw_okq (⟨"BorrowedWords", "refusalOfLook", "(II)I"⟩, 10) := ⟨⟨by decide +kernel, by decide +kernel⟩, List.mem_of_getElem? (i := 22) (by decide +kernel), List.mem_of_getElem? (i := 709) (by decide +kernel), List.mem_of_getElem? (i := 710) (by decide +kernel)⟩
theorem lw_p14 : lw_okq (⟨"BorrowedWords", "sourcesLookedAt", "(II)I"⟩, 10) := ⟨⟨by decide +kernel, by decide +kernel⟩, List.mem_of_getElem? (i := 22) (by decide +kernel), List.mem_of_getElem? (i := 723) (by decide +kernel), List.mem_of_getElem? (i := 724) (by decide +kernel)⟩
theorem lw_p15 : lw_okq (⟨"BorrowedWords$Runs", "takeUp", "(I)V"⟩, 15) := ⟨⟨by decide +kernel, by decide +kernel⟩, List.mem_of_getElem? (i := 190) (by decide +kernel), List.mem_of_getElem? (i := 731) (by decide +kernel), List.mem_of_getElem? (i := 732) (by decide +kernel)⟩
def lw_privs_1 : List (MethodName × Nat) := [(⟨"BorrowedWords", "forget", "()V"⟩, 10), (⟨"BorrowedWords$Text", "repeats", "(ILBorrowedWords$Text;II)Z"⟩, 5), (⟨"BorrowedWords$RuleReader", "skipBlanks", "()V"⟩, 7), (⟨"BorrowedWords$RuleReader", "readClause", "(II)V"⟩, 7), (⟨"BorrowedWords$RuleReader", "endOfWord", "(I)I"⟩, 7), (⟨"BorrowedWords$RuleReader", "kindOf", "(II)I"⟩, 7), (⟨"BorrowedWords$RuleReader", "spells", "(IILjava/lang/String;)Z"⟩, 7), (⟨"BorrowedWords$RuleReader", "fail", "(II)V"⟩, 7), (⟨"BorrowedWords$RuleReader", "readStrike", "(I)V"⟩, 7), (⟨"BorrowedWords$RuleReader", "readNumber", "()I"⟩, 7), (⟨"BorrowedWords$RuleReader", "readYes", "(I)V"⟩, 7), (⟨"BorrowedWords$RuleReader", "readSetting", "(I)V"⟩, 7), (⟨"BorrowedWords$RuleBook", "countingOn", "(I)I"⟩, 4), (⟨"BorrowedWords", "refusalOfLook", "(II)I"⟩, 10), (⟨"BorrowedWords", "sourcesLookedAt", "(II)I"⟩, 10), (⟨"BorrowedWords$Runs", "takeUp", "(I)V"⟩, 15)]
theorem lw_r1 : ∀ q ∈ lw_privs_1, lw_okq q := List.forall_mem_cons.mpr ⟨lw_p0, List.forall_mem_cons.mpr ⟨lw_p1, List.forall_mem_cons.mpr ⟨lw_p2, List.forall_mem_cons.mpr ⟨lw_p3, List.forall_mem_cons.mpr ⟨lw_p4, List.forall_mem_cons.mpr ⟨lw_p5, List.forall_mem_cons.mpr ⟨lw_p6, List.forall_mem_cons.mpr ⟨lw_p7, List.forall_mem_cons.mpr ⟨lw_p8, List.forall_mem_cons.mpr ⟨lw_p9, List.forall_mem_cons.mpr ⟨lw_p10, List.forall_mem_cons.mpr ⟨lw_p11, List.forall_mem_cons.mpr ⟨lw_p12, List.forall_mem_cons.mpr ⟨lw_p13, List.forall_mem_cons.mpr ⟨lw_p14, List.forall_mem_cons.mpr ⟨lw_p15, fun _ h => absurd h List.not_mem_nil⟩⟩⟩⟩⟩⟩⟩⟩⟩⟩⟩⟩⟩⟩⟩⟩
theorem lw_p16 : lw_okq (⟨"BorrowedWords$Runs", "keyOf", "(I)I"⟩, 15) := ⟨⟨by decide +kernel, by decide +kernel⟩, List.mem_of_getElem? (i := 190) (by decide +kernel), List.mem_of_getElem? (i := 735) (by decide +kernel), List.mem_of_getElem? (i := 736) (by decide +kernel)⟩
theorem lw_p17 : lw_okq (⟨"BorrowedWords$Runs", "holdAgainst", "(I)V"⟩, 15) := ⟨⟨by decide +kernel, by decide +kernel⟩, List.mem_of_getElem? (i := 190) (by decide +kernel), List.mem_of_getElem? (i := 740) (by decide +kernel), List.mem_of_getElem? (i := 741) (by decide +kernel)⟩
theorem lw_p18 : lw_okq (⟨"BorrowedWords$Runs", "sizesAt", "(I)J"⟩, 15) := ⟨⟨by decide +kernel, by decide +kernel⟩, List.mem_of_getElem? (i := 190) (by decide +kernel), List.mem_of_getElem? (i := 744) (by decide +kernel), List.mem_of_getElem? (i := 745) (by decide +kernel)⟩
theorem lw_p19 : lw_okq (⟨"BorrowedWords$Runs", "begin", "(I)V"⟩, 15) := ⟨⟨by decide +kernel, by decide +kernel⟩, List.mem_of_getElem? (i := 190) (by decide +kernel), List.mem_of_getElem? (i := 748) (by decide +kernel), List.mem_of_getElem? (i := 749) (by decide +kernel)⟩
theorem lw_p20 : lw_okq (⟨"BorrowedWords$Runs", "goesAlong", "()Z"⟩, 15) := ⟨⟨by decide +kernel, by decide +kernel⟩, List.mem_of_getElem? (i := 190) (by decide +kernel), List.mem_of_getElem? (i := 752) (by decide +kernel), List.mem_of_getElem? (i := 753) (by decide +kernel)⟩
theorem lw_p21 : lw_okq (⟨"BorrowedWords$Runs", "extend", "(II)J"⟩, 15) := ⟨⟨by decide +kernel, by decide +kernel⟩, List.mem_of_getElem? (i := 190) (by decide +kernel), List.mem_of_getElem? (i := 756) (by decide +kernel), List.mem_of_getElem? (i := 757) (by decide +kernel)⟩
theorem lw_p22 : lw_okq (⟨"BorrowedWords$Runs", "isOwnEnough", "(II)Z"⟩, 15) := ⟨⟨by decide +kernel, by decide +kernel⟩, List.mem_of_getElem? (i := 190) (by decide +kernel), List.mem_of_getElem? (i := 761) (by decide +kernel), List.mem_of_getElem? (i := 762) (by decide +kernel)⟩
theorem lw_p23 : lw_okq (⟨"BorrowedWords$Explanation", "weigh", "(I)I"⟩, 8) := ⟨⟨by decide +kernel, by decide +kernel⟩, List.mem_of_getElem? (i := 248) (by decide +kernel), List.mem_of_getElem? (i := 793) (by decide +kernel), List.mem_of_getElem? (i := 794) (by decide +kernel)⟩
theorem lw_p24 : lw_okq (⟨"BorrowedWords$Explanation", "choose", "(IJ)V"⟩, 8) := ⟨⟨by decide +kernel, by decide +kernel⟩, List.mem_of_getElem? (i := 248) (by decide +kernel), List.mem_of_getElem? (i := 798) (by decide +kernel), List.mem_of_getElem? (i := 799) (by decide +kernel)⟩
theorem lw_p25 : lw_okq (⟨"BorrowedWords", "takenCount", "()I"⟩, 10) := ⟨⟨by decide +kernel, by decide +kernel⟩, List.mem_of_getElem? (i := 22) (by decide +kernel), List.mem_of_getElem? (i := 806) (by decide +kernel), List.mem_of_getElem? (i := 807) (by decide +kernel)⟩
theorem lw_p26 : lw_okq (⟨"BorrowedWords", "borrowedCount", "(I)I"⟩, 10) := ⟨⟨by decide +kernel, by decide +kernel⟩, List.mem_of_getElem? (i := 22) (by decide +kernel), List.mem_of_getElem? (i := 810) (by decide +kernel), List.mem_of_getElem? (i := 811) (by decide +kernel)⟩
theorem lw_p27 : lw_okq (⟨"BorrowedWords", "shareOf", "(II)I"⟩, 10) := ⟨⟨by decide +kernel, by decide +kernel⟩, List.mem_of_getElem? (i := 22) (by decide +kernel), List.mem_of_getElem? (i := 819) (by decide +kernel), List.mem_of_getElem? (i := 820) (by decide +kernel)⟩
theorem lw_p28 : lw_okq (⟨"BorrowedWords", "verdictOn", "(I)I"⟩, 10) := ⟨⟨by decide +kernel, by decide +kernel⟩, List.mem_of_getElem? (i := 22) (by decide +kernel), List.mem_of_getElem? (i := 823) (by decide +kernel), List.mem_of_getElem? (i := 824) (by decide +kernel)⟩
theorem lw_p29 : lw_okq (⟨"BorrowedWords$Ways", "learnText", "(I)V"⟩, 10) := ⟨⟨by decide +kernel, by decide +kernel⟩, List.mem_of_getElem? (i := 286) (by decide +kernel), List.mem_of_getElem? (i := 857) (by decide +kernel), List.mem_of_getElem? (i := 858) (by decide +kernel)⟩
theorem lw_p30 : lw_okq (⟨"BorrowedWords$RowTable", "insert", "(IJ)V"⟩, 6) := ⟨⟨by decide +kernel, by decide +kernel⟩, List.mem_of_getElem? (i := 328) (by decide +kernel), List.mem_of_getElem? (i := 899) (by decide +kernel), List.mem_of_getElem? (i := 900) (by decide +kernel)⟩
theorem lw_p31 : lw_okq (⟨"BorrowedWords$RowTable", "countInBoth", "(II)I"⟩, 6) := ⟨⟨by decide +kernel, by decide +kernel⟩, List.mem_of_getElem? (i := 328) (by decide +kernel), List.mem_of_getElem? (i := 911) (by decide +kernel), List.mem_of_getElem? (i := 912) (by decide +kernel)⟩
def lw_privs_2 : List (MethodName × Nat) := [(⟨"BorrowedWords$Runs", "keyOf", "(I)I"⟩, 15), (⟨"BorrowedWords$Runs", "holdAgainst", "(I)V"⟩, 15), (⟨"BorrowedWords$Runs", "sizesAt", "(I)J"⟩, 15), (⟨"BorrowedWords$Runs", "begin", "(I)V"⟩, 15), (⟨"BorrowedWords$Runs", "goesAlong", "()Z"⟩, 15), (⟨"BorrowedWords$Runs", "extend", "(II)J"⟩, 15), (⟨"BorrowedWords$Runs", "isOwnEnough", "(II)Z"⟩, 15), (⟨"BorrowedWords$Explanation", "weigh", "(I)I"⟩, 8), (⟨"BorrowedWords$Explanation", "choose", "(IJ)V"⟩, 8), (⟨"BorrowedWords", "takenCount", "()I"⟩, 10), (⟨"BorrowedWords", "borrowedCount", "(I)I"⟩, 10), (⟨"BorrowedWords", "shareOf", "(II)I"⟩, 10), (⟨"BorrowedWords", "verdictOn", "(I)I"⟩, 10), (⟨"BorrowedWords$Ways", "learnText", "(I)V"⟩, 10), (⟨"BorrowedWords$RowTable", "insert", "(IJ)V"⟩, 6), (⟨"BorrowedWords$RowTable", "countInBoth", "(II)I"⟩, 6)]
theorem lw_r2 : ∀ q ∈ lw_privs_2, lw_okq q := List.forall_mem_cons.mpr ⟨lw_p16, List.forall_mem_cons.mpr ⟨lw_p17, List.forall_mem_cons.mpr ⟨lw_p18, List.forall_mem_cons.mpr ⟨lw_p19, List.forall_mem_cons.mpr ⟨lw_p20, List.forall_mem_cons.mpr ⟨lw_p21, List.forall_mem_cons.mpr ⟨lw_p22, List.forall_mem_cons.mpr ⟨lw_p23, List.forall_mem_cons.mpr ⟨lw_p24, List.forall_mem_cons.mpr ⟨lw_p25, List.forall_mem_cons.mpr ⟨lw_p26, List.forall_mem_cons.mpr ⟨lw_p27, List.forall_mem_cons.mpr ⟨lw_p28, List.forall_mem_cons.mpr ⟨lw_p29, List.forall_mem_cons.mpr ⟨lw_p30, List.forall_mem_cons.mpr ⟨lw_p31, fun _ h => absurd h List.not_mem_nil⟩⟩⟩⟩⟩⟩⟩⟩⟩⟩⟩⟩⟩⟩⟩⟩
theorem lw_p32 : lw_okq (⟨"BorrowedWords$RowTable", "fillAll", "(I)V"⟩, 6) := ⟨⟨by decide +kernel, by decide +kernel⟩, List.mem_of_getElem? (i := 328) (by decide +kernel), List.mem_of_getElem? (i := 926) (by decide +kernel), List.mem_of_getElem? (i := 927) (by decide +kernel)⟩
theorem lw_p33 : lw_okq (⟨"BorrowedWords$RowTable", "joinFamilies", "(II)V"⟩, 6) := ⟨⟨by decide +kernel, by decide +kernel⟩, List.mem_of_getElem? (i := 328) (by decide +kernel), List.mem_of_getElem? (i := 940) (by decide +kernel), List.mem_of_getElem? (i := 941) (by decide +kernel)⟩
theorem lw_p34 : lw_okq (⟨"BorrowedWords$Sentences", "isSameSentence", "(LBorrowedWords$Text;ILBorrowedWords$Text;I)Z"⟩, 6) := ⟨⟨by decide +kernel, by decide +kernel⟩, List.mem_of_getElem? (i := 357) (by decide +kernel), List.mem_of_getElem? (i := 960) (by decide +kernel), List.mem_of_getElem? (i := 961) (by decide +kernel)⟩
theorem lw_p35 : lw_okq (⟨"BorrowedWordsModel", "isText", "(I)Z"⟩, 42) := ⟨⟨by decide +kernel, by decide +kernel⟩, List.mem_of_getElem? (i := 970) (by decide +kernel), List.mem_of_getElem? (i := 1116) (by decide +kernel), List.mem_of_getElem? (i := 1117) (by decide +kernel)⟩
theorem lw_p36 : lw_okq (⟨"BorrowedWordsModel", "put", "(IIZ)V"⟩, 42) := ⟨⟨by decide +kernel, by decide +kernel⟩, List.mem_of_getElem? (i := 970) (by decide +kernel), List.mem_of_getElem? (i := 1121) (by decide +kernel), List.mem_of_getElem? (i := 1122) (by decide +kernel)⟩
theorem lw_p37 : lw_okq (⟨"BorrowedWordsModel", "stopMany", "(I)I"⟩, 42) := ⟨⟨by decide +kernel, by decide +kernel⟩, List.mem_of_getElem? (i := 970) (by decide +kernel), List.mem_of_getElem? (i := 1129) (by decide +kernel), List.mem_of_getElem? (i := 1130) (by decide +kernel)⟩
theorem lw_p38 : lw_okq (⟨"BorrowedWordsModel", "wordOf", "(II)I"⟩, 42) := ⟨⟨by decide +kernel, by decide +kernel⟩, List.mem_of_getElem? (i := 970) (by decide +kernel), List.mem_of_getElem? (i := 1137) (by decide +kernel), List.mem_of_getElem? (i := 1138) (by decide +kernel)⟩
theorem lw_p39 : lw_okq (⟨"BorrowedWordsModel", "sentences", "(I)I"⟩, 42) := ⟨⟨by decide +kernel, by decide +kernel⟩, List.mem_of_getElem? (i := 970) (by decide +kernel), List.mem_of_getElem? (i := 1145) (by decide +kernel), List.mem_of_getElem? (i := 1146) (by decide +kernel)⟩
theorem lw_p40 : lw_okq (⟨"BorrowedWordsModel", "marksThat", "(II)I"⟩, 42) := ⟨⟨by decide +kernel, by decide +kernel⟩, List.mem_of_getElem? (i := 970) (by decide +kernel), List.mem_of_getElem? (i := 1149) (by decide +kernel), List.mem_of_getElem? (i := 1150) (by decide +kernel)⟩
theorem lw_p41 : lw_okq (⟨"BorrowedWordsModel", "standing", "(I)I"⟩, 42) := ⟨⟨by decide +kernel, by decide +kernel⟩, List.mem_of_getElem? (i := 970) (by decide +kernel), List.mem_of_getElem? (i := 1153) (by decide +kernel), List.mem_of_getElem? (i := 1154) (by decide +kernel)⟩
theorem lw_p42 : lw_okq (⟨"BorrowedWordsModel", "isOlder", "(II)Z"⟩, 42) := ⟨⟨by decide +kernel, by decide +kernel⟩, List.mem_of_getElem? (i := 970) (by decide +kernel), List.mem_of_getElem? (i := 1157) (by decide +kernel), List.mem_of_getElem? (i := 1158) (by decide +kernel)⟩
theorem lw_p43 : lw_okq (⟨"BorrowedWordsModel", "isThere", "(IIII)Z"⟩, 42) := ⟨⟨by decide +kernel, by decide +kernel⟩, List.mem_of_getElem? (i := 970) (by decide +kernel), List.mem_of_getElem? (i := 1161) (by decide +kernel), List.mem_of_getElem? (i := 1162) (by decide +kernel)⟩
theorem lw_p44 : lw_okq (⟨"BorrowedWordsModel", "groupMany", "(I)I"⟩, 42) := ⟨⟨by decide +kernel, by decide +kernel⟩, List.mem_of_getElem? (i := 970) (by decide +kernel), List.mem_of_getElem? (i := 1173) (by decide +kernel), List.mem_of_getElem? (i := 1174) (by decide +kernel)⟩
theorem lw_p45 : lw_okq (⟨"BorrowedWordsModel", "here", "()I"⟩, 42) := ⟨⟨by decide +kernel, by decide +kernel⟩, List.mem_of_getElem? (i := 970) (by decide +kernel), List.mem_of_getElem? (i := 1203) (by decide +kernel), List.mem_of_getElem? (i := 1204) (by decide +kernel)⟩
theorem lw_p46 : lw_okq (⟨"BorrowedWordsModel", "readClause", "(IZ)I"⟩, 42) := ⟨⟨by decide +kernel, by decide +kernel⟩, List.mem_of_getElem? (i := 970) (by decide +kernel), List.mem_of_getElem? (i := 1207) (by decide +kernel), List.mem_of_getElem? (i := 1208) (by decide +kernel)⟩
theorem lw_p47 : lw_okq (⟨"BorrowedWordsModel", "readWord", "()V"⟩, 42) := ⟨⟨by decide +kernel, by decide +kernel⟩, List.mem_of_getElem? (i := 970) (by decide +kernel), List.mem_of_getElem? (i := 1211) (by decide +kernel), List.mem_of_getElem? (i := 1212) (by decide +kernel)⟩
def lw_privs_3 : List (MethodName × Nat) := [(⟨"BorrowedWords$RowTable", "fillAll", "(I)V"⟩, 6), (⟨"BorrowedWords$RowTable", "joinFamilies", "(II)V"⟩, 6), (⟨"BorrowedWords$Sentences", "isSameSentence", "(LBorrowedWords$Text;ILBorrowedWords$Text;I)Z"⟩, 6), (⟨"BorrowedWordsModel", "isText", "(I)Z"⟩, 42), (⟨"BorrowedWordsModel", "put", "(IIZ)V"⟩, 42), (⟨"BorrowedWordsModel", "stopMany", "(I)I"⟩, 42), (⟨"BorrowedWordsModel", "wordOf", "(II)I"⟩, 42), (⟨"BorrowedWordsModel", "sentences", "(I)I"⟩, 42), (⟨"BorrowedWordsModel", "marksThat", "(II)I"⟩, 42), (⟨"BorrowedWordsModel", "standing", "(I)I"⟩, 42), (⟨"BorrowedWordsModel", "isOlder", "(II)Z"⟩, 42), (⟨"BorrowedWordsModel", "isThere", "(IIII)Z"⟩, 42), (⟨"BorrowedWordsModel", "groupMany", "(I)I"⟩, 42), (⟨"BorrowedWordsModel", "here", "()I"⟩, 42), (⟨"BorrowedWordsModel", "readClause", "(IZ)I"⟩, 42), (⟨"BorrowedWordsModel", "readWord", "()V"⟩, 42)]
theorem lw_r3 : ∀ q ∈ lw_privs_3, lw_okq q := List.forall_mem_cons.mpr ⟨lw_p32, List.forall_mem_cons.mpr ⟨lw_p33, List.forall_mem_cons.mpr ⟨lw_p34, List.forall_mem_cons.mpr ⟨lw_p35, List.forall_mem_cons.mpr ⟨lw_p36, List.forall_mem_cons.mpr ⟨lw_p37, List.forall_mem_cons.mpr ⟨lw_p38, List.forall_mem_cons.mpr ⟨lw_p39, List.forall_mem_cons.mpr ⟨lw_p40, List.forall_mem_cons.mpr ⟨lw_p41, List.forall_mem_cons.mpr ⟨lw_p42, List.forall_mem_cons.mpr ⟨lw_p43, List.forall_mem_cons.mpr ⟨lw_p44, List.forall_mem_cons.mpr ⟨lw_p45, List.forall_mem_cons.mpr ⟨lw_p46, List.forall_mem_cons.mpr ⟨lw_p47, fun _ h => absurd h List.not_mem_nil⟩⟩⟩⟩⟩⟩⟩⟩⟩⟩⟩⟩⟩⟩⟩⟩
theorem lw_p48 : lw_okq (⟨"BorrowedWordsModel", "keyOf", "()I"⟩, 42) := ⟨⟨by decide +kernel, by decide +kernel⟩, List.mem_of_getElem? (i := 970) (by decide +kernel), List.mem_of_getElem? (i := 1221) (by decide +kernel), List.mem_of_getElem? (i := 1222) (by decide +kernel)⟩
theorem lw_p49 : lw_okq (⟨"BorrowedWordsModel", "fails", "(II)I"⟩, 42) := ⟨⟨by decide +kernel, by decide +kernel⟩, List.mem_of_getElem? (i := 970) (by decide +kernel), List.mem_of_getElem? (i := 1228) (by decide +kernel), List.mem_of_getElem? (i := 1229) (by decide +kernel)⟩
theorem lw_p50 : lw_okq (⟨"BorrowedWordsModel", "readYes", "()I"⟩, 42) := ⟨⟨by decide +kernel, by decide +kernel⟩, List.mem_of_getElem? (i := 970) (by decide +kernel), List.mem_of_getElem? (i := 1232) (by decide +kernel), List.mem_of_getElem? (i := 1233) (by decide +kernel)⟩
theorem lw_p51 : lw_okq (⟨"BorrowedWordsModel", "readNumber", "(III)I"⟩, 42) := ⟨⟨by decide +kernel, by decide +kernel⟩, List.mem_of_getElem? (i := 970) (by decide +kernel), List.mem_of_getElem? (i := 1236) (by decide +kernel), List.mem_of_getElem? (i := 1237) (by decide +kernel)⟩
theorem lw_p52 : lw_okq (⟨"BorrowedWordsModel", "findRules", "(I)V"⟩, 42) := ⟨⟨by decide +kernel, by decide +kernel⟩, List.mem_of_getElem? (i := 970) (by decide +kernel), List.mem_of_getElem? (i := 1254) (by decide +kernel), List.mem_of_getElem? (i := 1255) (by decide +kernel)⟩
theorem lw_p53 : lw_okq (⟨"BorrowedWordsModel", "strikes", "(II)Z"⟩, 42) := ⟨⟨by decide +kernel, by decide +kernel⟩, List.mem_of_getElem? (i := 970) (by decide +kernel), List.mem_of_getElem? (i := 1258) (by decide +kernel), List.mem_of_getElem? (i := 1259) (by decide +kernel)⟩
theorem lw_p54 : lw_okq (⟨"BorrowedWordsModel", "isAsked", "(I)Z"⟩, 42) := ⟨⟨by decide +kernel, by decide +kernel⟩, List.mem_of_getElem? (i := 970) (by decide +kernel), List.mem_of_getElem? (i := 1266) (by decide +kernel), List.mem_of_getElem? (i := 1267) (by decide +kernel)⟩
theorem lw_p55 : lw_okq (⟨"BorrowedWordsModel", "sourcesOf", "(II)I"⟩, 42) := ⟨⟨by decide +kernel, by decide +kernel⟩, List.mem_of_getElem? (i := 970) (by decide +kernel), List.mem_of_getElem? (i := 1270) (by decide +kernel), List.mem_of_getElem? (i := 1271) (by decide +kernel)⟩
theorem lw_p56 : lw_okq (⟨"BorrowedWordsModel", "runFrom", "(IIIIZ)I"⟩, 42) := ⟨⟨by decide +kernel, by decide +kernel⟩, List.mem_of_getElem? (i := 970) (by decide +kernel), List.mem_of_getElem? (i := 1279) (by decide +kernel), List.mem_of_getElem? (i := 1280) (by decide +kernel)⟩
theorem lw_p57 : lw_okq (⟨"BorrowedWordsModel", "isLike", "(II)Z"⟩, 42) := ⟨⟨by decide +kernel, by decide +kernel⟩, List.mem_of_getElem? (i := 970) (by decide +kernel), List.mem_of_getElem? (i := 1283) (by decide +kernel), List.mem_of_getElem? (i := 1284) (by decide +kernel)⟩
theorem lw_p58 : lw_okq (⟨"BorrowedWordsModel", "look", "(II)V"⟩, 42) := ⟨⟨by decide +kernel, by decide +kernel⟩, List.mem_of_getElem? (i := 970) (by decide +kernel), List.mem_of_getElem? (i := 1292) (by decide +kernel), List.mem_of_getElem? (i := 1293) (by decide +kernel)⟩
theorem lw_p59 : lw_okq (⟨"BorrowedWordsModel", "explain", "(II)V"⟩, 42) := ⟨⟨by decide +kernel, by decide +kernel⟩, List.mem_of_getElem? (i := 970) (by decide +kernel), List.mem_of_getElem? (i := 1296) (by decide +kernel), List.mem_of_getElem? (i := 1297) (by decide +kernel)⟩
theorem lw_p60 : lw_okq (⟨"BorrowedWordsModel", "fromOf", "(III)I"⟩, 42) := ⟨⟨by decide +kernel, by decide +kernel⟩, List.mem_of_getElem? (i := 970) (by decide +kernel), List.mem_of_getElem? (i := 1300) (by decide +kernel), List.mem_of_getElem? (i := 1301) (by decide +kernel)⟩
theorem lw_p61 : lw_okq (⟨"BorrowedWordsModel", "placeOf", "(IIII)I"⟩, 42) := ⟨⟨by decide +kernel, by decide +kernel⟩, List.mem_of_getElem? (i := 970) (by decide +kernel), List.mem_of_getElem? (i := 1304) (by decide +kernel), List.mem_of_getElem? (i := 1305) (by decide +kernel)⟩
theorem lw_p62 : lw_okq (⟨"BorrowedWordsModel", "isRun", "(IIIII)Z"⟩, 42) := ⟨⟨by decide +kernel, by decide +kernel⟩, List.mem_of_getElem? (i := 970) (by decide +kernel), List.mem_of_getElem? (i := 1308) (by decide +kernel), List.mem_of_getElem? (i := 1309) (by decide +kernel)⟩
theorem lw_p63 : lw_okq (⟨"BorrowedWordsModel", "borrowed", "(I)I"⟩, 42) := ⟨⟨by decide +kernel, by decide +kernel⟩, List.mem_of_getElem? (i := 970) (by decide +kernel), List.mem_of_getElem? (i := 1316) (by decide +kernel), List.mem_of_getElem? (i := 1317) (by decide +kernel)⟩
def lw_privs_4 : List (MethodName × Nat) := [(⟨"BorrowedWordsModel", "keyOf", "()I"⟩, 42), (⟨"BorrowedWordsModel", "fails", "(II)I"⟩, 42), (⟨"BorrowedWordsModel", "readYes", "()I"⟩, 42), (⟨"BorrowedWordsModel", "readNumber", "(III)I"⟩, 42), (⟨"BorrowedWordsModel", "findRules", "(I)V"⟩, 42), (⟨"BorrowedWordsModel", "strikes", "(II)Z"⟩, 42), (⟨"BorrowedWordsModel", "isAsked", "(I)Z"⟩, 42), (⟨"BorrowedWordsModel", "sourcesOf", "(II)I"⟩, 42), (⟨"BorrowedWordsModel", "runFrom", "(IIIIZ)I"⟩, 42), (⟨"BorrowedWordsModel", "isLike", "(II)Z"⟩, 42), (⟨"BorrowedWordsModel", "look", "(II)V"⟩, 42), (⟨"BorrowedWordsModel", "explain", "(II)V"⟩, 42), (⟨"BorrowedWordsModel", "fromOf", "(III)I"⟩, 42), (⟨"BorrowedWordsModel", "placeOf", "(IIII)I"⟩, 42), (⟨"BorrowedWordsModel", "isRun", "(IIIII)Z"⟩, 42), (⟨"BorrowedWordsModel", "borrowed", "(I)I"⟩, 42)]
theorem lw_r4 : ∀ q ∈ lw_privs_4, lw_okq q := List.forall_mem_cons.mpr ⟨lw_p48, List.forall_mem_cons.mpr ⟨lw_p49, List.forall_mem_cons.mpr ⟨lw_p50, List.forall_mem_cons.mpr ⟨lw_p51, List.forall_mem_cons.mpr ⟨lw_p52, List.forall_mem_cons.mpr ⟨lw_p53, List.forall_mem_cons.mpr ⟨lw_p54, List.forall_mem_cons.mpr ⟨lw_p55, List.forall_mem_cons.mpr ⟨lw_p56, List.forall_mem_cons.mpr ⟨lw_p57, List.forall_mem_cons.mpr ⟨lw_p58, List.forall_mem_cons.mpr ⟨lw_p59, List.forall_mem_cons.mpr ⟨lw_p60, List.forall_mem_cons.mpr ⟨lw_p61, List.forall_mem_cons.mpr ⟨lw_p62, List.forall_mem_cons.mpr ⟨lw_p63, fun _ h => absurd h List.not_mem_nil⟩⟩⟩⟩⟩⟩⟩⟩⟩⟩⟩⟩⟩⟩⟩⟩
theorem lw_p64 : lw_okq (⟨"BorrowedWordsModel", "isCited", "(II)Z"⟩, 42) := ⟨⟨by decide +kernel, by decide +kernel⟩, List.mem_of_getElem? (i := 970) (by decide +kernel), List.mem_of_getElem? (i := 1320) (by decide +kernel), List.mem_of_getElem? (i := 1321) (by decide +kernel)⟩
theorem lw_p65 : lw_okq (⟨"BorrowedWordsModel", "share", "(I)I"⟩, 42) := ⟨⟨by decide +kernel, by decide +kernel⟩, List.mem_of_getElem? (i := 970) (by decide +kernel), List.mem_of_getElem? (i := 1324) (by decide +kernel), List.mem_of_getElem? (i := 1325) (by decide +kernel)⟩
theorem lw_p66 : lw_okq (⟨"BorrowedWordsModel", "verdict", "(I)I"⟩, 42) := ⟨⟨by decide +kernel, by decide +kernel⟩, List.mem_of_getElem? (i := 970) (by decide +kernel), List.mem_of_getElem? (i := 1328) (by decide +kernel), List.mem_of_getElem? (i := 1329) (by decide +kernel)⟩
theorem lw_p67 : lw_okq (⟨"BorrowedWordsModel", "find", "()V"⟩, 42) := ⟨⟨by decide +kernel, by decide +kernel⟩, List.mem_of_getElem? (i := 970) (by decide +kernel), List.mem_of_getElem? (i := 1347) (by decide +kernel), List.mem_of_getElem? (i := 1348) (by decide +kernel)⟩
theorem lw_p68 : lw_okq (⟨"BorrowedWordsModel", "firstOf", "(I)I"⟩, 42) := ⟨⟨by decide +kernel, by decide +kernel⟩, List.mem_of_getElem? (i := 970) (by decide +kernel), List.mem_of_getElem? (i := 1359) (by decide +kernel), List.mem_of_getElem? (i := 1360) (by decide +kernel)⟩
theorem lw_p69 : lw_okq (⟨"BorrowedWordsModel", "rowsOf", "(II)I"⟩, 42) := ⟨⟨by decide +kernel, by decide +kernel⟩, List.mem_of_getElem? (i := 970) (by decide +kernel), List.mem_of_getElem? (i := 1368) (by decide +kernel), List.mem_of_getElem? (i := 1369) (by decide +kernel)⟩
theorem lw_p70 : lw_okq (⟨"BorrowedWordsModel", "hasRow", "(IIIII)Z"⟩, 42) := ⟨⟨by decide +kernel, by decide +kernel⟩, List.mem_of_getElem? (i := 970) (by decide +kernel), List.mem_of_getElem? (i := 1372) (by decide +kernel), List.mem_of_getElem? (i := 1373) (by decide +kernel)⟩
theorem lw_p71 : lw_okq (⟨"BorrowedWordsModel", "isSameRow", "(IIIII)Z"⟩, 42) := ⟨⟨by decide +kernel, by decide +kernel⟩, List.mem_of_getElem? (i := 970) (by decide +kernel), List.mem_of_getElem? (i := 1376) (by decide +kernel), List.mem_of_getElem? (i := 1377) (by decide +kernel)⟩
theorem lw_p72 : lw_okq (⟨"BorrowedWordsModel", "liken", "(III)V"⟩, 42) := ⟨⟨by decide +kernel, by decide +kernel⟩, List.mem_of_getElem? (i := 970) (by decide +kernel), List.mem_of_getElem? (i := 1384) (by decide +kernel), List.mem_of_getElem? (i := 1385) (by decide +kernel)⟩
theorem lw_p73 : lw_okq (⟨"BorrowedWordsModel", "common2", "(III)I"⟩, 42) := ⟨⟨by decide +kernel, by decide +kernel⟩, List.mem_of_getElem? (i := 970) (by decide +kernel), List.mem_of_getElem? (i := 1388) (by decide +kernel), List.mem_of_getElem? (i := 1389) (by decide +kernel)⟩
theorem lw_p74 : lw_okq (⟨"BorrowedWordsModel", "findSentences", "(II)I"⟩, 42) := ⟨⟨by decide +kernel, by decide +kernel⟩, List.mem_of_getElem? (i := 970) (by decide +kernel), List.mem_of_getElem? (i := 1408) (by decide +kernel), List.mem_of_getElem? (i := 1409) (by decide +kernel)⟩
theorem lw_p75 : lw_okq (⟨"BorrowedWordsModel", "areSame", "(IIII)Z"⟩, 42) := ⟨⟨by decide +kernel, by decide +kernel⟩, List.mem_of_getElem? (i := 970) (by decide +kernel), List.mem_of_getElem? (i := 1412) (by decide +kernel), List.mem_of_getElem? (i := 1413) (by decide +kernel)⟩
def lw_privs_5 : List (MethodName × Nat) := [(⟨"BorrowedWordsModel", "isCited", "(II)Z"⟩, 42), (⟨"BorrowedWordsModel", "share", "(I)I"⟩, 42), (⟨"BorrowedWordsModel", "verdict", "(I)I"⟩, 42), (⟨"BorrowedWordsModel", "find", "()V"⟩, 42), (⟨"BorrowedWordsModel", "firstOf", "(I)I"⟩, 42), (⟨"BorrowedWordsModel", "rowsOf", "(II)I"⟩, 42), (⟨"BorrowedWordsModel", "hasRow", "(IIIII)Z"⟩, 42), (⟨"BorrowedWordsModel", "isSameRow", "(IIIII)Z"⟩, 42), (⟨"BorrowedWordsModel", "liken", "(III)V"⟩, 42), (⟨"BorrowedWordsModel", "common2", "(III)I"⟩, 42), (⟨"BorrowedWordsModel", "findSentences", "(II)I"⟩, 42), (⟨"BorrowedWordsModel", "areSame", "(IIII)Z"⟩, 42)]
theorem lw_r5 : ∀ q ∈ lw_privs_5, lw_okq q := List.forall_mem_cons.mpr ⟨lw_p64, List.forall_mem_cons.mpr ⟨lw_p65, List.forall_mem_cons.mpr ⟨lw_p66, List.forall_mem_cons.mpr ⟨lw_p67, List.forall_mem_cons.mpr ⟨lw_p68, List.forall_mem_cons.mpr ⟨lw_p69, List.forall_mem_cons.mpr ⟨lw_p70, List.forall_mem_cons.mpr ⟨lw_p71, List.forall_mem_cons.mpr ⟨lw_p72, List.forall_mem_cons.mpr ⟨lw_p73, List.forall_mem_cons.mpr ⟨lw_p74, List.forall_mem_cons.mpr ⟨lw_p75, fun _ h => absurd h List.not_mem_nil⟩⟩⟩⟩⟩⟩⟩⟩⟩⟩⟩⟩
def lw_privs : List (MethodName × Nat) := lw_privs_1 ++ (lw_privs_2 ++ (lw_privs_3 ++ (lw_privs_4 ++ (lw_privs_5))))
def lw_tbl : List Cond := k2_sels lw_privs ++ tables_1
theorem lw_privs_ok : ∀ q ∈ lw_privs, lw_okq q := by
  show ∀ q ∈ lw_privs_1 ++ (lw_privs_2 ++ (lw_privs_3 ++ (lw_privs_4 ++ (lw_privs_5)))), lw_okq q
  exact List.forall_mem_append.mpr ⟨lw_r1, List.forall_mem_append.mpr ⟨lw_r2, List.forall_mem_append.mpr ⟨lw_r3, List.forall_mem_append.mpr ⟨lw_r4, lw_r5⟩⟩⟩⟩

/-! LINKS (printed by wip/tools/gen_links.py): every word of the tables that an instruction needs -/
def GW : List Jvm.Cond := lw_tbl.filter goodWord
theorem gw_of {w : Jvm.Cond} (h : w ∈ tables_1) (g : goodWord w = true) : w ∈ GW := List.mem_filter.mpr ⟨List.mem_append_right _ h, g⟩
theorem gw_sel {w : Jvm.Cond} (h : w ∈ k2_sels lw_privs) (g : goodWord w = true) : w ∈ GW := List.mem_filter.mpr ⟨List.mem_append_left _ h, g⟩
theorem tb1 {w : Jvm.Cond} (h : w ∈ tables_1_1) : w ∈ tables_1 := List.mem_append_left _ h
theorem gw1 {w : Jvm.Cond} (i : Nat) (h : tables_1_1[i]? = some w) (g : goodWord w = true) : w ∈ GW := gw_of (tb1 (List.mem_of_getElem? h)) g
theorem tb2 {w : Jvm.Cond} (h : w ∈ tables_1_2) : w ∈ tables_1 := List.mem_append_right _ (List.mem_append_left _ h)
theorem gw2 {w : Jvm.Cond} (i : Nat) (h : tables_1_2[i]? = some w) (g : goodWord w = true) : w ∈ GW := gw_of (tb2 (List.mem_of_getElem? h)) g
theorem tb3 {w : Jvm.Cond} (h : w ∈ tables_1_3) : w ∈ tables_1 := List.mem_append_right _ (List.mem_append_right _ (List.mem_append_left _ h))
theorem gw3 {w : Jvm.Cond} (i : Nat) (h : tables_1_3[i]? = some w) (g : goodWord w = true) : w ∈ GW := gw_of (tb3 (List.mem_of_getElem? h)) g
theorem tb4 {w : Jvm.Cond} (h : w ∈ tables_1_4) : w ∈ tables_1 := List.mem_append_right _ (List.mem_append_right _ (List.mem_append_right _ (List.mem_append_left _ h)))
theorem gw4 {w : Jvm.Cond} (i : Nat) (h : tables_1_4[i]? = some w) (g : goodWord w = true) : w ∈ GW := gw_of (tb4 (List.mem_of_getElem? h)) g
theorem tb5 {w : Jvm.Cond} (h : w ∈ tables_1_5) : w ∈ tables_1 := List.mem_append_right _ (List.mem_append_right _ (List.mem_append_right _ (List.mem_append_right _ (List.mem_append_left _ h))))
theorem gw5 {w : Jvm.Cond} (i : Nat) (h : tables_1_5[i]? = some w) (g : goodWord w = true) : w ∈ GW := gw_of (tb5 (List.mem_of_getElem? h)) g
theorem tb6 {w : Jvm.Cond} (h : w ∈ tables_1_6) : w ∈ tables_1 := List.mem_append_right _ (List.mem_append_right _ (List.mem_append_right _ (List.mem_append_right _ (List.mem_append_right _ (h)))))
theorem gw6 {w : Jvm.Cond} (i : Nat) (h : tables_1_6[i]? = some w) (g : goodWord w = true) : w ∈ GW := gw_of (tb6 (List.mem_of_getElem? h)) g
def owN (o : Nat) : String := (["BorrowedWords$Text", "BorrowedWords$Shelf", "BorrowedWords$Lexicon", "BorrowedWords$Marks", "BorrowedWords$RuleReader", "BorrowedWords$RuleBook", "BorrowedWords$Runs", "BorrowedWords$Explanation", "BorrowedWords$Ways", "BorrowedWords$RowTable", "BorrowedWords$Sentences", "BorrowedWords", "BorrowedWordsModel", "java/lang/String", "java/lang/StringLatin1", "jdk/internal/util/Preconditions", "java/lang/Integer", "java/lang/Long", "java/lang/Math", "BorrowedWordsLaw"] : List String).getD o ""
def yOfT : List (List (MethodName)) := [[⟨"BorrowedWords$Text", "<init>", "()V"⟩, ⟨"BorrowedWords$Shelf", "<init>", "()V"⟩, ⟨"BorrowedWords$Lexicon", "<init>", "()V"⟩, ⟨"BorrowedWords$Marks", "<init>", "(LBorrowedWords$Shelf;)V"⟩, ⟨"BorrowedWords$RuleReader", "<init>", "()V"⟩, ⟨"BorrowedWords$RuleBook", "<init>", "()V"⟩, ⟨"BorrowedWords$Runs", "<init>", "(LBorrowedWords$Shelf;LBorrowedWords$Lexicon;LBorrowedWords$RuleBook;)V"⟩, ⟨"BorrowedWords$Explanation", "<init>", "(LBorrowedWords$Runs;)V"⟩, ⟨"BorrowedWords$Ways", "<init>", "(LBorrowedWords$Shelf;LBorrowedWords$Runs;LBorrowedWords$Explanation;)V"⟩, ⟨"BorrowedWords$RowTable", "<init>", "(LBorrowedWords$Shelf;)V"⟩, ⟨"BorrowedWords$Sentences", "<init>", "()V"⟩, ⟨"BorrowedWords", "<init>", "()V"⟩, ⟨"BorrowedWordsModel", "<init>", "()V"⟩, ⟨"BorrowedWords", "isDay", "(I)Z"⟩, ⟨"BorrowedWords", "forget", "()V"⟩, ⟨"BorrowedWords$Shelf", "open", "(II)I"⟩],
  [⟨"BorrowedWords", "text", "(II)I"⟩, ⟨"BorrowedWordsModel", "in", "(JJJ)Z"⟩, ⟨"BorrowedWordsModel", "text", "(II)I"⟩, ⟨"BorrowedWords$Shelf", "has", "(I)Z"⟩, ⟨"BorrowedWords", "isWord", "(I)Z"⟩, ⟨"BorrowedWords$Text", "hasRoomFor", "(I)Z"⟩, ⟨"BorrowedWords$Text", "append", "(I)V"⟩, ⟨"BorrowedWords", "word", "(II)I"⟩, ⟨"BorrowedWordsModel", "isText", "(I)Z"⟩, ⟨"BorrowedWordsModel", "put", "(IIZ)V"⟩, ⟨"BorrowedWordsModel", "word", "(II)I"⟩, ⟨"BorrowedWords$Text", "stopsBehind", "(I)Z"⟩, ⟨"BorrowedWords$Text", "endsWithStop", "()Z"⟩, ⟨"BorrowedWords$Text", "appendStop", "()V"⟩, ⟨"java/lang/Long", "bitCount", "(J)I"⟩, ⟨"BorrowedWords", "stop", "(I)I"⟩],
  [⟨"BorrowedWordsModel", "stopMany", "(I)I"⟩, ⟨"BorrowedWordsModel", "stop", "(I)I"⟩, ⟨"BorrowedWords$Text", "spans", "(II)Z"⟩, ⟨"BorrowedWords", "copy", "(IIII)I"⟩, ⟨"BorrowedWordsModel", "wordOf", "(II)I"⟩, ⟨"BorrowedWordsModel", "copy", "(IIII)I"⟩, ⟨"BorrowedWords$Text", "sentenceCount", "()I"⟩, ⟨"BorrowedWords$Shelf", "isOlder", "(II)Z"⟩, ⟨"BorrowedWords$Text", "repeats", "(ILBorrowedWords$Text;II)Z"⟩, ⟨"BorrowedWords$Text", "hasPassage", "(LBorrowedWords$Text;II)Z"⟩, ⟨"BorrowedWords$Marks", "standing", "(I)I"⟩, ⟨"BorrowedWords$Marks", "howMany", "(II)I"⟩, ⟨"BorrowedWords", "about", "(II)I"⟩, ⟨"BorrowedWordsModel", "sentences", "(I)I"⟩, ⟨"BorrowedWordsModel", "isOlder", "(II)Z"⟩, ⟨"BorrowedWordsModel", "isThere", "(IIII)Z"⟩],
  [⟨"BorrowedWordsModel", "standing", "(I)I"⟩, ⟨"BorrowedWordsModel", "marksThat", "(II)I"⟩, ⟨"BorrowedWordsModel", "about", "(II)I"⟩, ⟨"BorrowedWords$Text", "hasPlace", "(I)Z"⟩, ⟨"BorrowedWords", "at", "(II)I"⟩, ⟨"BorrowedWordsModel", "at", "(II)I"⟩, ⟨"BorrowedWords$Lexicon", "join", "(II)I"⟩, ⟨"BorrowedWords", "same", "(II)I"⟩, ⟨"BorrowedWordsModel", "groupMany", "(I)I"⟩, ⟨"BorrowedWordsModel", "same", "(II)I"⟩, ⟨"BorrowedWords", "common", "(IZ)I"⟩, ⟨"BorrowedWordsModel", "common", "(IZ)I"⟩, ⟨"BorrowedWords$Marks", "add", "(IIII)I"⟩, ⟨"BorrowedWords", "mark", "(IIII)I"⟩, ⟨"BorrowedWordsModel", "mark", "(IIII)I"⟩, ⟨"BorrowedWords$Marks", "has", "(I)Z"⟩],
  [⟨"BorrowedWords", "stands", "(I)I"⟩, ⟨"BorrowedWordsModel", "stands", "(I)I"⟩, ⟨"BorrowedWords$Shelf", "wordCount", "()I"⟩, ⟨"BorrowedWords$Lexicon", "countOfShared", "()I"⟩, ⟨"BorrowedWords$Lexicon", "countOfCommon", "()I"⟩, ⟨"BorrowedWords", "count", "(I)I"⟩, ⟨"BorrowedWordsModel", "count", "(I)I"⟩, ⟨"BorrowedWords$RuleReader", "append", "(I)V"⟩, ⟨"BorrowedWords", "feed", "(IJ)I"⟩, ⟨"BorrowedWordsModel", "feed", "(IJ)I"⟩, ⟨"BorrowedWords$RuleReader", "skipBlanks", "()V"⟩, ⟨"BorrowedWords$RuleReader", "endOfWord", "(I)I"⟩, ⟨"java/lang/String", "coder", "()B"⟩, ⟨"java/lang/String", "length", "()I"⟩, ⟨"java/lang/String", "isLatin1", "()Z"⟩, ⟨"jdk/internal/util/Preconditions", "checkIndex", "(IILjava/util/function/BiFunction;)I"⟩],
  [⟨"java/lang/String", "checkIndex", "(II)V"⟩, ⟨"java/lang/StringLatin1", "charAt", "([BI)C"⟩, ⟨"java/lang/String", "charAt", "(I)C"⟩, ⟨"BorrowedWords$RuleReader", "spells", "(IILjava/lang/String;)Z"⟩, ⟨"BorrowedWords$RuleReader", "kindOf", "(II)I"⟩, ⟨"BorrowedWords$RuleReader", "fail", "(II)V"⟩, ⟨"BorrowedWords$RuleReader", "readNumber", "()I"⟩, ⟨"BorrowedWords$RuleReader", "readStrike", "(I)V"⟩, ⟨"BorrowedWords$RuleReader", "readYes", "(I)V"⟩, ⟨"BorrowedWords$RuleReader", "readSetting", "(I)V"⟩, ⟨"BorrowedWords$RuleReader", "readClause", "(II)V"⟩, ⟨"BorrowedWords$RuleReader", "read", "(I)I"⟩, ⟨"BorrowedWords$RuleBook", "add", "(I[II)I"⟩, ⟨"BorrowedWords", "rule", "(I)I"⟩, ⟨"BorrowedWordsModel", "here", "()I"⟩, ⟨"BorrowedWordsModel", "readWord", "()V"⟩],
  [⟨"BorrowedWordsModel", "code", "(IIIIII)J"⟩, ⟨"BorrowedWordsModel", "keyOf", "()I"⟩, ⟨"BorrowedWordsModel", "fails", "(II)I"⟩, ⟨"BorrowedWordsModel", "readYes", "()I"⟩, ⟨"BorrowedWordsModel", "readNumber", "(III)I"⟩, ⟨"BorrowedWordsModel", "mostOf", "(I)I"⟩, ⟨"BorrowedWordsModel", "readClause", "(IZ)I"⟩, ⟨"BorrowedWordsModel", "rule", "(I)I"⟩, ⟨"BorrowedWords", "fault", "()I"⟩, ⟨"BorrowedWordsModel", "fault", "()I"⟩, ⟨"BorrowedWords$RuleBook", "countingOn", "(I)I"⟩, ⟨"BorrowedWords$RuleBook", "holding", "(II)I"⟩, ⟨"BorrowedWords", "force", "(II)I"⟩, ⟨"BorrowedWordsModel", "strikes", "(II)Z"⟩, ⟨"BorrowedWordsModel", "findRules", "(I)V"⟩, ⟨"BorrowedWordsModel", "force", "(II)I"⟩],
  [⟨"BorrowedWords", "refusalOfLook", "(II)I"⟩, ⟨"BorrowedWords$Runs", "sourceSet", "(II)I"⟩, ⟨"BorrowedWords", "sources", "(II)I"⟩, ⟨"BorrowedWordsModel", "isAsked", "(I)Z"⟩, ⟨"BorrowedWordsModel", "sourcesOf", "(II)I"⟩, ⟨"BorrowedWordsModel", "sources", "(II)I"⟩, ⟨"BorrowedWords$Runs", "keyOf", "(I)I"⟩, ⟨"BorrowedWords$Runs", "takeUp", "(I)V"⟩, ⟨"BorrowedWords$Runs", "holdAgainst", "(I)V"⟩, ⟨"BorrowedWords$Runs", "begin", "(I)V"⟩, ⟨"BorrowedWords$Runs", "goesAlong", "()Z"⟩, ⟨"BorrowedWords$Runs", "extend", "(II)J"⟩, ⟨"BorrowedWords$Runs", "isOwnEnough", "(II)Z"⟩, ⟨"BorrowedWords$Runs", "sizesAt", "(I)J"⟩, ⟨"BorrowedWords$Runs", "lookAt", "(I)V"⟩, ⟨"BorrowedWords", "sourcesLookedAt", "(II)I"⟩],
  [⟨"BorrowedWords$Runs", "sizesWithin", "(II)J"⟩, ⟨"BorrowedWords$Runs", "longestAt", "(II)I"⟩, ⟨"BorrowedWords$Runs", "firstSource", "(III)I"⟩, ⟨"BorrowedWords$Runs", "leastPlace", "(III)I"⟩, ⟨"BorrowedWords", "reach", "(IIII)I"⟩, ⟨"BorrowedWordsModel", "isLike", "(II)Z"⟩, ⟨"BorrowedWordsModel", "runFrom", "(IIIIZ)I"⟩, ⟨"BorrowedWordsModel", "reach", "(IIII)I"⟩, ⟨"BorrowedWords$Explanation", "choose", "(IJ)V"⟩, ⟨"BorrowedWords$Explanation", "weigh", "(I)I"⟩, ⟨"BorrowedWords$Explanation", "explain", "(I)V"⟩, ⟨"BorrowedWords", "piece", "(IIII)I"⟩, ⟨"BorrowedWordsModel", "look", "(II)V"⟩, ⟨"BorrowedWordsModel", "explain", "(II)V"⟩, ⟨"BorrowedWordsModel", "fromOf", "(III)I"⟩, ⟨"BorrowedWordsModel", "isRun", "(IIIII)Z"⟩],
  [⟨"BorrowedWordsModel", "placeOf", "(IIII)I"⟩, ⟨"BorrowedWordsModel", "piece", "(IIII)I"⟩, ⟨"BorrowedWords", "takenCount", "()I"⟩, ⟨"BorrowedWords$Marks", "rightPlaces", "(I)J"⟩, ⟨"BorrowedWords", "borrowedCount", "(I)I"⟩, ⟨"BorrowedWords", "shareOf", "(II)I"⟩, ⟨"BorrowedWords", "verdictOn", "(I)I"⟩, ⟨"BorrowedWords", "judged", "(III)I"⟩, ⟨"BorrowedWordsModel", "isCited", "(II)Z"⟩, ⟨"BorrowedWordsModel", "borrowed", "(I)I"⟩, ⟨"BorrowedWordsModel", "share", "(I)I"⟩, ⟨"BorrowedWordsModel", "verdict", "(I)I"⟩, ⟨"BorrowedWordsModel", "judged", "(III)I"⟩, ⟨"BorrowedWords$Runs", "withRuns", "(I)I"⟩, ⟨"java/lang/Integer", "bitCount", "(I)I"⟩, ⟨"BorrowedWords$Explanation", "smallestSet", "(I)I"⟩],
  [⟨"BorrowedWords", "fewest", "(II)I"⟩, ⟨"BorrowedWordsModel", "bits", "(I)I"⟩, ⟨"BorrowedWordsModel", "fewest", "(II)I"⟩, ⟨"BorrowedWords", "hangs", "(II)I"⟩, ⟨"BorrowedWordsModel", "hangs", "(II)I"⟩, ⟨"BorrowedWords$Ways", "learnText", "(I)V"⟩, ⟨"BorrowedWords$Ways", "learn", "()V"⟩, ⟨"BorrowedWords$Ways", "walk", "(II)V"⟩, ⟨"BorrowedWords", "first", "(III)I"⟩, ⟨"BorrowedWordsModel", "find", "()V"⟩, ⟨"BorrowedWordsModel", "first", "(III)I"⟩, ⟨"BorrowedWords$Ways", "countThrough", "(II)I"⟩, ⟨"BorrowedWords", "passed", "(II)I"⟩, ⟨"BorrowedWordsModel", "passed", "(II)I"⟩, ⟨"BorrowedWords$Ways", "countEndingIn", "(I)I"⟩, ⟨"BorrowedWords", "sprung", "(I)I"⟩],
  [⟨"BorrowedWordsModel", "firstOf", "(I)I"⟩, ⟨"BorrowedWordsModel", "sprung", "(I)I"⟩, ⟨"BorrowedWords", "isRowSize", "(I)Z"⟩, ⟨"BorrowedWords$RowTable", "insert", "(IJ)V"⟩, ⟨"BorrowedWords$RowTable", "fill", "(II)V"⟩, ⟨"BorrowedWords", "rows", "(II)I"⟩, ⟨"BorrowedWordsModel", "isSameRow", "(IIIII)Z"⟩, ⟨"BorrowedWordsModel", "hasRow", "(IIIII)Z"⟩, ⟨"BorrowedWordsModel", "rowsOf", "(II)I"⟩, ⟨"BorrowedWordsModel", "rows", "(II)I"⟩, ⟨"BorrowedWords$RowTable", "countInBoth", "(II)I"⟩, ⟨"BorrowedWords$RowTable", "commonDivisor", "(II)I"⟩, ⟨"BorrowedWords$RowTable", "compare", "(II)V"⟩, ⟨"BorrowedWords", "likeness", "(IIII)I"⟩, ⟨"BorrowedWordsModel", "common2", "(III)I"⟩, ⟨"BorrowedWordsModel", "liken", "(III)V"⟩],
  [⟨"BorrowedWordsModel", "gcd", "(II)I"⟩, ⟨"BorrowedWordsModel", "likeness", "(IIII)I"⟩, ⟨"BorrowedWords$RowTable", "fillAll", "(I)V"⟩, ⟨"BorrowedWords$RowTable", "likestTo", "(II)I"⟩, ⟨"BorrowedWords", "nearest", "(II)I"⟩, ⟨"BorrowedWordsModel", "nearest", "(II)I"⟩, ⟨"BorrowedWords$RowTable", "joinFamilies", "(II)V"⟩, ⟨"BorrowedWords$RowTable", "familyOf", "(III)I"⟩, ⟨"BorrowedWords", "family", "(III)I"⟩, ⟨"BorrowedWordsModel", "family", "(III)I"⟩, ⟨"BorrowedWords$Sentences", "split", "(LBorrowedWords$Text;[I)I"⟩, ⟨"BorrowedWords$Sentences", "isSameSentence", "(LBorrowedWords$Text;ILBorrowedWords$Text;I)Z"⟩, ⟨"BorrowedWords$Sentences", "pair", "(LBorrowedWords$Text;LBorrowedWords$Text;)V"⟩, ⟨"BorrowedWords$Sentences", "longestInOrder", "()I"⟩, ⟨"BorrowedWords", "moved", "(III)I"⟩, ⟨"BorrowedWordsModel", "findSentences", "(II)I"⟩],
  [⟨"BorrowedWordsModel", "areSame", "(IIII)Z"⟩, ⟨"BorrowedWordsModel", "moved", "(III)I"⟩, ⟨"BorrowedWordsLaw", "law", "([I)Z"⟩]]
def yOf (id : Nat) : MethodName := (yOfT.getD (id / 16) []).getD (id % 16) ⟨"", "", ""⟩
def byOfT : List (List (ByteArray)) := [[prog_11_method_1_code, prog_10_method_1_code, prog_3_method_1_code, prog_4_method_1_code, prog_7_method_1_code, prog_6_method_1_code, prog_8_method_1_code, prog_2_method_1_code, prog_12_method_1_code, prog_5_method_1_code, prog_9_method_1_code, prog_1_method_1_code, prog_14_method_1_code, prog_1_method_31_code, prog_1_method_40_code, prog_10_method_3_code],
  [prog_1_method_2_code, prog_14_method_3_code, prog_14_method_6_code, prog_10_method_2_code, prog_1_method_32_code, prog_11_method_4_code, prog_11_method_5_code, prog_1_method_3_code, prog_14_method_4_code, prog_14_method_7_code, prog_14_method_8_code, prog_11_method_7_code, prog_11_method_8_code, prog_11_method_6_code, prog_16_method_50_code, prog_1_method_4_code],
  [prog_14_method_9_code, prog_14_method_10_code, prog_11_method_3_code, prog_1_method_5_code, prog_14_method_5_code, prog_14_method_11_code, prog_11_method_9_code, prog_10_method_5_code, prog_11_method_10_code, prog_11_method_11_code, prog_4_method_4_code, prog_4_method_5_code, prog_1_method_6_code, prog_14_method_12_code, prog_14_method_19_code, prog_14_method_20_code],
  [prog_14_method_21_code, prog_14_method_23_code, prog_14_method_13_code, prog_11_method_2_code, prog_1_method_7_code, prog_14_method_14_code, prog_3_method_2_code, prog_1_method_8_code, prog_14_method_15_code, prog_14_method_16_code, prog_1_method_9_code, prog_14_method_17_code, prog_4_method_3_code, prog_1_method_10_code, prog_14_method_18_code, prog_4_method_2_code],
  [prog_1_method_11_code, prog_14_method_22_code, prog_10_method_4_code, prog_3_method_3_code, prog_3_method_4_code, prog_1_method_12_code, prog_14_method_25_code, prog_7_method_2_code, prog_1_method_13_code, prog_14_method_28_code, prog_7_method_10_code, prog_7_method_11_code, prog_18_method_152_code, prog_18_method_54_code, prog_18_method_154_code, prog_21_method_11_code],
  [prog_18_method_155_code, prog_19_method_2_code, prog_18_method_56_code, prog_7_method_13_code, prog_7_method_12_code, prog_7_method_9_code, prog_7_method_8_code, prog_7_method_5_code, prog_7_method_7_code, prog_7_method_6_code, prog_7_method_4_code, prog_7_method_3_code, prog_6_method_2_code, prog_1_method_14_code, prog_14_method_29_code, prog_14_method_31_code],
  [prog_14_method_32_code, prog_14_method_33_code, prog_14_method_30_code, prog_14_method_35_code, prog_14_method_34_code, prog_14_method_36_code, prog_14_method_37_code, prog_14_method_38_code, prog_1_method_15_code, prog_14_method_39_code, prog_6_method_3_code, prog_6_method_4_code, prog_1_method_16_code, prog_14_method_26_code, prog_14_method_27_code, prog_14_method_40_code],
  [prog_1_method_34_code, prog_8_method_2_code, prog_1_method_17_code, prog_14_method_49_code, prog_14_method_42_code, prog_14_method_50_code, prog_8_method_5_code, prog_8_method_4_code, prog_8_method_6_code, prog_8_method_8_code, prog_8_method_9_code, prog_8_method_10_code, prog_8_method_11_code, prog_8_method_7_code, prog_8_method_3_code, prog_1_method_35_code],
  [prog_8_method_12_code, prog_8_method_13_code, prog_8_method_14_code, prog_8_method_15_code, prog_1_method_18_code, prog_14_method_41_code, prog_14_method_43_code, prog_14_method_51_code, prog_2_method_4_code, prog_2_method_3_code, prog_2_method_2_code, prog_1_method_19_code, prog_14_method_44_code, prog_14_method_45_code, prog_14_method_46_code, prog_14_method_47_code],
  [prog_14_method_48_code, prog_14_method_52_code, prog_1_method_36_code, prog_4_method_6_code, prog_1_method_37_code, prog_1_method_38_code, prog_1_method_39_code, prog_1_method_20_code, prog_14_method_24_code, prog_14_method_53_code, prog_14_method_54_code, prog_14_method_55_code, prog_14_method_56_code, prog_8_method_16_code, prog_15_method_49_code, prog_2_method_5_code],
  [prog_1_method_21_code, prog_14_method_57_code, prog_14_method_58_code, prog_1_method_22_code, prog_14_method_59_code, prog_12_method_3_code, prog_12_method_2_code, prog_12_method_4_code, prog_1_method_23_code, prog_14_method_60_code, prog_14_method_62_code, prog_12_method_5_code, prog_1_method_24_code, prog_14_method_63_code, prog_12_method_6_code, prog_1_method_25_code],
  [prog_14_method_61_code, prog_14_method_64_code, prog_1_method_33_code, prog_5_method_4_code, prog_5_method_2_code, prog_1_method_26_code, prog_14_method_65_code, prog_14_method_66_code, prog_14_method_67_code, prog_14_method_69_code, prog_5_method_6_code, prog_5_method_7_code, prog_5_method_5_code, prog_1_method_27_code, prog_14_method_68_code, prog_14_method_70_code],
  [prog_14_method_71_code, prog_14_method_72_code, prog_5_method_3_code, prog_5_method_8_code, prog_1_method_28_code, prog_14_method_73_code, prog_5_method_10_code, prog_5_method_9_code, prog_1_method_29_code, prog_14_method_74_code, prog_9_method_3_code, prog_9_method_4_code, prog_9_method_2_code, prog_9_method_5_code, prog_1_method_30_code, prog_14_method_75_code],
  [prog_14_method_76_code, prog_14_method_77_code, code]]
def byOf (id : Nat) : ByteArray := (byOfT.getD (id / 16) []).getD (id % 16) ⟨#[]⟩
def retOfT : List (List (Option FieldType)) := [[none, none, none, none, none, none, none, none, none, none, none, none, none, some .boolean, none, some .int],
  [some .int, some .boolean, some .int, some .boolean, some .boolean, some .boolean, none, some .int, some .boolean, none, some .int, some .boolean, some .boolean, none, some .int, some .int],
  [some .int, some .int, some .boolean, some .int, some .int, some .int, some .int, some .boolean, some .boolean, some .boolean, some .int, some .int, some .int, some .int, some .boolean, some .boolean],
  [some .int, some .int, some .int, some .boolean, some .int, some .int, some .int, some .int, some .int, some .int, some .int, some .int, some .int, some .int, some .int, some .boolean],
  [some .int, some .int, some .int, some .int, some .int, some .int, some .int, none, some .int, some .int, none, some .int, some .byte, some .int, some .boolean, some .int],
  [none, some .char, some .char, some .boolean, some .int, none, some .int, none, none, none, none, some .int, some .int, some .int, some .int, none],
  [some .long, some .int, some .int, some .int, some .int, some .int, some .int, some .int, some .int, some .int, some .int, some .int, some .int, some .boolean, none, some .int],
  [some .int, some .int, some .int, some .boolean, some .int, some .int, some .int, none, none, none, some .boolean, some .long, some .boolean, some .long, none, some .int],
  [some .long, some .int, some .int, some .int, some .int, some .boolean, some .int, some .int, none, some .int, none, some .int, none, none, some .int, some .boolean],
  [some .int, some .int, some .int, some .long, some .int, some .int, some .int, some .int, some .boolean, some .int, some .int, some .int, some .int, some .int, some .int, some .int],
  [some .int, some .int, some .int, some .int, some .int, none, none, none, some .int, none, some .int, some .int, some .int, some .int, some .int, some .int],
  [some .int, some .int, some .boolean, none, none, some .int, some .boolean, some .boolean, some .int, some .int, some .int, some .int, none, some .int, some .int, none],
  [some .int, some .int, none, some .int, some .int, some .int, none, some .int, some .int, some .int, some .int, some .boolean, none, some .int, some .int, some .int],
  [some .boolean, some .int, some .boolean]]
def retOf (id : Nat) : Option FieldType := (retOfT.getD (id / 16) []).getD (id % 16) none
def ownOfT : List (List (Nat)) := [[0, 1, 2, 3, 4, 5, 6, 7, 8, 9, 10, 11, 12, 11, 11, 1],
  [11, 12, 12, 1, 11, 0, 0, 11, 12, 12, 12, 0, 0, 0, 17, 11],
  [12, 12, 0, 11, 12, 12, 0, 1, 0, 0, 3, 3, 11, 12, 12, 12],
  [12, 12, 12, 0, 11, 12, 2, 11, 12, 12, 11, 12, 3, 11, 12, 3],
  [11, 12, 1, 2, 2, 11, 12, 4, 11, 12, 4, 4, 13, 13, 13, 15],
  [13, 14, 13, 4, 4, 4, 4, 4, 4, 4, 4, 4, 5, 11, 12, 12],
  [12, 12, 12, 12, 12, 12, 12, 12, 11, 12, 5, 5, 11, 12, 12, 12],
  [11, 6, 11, 12, 12, 12, 6, 6, 6, 6, 6, 6, 6, 6, 6, 11],
  [6, 6, 6, 6, 11, 12, 12, 12, 7, 7, 7, 11, 12, 12, 12, 12],
  [12, 12, 11, 3, 11, 11, 11, 11, 12, 12, 12, 12, 12, 6, 16, 7],
  [11, 12, 12, 11, 12, 8, 8, 8, 11, 12, 12, 8, 11, 12, 8, 11],
  [12, 12, 11, 9, 9, 11, 12, 12, 12, 12, 9, 9, 9, 11, 12, 12],
  [12, 12, 9, 9, 11, 12, 9, 9, 11, 12, 10, 10, 10, 10, 11, 12],
  [12, 12, 19]]
def ownOf (id : Nat) : Nat := (ownOfT.getD (id / 16) []).getD (id % 16) 0
def npOfT : List (List (Nat)) := [[0, 0, 0, 1, 0, 0, 3, 1, 3, 1, 0, 0, 0, 1, 0, 2],
  [2, 3, 2, 1, 1, 1, 1, 2, 1, 3, 2, 1, 0, 0, 1, 1],
  [1, 1, 2, 4, 2, 4, 0, 2, 4, 3, 1, 2, 2, 1, 2, 4],
  [1, 2, 2, 1, 2, 2, 2, 2, 1, 2, 2, 2, 4, 4, 4, 1],
  [1, 1, 0, 0, 0, 1, 1, 1, 2, 2, 0, 1, 0, 0, 0, 3],
  [2, 2, 1, 3, 2, 2, 0, 1, 1, 1, 2, 1, 3, 1, 0, 0],
  [6, 0, 2, 0, 3, 1, 2, 1, 0, 0, 1, 2, 2, 2, 1, 2],
  [2, 2, 2, 1, 2, 2, 1, 1, 1, 1, 0, 2, 2, 1, 1, 2],
  [2, 2, 3, 3, 4, 2, 5, 4, 2, 1, 1, 4, 2, 2, 3, 5],
  [4, 4, 0, 1, 1, 2, 1, 3, 2, 1, 1, 1, 3, 1, 1, 1],
  [2, 1, 2, 2, 2, 1, 0, 2, 3, 0, 3, 2, 2, 2, 1, 1],
  [1, 1, 1, 2, 2, 2, 5, 5, 2, 2, 2, 2, 2, 4, 3, 3],
  [2, 4, 1, 2, 2, 2, 2, 3, 3, 3, 2, 4, 2, 0, 3, 2],
  [4, 3, 1]]
def npOf (id : Nat) : Nat := (npOfT.getD (id / 16) []).getD (id % 16) 0
def rmT_T : List (List (Nat × Nat × Nat × Nat)) := [[(1, 32, 1, 60), (2, 52, 21, 660), (1, 32, 3, 603), (1, 32, 4, 120), (1, 32, 2, 127), (1, 32, 11, 80), (1, 32, 16, 996), (1, 32, 5, 302), (1, 32, 22, 1220), (1, 32, 13, 630), (1, 32, 4, 240), (3, 73, 111, 5045), (1, 32, 28, 7965), (1, 32, 0, 0), (1, 32, 0, 0), (1, 32, 0, 0)],
  [(2, 55, 0, 0), (1, 32, 0, 0), (2, 57, 0, 0), (1, 32, 0, 0), (1, 32, 0, 0), (1, 32, 0, 0), (1, 32, 0, 0), (2, 53, 0, 0), (2, 57, 0, 0), (1, 32, 0, 0), (3, 78, 0, 0), (1, 32, 0, 0), (2, 53, 0, 0), (1, 32, 0, 0), (1, 32, 0, 0), (3, 73, 0, 0)],
  [(1, 32, 0, 0), (3, 78, 0, 0), (1, 32, 0, 0), (2, 54, 0, 0), (1, 32, 0, 0), (3, 78, 0, 0), (3, 73, 0, 0), (1, 32, 0, 0), (1, 32, 0, 0), (2, 57, 0, 0), (3, 81, 0, 0), (4, 104, 0, 0), (5, 128, 0, 0), (2, 55, 0, 0), (1, 32, 0, 0), (2, 54, 0, 0)],
  [(3, 80, 0, 0), (4, 101, 0, 0), (5, 125, 0, 0), (1, 32, 0, 0), (2, 53, 0, 0), (3, 78, 0, 0), (1, 32, 0, 0), (2, 57, 0, 0), (1, 32, 0, 0), (2, 57, 0, 0), (2, 52, 0, 0), (2, 57, 0, 0), (1, 32, 0, 0), (2, 56, 0, 0), (3, 78, 0, 0), (1, 32, 0, 0)],
  [(4, 104, 0, 0), (4, 101, 0, 0), (1, 32, 0, 0), (1, 32, 0, 0), (1, 32, 0, 0), (2, 54, 0, 0), (2, 55, 0, 0), (1, 32, 0, 0), (2, 53, 0, 0), (2, 57, 0, 0), (1, 32, 0, 0), (1, 32, 0, 0), (1, 32, 0, 0), (2, 52, 0, 0), (1, 32, 0, 0), (1, 32, 0, 0)],
  [(2, 54, 0, 0), (3, 75, 0, 0), (4, 96, 0, 0), (5, 117, 0, 0), (6, 141, 0, 0), (1, 32, 0, 0), (2, 54, 0, 0), (3, 76, 0, 0), (6, 141, 0, 0), (3, 76, 0, 0), (7, 164, 0, 0), (8, 188, 0, 0), (1, 32, 0, 0), (9, 210, 0, 0), (1, 32, 0, 0), (2, 57, 0, 0)],
  [(1, 32, 0, 0), (2, 59, 0, 0), (1, 32, 0, 0), (3, 78, 0, 0), (2, 57, 0, 0), (1, 32, 0, 0), (4, 98, 0, 0), (5, 122, 0, 0), (1, 32, 0, 0), (1, 32, 0, 0), (1, 32, 0, 0), (2, 56, 0, 0), (3, 82, 0, 0), (1, 32, 0, 0), (2, 56, 0, 0), (3, 80, 0, 0)],
  [(2, 53, 0, 0), (3, 82, 0, 0), (4, 108, 0, 0), (2, 57, 0, 0), (2, 54, 0, 0), (3, 80, 0, 0), (1, 32, 0, 0), (3, 82, 0, 0), (2, 53, 0, 0), (1, 32, 0, 0), (1, 32, 0, 0), (1, 32, 0, 0), (1, 32, 0, 0), (2, 63, 0, 0), (4, 108, 0, 0), (5, 133, 0, 0)],
  [(1, 32, 0, 0), (2, 57, 0, 0), (1, 32, 0, 0), (3, 76, 0, 0), (6, 155, 0, 0), (1, 32, 0, 0), (2, 54, 0, 0), (3, 87, 0, 0), (1, 32, 0, 0), (2, 59, 0, 0), (3, 81, 0, 0), (6, 155, 0, 0), (3, 87, 0, 0), (1, 32, 0, 0), (1, 32, 0, 0), (2, 54, 0, 0)],
  [(3, 82, 0, 0), (4, 112, 0, 0), (2, 53, 0, 0), (4, 104, 0, 0), (5, 129, 0, 0), (1, 32, 0, 0), (6, 150, 0, 0), (7, 174, 0, 0), (4, 101, 0, 0), (5, 125, 0, 0), (6, 149, 0, 0), (7, 170, 0, 0), (8, 191, 0, 0), (1, 32, 0, 0), (1, 32, 0, 0), (3, 81, 0, 0)],
  [(6, 155, 0, 0), (1, 32, 0, 0), (4, 112, 0, 0), (7, 174, 0, 0), (8, 191, 0, 0), (5, 133, 0, 0), (6, 161, 0, 0), (1, 32, 0, 0), (7, 182, 0, 0), (4, 112, 0, 0), (5, 138, 0, 0), (2, 55, 0, 0), (7, 182, 0, 0), (5, 138, 0, 0), (2, 55, 0, 0), (7, 182, 0, 0)],
  [(1, 32, 0, 0), (5, 138, 0, 0), (1, 32, 0, 0), (1, 32, 0, 0), (2, 59, 0, 0), (3, 86, 0, 0), (2, 54, 0, 0), (3, 81, 0, 0), (4, 108, 0, 0), (5, 132, 0, 0), (1, 32, 0, 0), (1, 32, 0, 0), (2, 57, 0, 0), (3, 86, 0, 0), (4, 108, 0, 0), (5, 133, 0, 0)],
  [(1, 32, 0, 0), (6, 156, 0, 0), (3, 86, 0, 0), (4, 108, 0, 0), (5, 134, 0, 0), (6, 156, 0, 0), (1, 32, 0, 0), (4, 108, 0, 0), (5, 133, 0, 0), (6, 156, 0, 0), (2, 53, 0, 0), (2, 57, 0, 0), (3, 83, 0, 0), (1, 32, 0, 0), (4, 111, 0, 0), (1, 32, 0, 0)],
  [(3, 81, 0, 0), (4, 106, 0, 0), (12, 444, 600000, 7302250)]]
def rmT_ (id : Nat) : Nat × Nat × Nat × Nat := (rmT_T.getD (id / 16) []).getD (id % 16) (0, 0, 0, 0)
def mcOf (id : Nat) : Nat := (rmT_ id).2.2.1
def msOf (id : Nat) : Nat := (rmT_ id).2.2.2
def rmOf (id : Nat) : Room := { frames := (rmT_ id).1, cells := mcOf id, slots := msOf id, locals := (rmT_ id).2.1 }
def mkOK (id : Nat) : Prop := Jvm.Cond.code (yOf id) (byOf id) (mxL id) (retOf id) ∈ GW ∧ Jvm.Cond.initialized (yOf id).cls ∈ GW ∧ plainName (yOf id).cls = true ∧ ((yOf id).cls ≠ "java/lang/invoke/MethodHandle" ∧ (yOf id).cls ≠ "java/lang/invoke/VarHandle") ∧ (parseMethodDescriptor (yOf id).desc).map (fun d => d.parameters.length) = some (npOf id) ∧ (yOf id).cls = owN (ownOf id)
def mkL0 : List (Nat) := [0, 1, 2, 3, 4, 5, 6, 7, 8, 9, 10, 11, 12, 13, 14, 15, 16, 17, 18, 19, 20, 21, 22, 23, 24, 25, 26, 27, 28, 29, 30, 31]
set_option maxRecDepth 8000 in
theorem mkL0_ok : ∀ q ∈ mkL0, mkOK q := List.forall_mem_cons.mpr ⟨⟨(gw1 40 rfl rfl), (gw1 3 rfl rfl), by decide +kernel, ⟨by decide +kernel, by decide +kernel⟩, by decide +kernel, rfl⟩,
  List.forall_mem_cons.mpr ⟨⟨(gw1 33 rfl rfl), (gw1 2 rfl rfl), by decide +kernel, ⟨by decide +kernel, by decide +kernel⟩, by decide +kernel, rfl⟩,
  List.forall_mem_cons.mpr ⟨⟨(gw1 92 rfl rfl), (gw1 4 rfl rfl), by decide +kernel, ⟨by decide +kernel, by decide +kernel⟩, by decide +kernel, rfl⟩,
  List.forall_mem_cons.mpr ⟨⟨(gw1 113 rfl rfl), (gw1 5 rfl rfl), by decide +kernel, ⟨by decide +kernel, by decide +kernel⟩, by decide +kernel, rfl⟩,
  List.forall_mem_cons.mpr ⟨⟨(gw1 139 rfl rfl), (gw1 6 rfl rfl), by decide +kernel, ⟨by decide +kernel, by decide +kernel⟩, by decide +kernel, rfl⟩,
  List.forall_mem_cons.mpr ⟨⟨(gw1 171 rfl rfl), (gw1 7 rfl rfl), by decide +kernel, ⟨by decide +kernel, by decide +kernel⟩, by decide +kernel, rfl⟩,
  List.forall_mem_cons.mpr ⟨⟨(gw1 193 rfl rfl), (gw1 8 rfl rfl), by decide +kernel, ⟨by decide +kernel, by decide +kernel⟩, by decide +kernel, rfl⟩,
  List.forall_mem_cons.mpr ⟨⟨(gw2 11 rfl rfl), (gw1 9 rfl rfl), by decide +kernel, ⟨by decide +kernel, by decide +kernel⟩, by decide +kernel, rfl⟩,
  List.forall_mem_cons.mpr ⟨⟨(gw2 49 rfl rfl), (gw1 10 rfl rfl), by decide +kernel, ⟨by decide +kernel, by decide +kernel⟩, by decide +kernel, rfl⟩,
  List.forall_mem_cons.mpr ⟨⟨(gw2 91 rfl rfl), (gw1 11 rfl rfl), by decide +kernel, ⟨by decide +kernel, by decide +kernel⟩, by decide +kernel, rfl⟩,
  List.forall_mem_cons.mpr ⟨⟨(gw2 120 rfl rfl), (gw1 12 rfl rfl), by decide +kernel, ⟨by decide +kernel, by decide +kernel⟩, by decide +kernel, rfl⟩,
  List.forall_mem_cons.mpr ⟨⟨(gw1 25 rfl rfl), (gw1 1 rfl rfl), by decide +kernel, ⟨by decide +kernel, by decide +kernel⟩, by decide +kernel, rfl⟩,
  List.forall_mem_cons.mpr ⟨⟨(gw5 13 rfl rfl), (gw1 13 rfl rfl), by decide +kernel, ⟨by decide +kernel, by decide +kernel⟩, by decide +kernel, rfl⟩,
  List.forall_mem_cons.mpr ⟨⟨(gw2 180 rfl rfl), (gw1 1 rfl rfl), by decide +kernel, ⟨by decide +kernel, by decide +kernel⟩, by decide +kernel, rfl⟩,
  List.forall_mem_cons.mpr ⟨⟨(gw2 184 rfl rfl), (gw1 1 rfl rfl), by decide +kernel, ⟨by decide +kernel, by decide +kernel⟩, by decide +kernel, rfl⟩,
  List.forall_mem_cons.mpr ⟨⟨(gw2 188 rfl rfl), (gw1 2 rfl rfl), by decide +kernel, ⟨by decide +kernel, by decide +kernel⟩, by decide +kernel, rfl⟩,
  List.forall_mem_cons.mpr ⟨⟨(gw2 177 rfl rfl), (gw1 1 rfl rfl), by decide +kernel, ⟨by decide +kernel, by decide +kernel⟩, by decide +kernel, rfl⟩,
  List.forall_mem_cons.mpr ⟨⟨(gw5 149 rfl rfl), (gw1 13 rfl rfl), by decide +kernel, ⟨by decide +kernel, by decide +kernel⟩, by decide +kernel, rfl⟩,
  List.forall_mem_cons.mpr ⟨⟨(gw5 145 rfl rfl), (gw1 13 rfl rfl), by decide +kernel, ⟨by decide +kernel, by decide +kernel⟩, by decide +kernel, rfl⟩,
  List.forall_mem_cons.mpr ⟨⟨(gw2 196 rfl rfl), (gw1 2 rfl rfl), by decide +kernel, ⟨by decide +kernel, by decide +kernel⟩, by decide +kernel, rfl⟩,
  List.forall_mem_cons.mpr ⟨⟨(gw2 199 rfl rfl), (gw1 1 rfl rfl), by decide +kernel, ⟨by decide +kernel, by decide +kernel⟩, by decide +kernel, rfl⟩,
  List.forall_mem_cons.mpr ⟨⟨(gw2 203 rfl rfl), (gw1 3 rfl rfl), by decide +kernel, ⟨by decide +kernel, by decide +kernel⟩, by decide +kernel, rfl⟩,
  List.forall_mem_cons.mpr ⟨⟨(gw2 207 rfl rfl), (gw1 3 rfl rfl), by decide +kernel, ⟨by decide +kernel, by decide +kernel⟩, by decide +kernel, rfl⟩,
  List.forall_mem_cons.mpr ⟨⟨(gw2 192 rfl rfl), (gw1 1 rfl rfl), by decide +kernel, ⟨by decide +kernel, by decide +kernel⟩, by decide +kernel, rfl⟩,
  List.forall_mem_cons.mpr ⟨⟨(gw5 158 rfl rfl), (gw1 13 rfl rfl), by decide +kernel, ⟨by decide +kernel, by decide +kernel⟩, by decide +kernel, rfl⟩,
  List.forall_mem_cons.mpr ⟨⟨(gw5 163 rfl rfl), (gw1 13 rfl rfl), by decide +kernel, ⟨by decide +kernel, by decide +kernel⟩, by decide +kernel, rfl⟩,
  List.forall_mem_cons.mpr ⟨⟨(gw5 154 rfl rfl), (gw1 13 rfl rfl), by decide +kernel, ⟨by decide +kernel, by decide +kernel⟩, by decide +kernel, rfl⟩,
  List.forall_mem_cons.mpr ⟨⟨(gw2 219 rfl rfl), (gw1 3 rfl rfl), by decide +kernel, ⟨by decide +kernel, by decide +kernel⟩, by decide +kernel, rfl⟩,
  List.forall_mem_cons.mpr ⟨⟨(gw2 215 rfl rfl), (gw1 3 rfl rfl), by decide +kernel, ⟨by decide +kernel, by decide +kernel⟩, by decide +kernel, rfl⟩,
  List.forall_mem_cons.mpr ⟨⟨(gw2 223 rfl rfl), (gw1 3 rfl rfl), by decide +kernel, ⟨by decide +kernel, by decide +kernel⟩, by decide +kernel, rfl⟩,
  List.forall_mem_cons.mpr ⟨⟨(gw2 226 rfl rfl), (gw1 14 rfl rfl), by decide +kernel, ⟨by decide +kernel, by decide +kernel⟩, by decide +kernel, rfl⟩,
  List.forall_mem_cons.mpr ⟨⟨(gw2 211 rfl rfl), (gw1 1 rfl rfl), by decide +kernel, ⟨by decide +kernel, by decide +kernel⟩, by decide +kernel, rfl⟩,
  fun _ h => absurd h List.not_mem_nil⟩⟩⟩⟩⟩⟩⟩⟩⟩⟩⟩⟩⟩⟩⟩⟩⟩⟩⟩⟩⟩⟩⟩⟩⟩⟩⟩⟩⟩⟩⟩⟩
def mkL1 : List (Nat) := [32, 33, 34, 35, 36, 37, 38, 39, 40, 41, 42, 43, 44, 45, 46, 47, 48, 49, 50, 51, 52, 53, 54, 55, 56, 57, 58, 59, 60, 61, 62, 63]
set_option maxRecDepth 8000 in
theorem mkL1_ok : ∀ q ∈ mkL1, mkOK q := List.forall_mem_cons.mpr ⟨⟨(gw5 171 rfl rfl), (gw1 13 rfl rfl), by decide +kernel, ⟨by decide +kernel, by decide +kernel⟩, by decide +kernel, rfl⟩,
  List.forall_mem_cons.mpr ⟨⟨(gw5 167 rfl rfl), (gw1 13 rfl rfl), by decide +kernel, ⟨by decide +kernel, by decide +kernel⟩, by decide +kernel, rfl⟩,
  List.forall_mem_cons.mpr ⟨⟨(gw2 237 rfl rfl), (gw1 3 rfl rfl), by decide +kernel, ⟨by decide +kernel, by decide +kernel⟩, by decide +kernel, rfl⟩,
  List.forall_mem_cons.mpr ⟨⟨(gw2 233 rfl rfl), (gw1 1 rfl rfl), by decide +kernel, ⟨by decide +kernel, by decide +kernel⟩, by decide +kernel, rfl⟩,
  List.forall_mem_cons.mpr ⟨⟨(gw5 179 rfl rfl), (gw1 13 rfl rfl), by decide +kernel, ⟨by decide +kernel, by decide +kernel⟩, by decide +kernel, rfl⟩,
  List.forall_mem_cons.mpr ⟨⟨(gw5 175 rfl rfl), (gw1 13 rfl rfl), by decide +kernel, ⟨by decide +kernel, by decide +kernel⟩, by decide +kernel, rfl⟩,
  List.forall_mem_cons.mpr ⟨⟨(gw3 6 rfl rfl), (gw1 3 rfl rfl), by decide +kernel, ⟨by decide +kernel, by decide +kernel⟩, by decide +kernel, rfl⟩,
  List.forall_mem_cons.mpr ⟨⟨(gw3 20 rfl rfl), (gw1 2 rfl rfl), by decide +kernel, ⟨by decide +kernel, by decide +kernel⟩, by decide +kernel, rfl⟩,
  List.forall_mem_cons.mpr ⟨⟨(gw3 28 rfl rfl), (gw1 3 rfl rfl), by decide +kernel, ⟨by decide +kernel, by decide +kernel⟩, by decide +kernel, rfl⟩,
  List.forall_mem_cons.mpr ⟨⟨(gw3 24 rfl rfl), (gw1 3 rfl rfl), by decide +kernel, ⟨by decide +kernel, by decide +kernel⟩, by decide +kernel, rfl⟩,
  List.forall_mem_cons.mpr ⟨⟨(gw3 16 rfl rfl), (gw1 5 rfl rfl), by decide +kernel, ⟨by decide +kernel, by decide +kernel⟩, by decide +kernel, rfl⟩,
  List.forall_mem_cons.mpr ⟨⟨(gw3 12 rfl rfl), (gw1 5 rfl rfl), by decide +kernel, ⟨by decide +kernel, by decide +kernel⟩, by decide +kernel, rfl⟩,
  List.forall_mem_cons.mpr ⟨⟨(gw3 2 rfl rfl), (gw1 1 rfl rfl), by decide +kernel, ⟨by decide +kernel, by decide +kernel⟩, by decide +kernel, rfl⟩,
  List.forall_mem_cons.mpr ⟨⟨(gw5 187 rfl rfl), (gw1 13 rfl rfl), by decide +kernel, ⟨by decide +kernel, by decide +kernel⟩, by decide +kernel, rfl⟩,
  List.forall_mem_cons.mpr ⟨⟨(gw5 199 rfl rfl), (gw1 13 rfl rfl), by decide +kernel, ⟨by decide +kernel, by decide +kernel⟩, by decide +kernel, rfl⟩,
  List.forall_mem_cons.mpr ⟨⟨(gw5 203 rfl rfl), (gw1 13 rfl rfl), by decide +kernel, ⟨by decide +kernel, by decide +kernel⟩, by decide +kernel, rfl⟩,
  List.forall_mem_cons.mpr ⟨⟨(gw5 195 rfl rfl), (gw1 13 rfl rfl), by decide +kernel, ⟨by decide +kernel, by decide +kernel⟩, by decide +kernel, rfl⟩,
  List.forall_mem_cons.mpr ⟨⟨(gw5 191 rfl rfl), (gw1 13 rfl rfl), by decide +kernel, ⟨by decide +kernel, by decide +kernel⟩, by decide +kernel, rfl⟩,
  List.forall_mem_cons.mpr ⟨⟨(gw5 183 rfl rfl), (gw1 13 rfl rfl), by decide +kernel, ⟨by decide +kernel, by decide +kernel⟩, by decide +kernel, rfl⟩,
  List.forall_mem_cons.mpr ⟨⟨(gw3 36 rfl rfl), (gw1 3 rfl rfl), by decide +kernel, ⟨by decide +kernel, by decide +kernel⟩, by decide +kernel, rfl⟩,
  List.forall_mem_cons.mpr ⟨⟨(gw3 32 rfl rfl), (gw1 1 rfl rfl), by decide +kernel, ⟨by decide +kernel, by decide +kernel⟩, by decide +kernel, rfl⟩,
  List.forall_mem_cons.mpr ⟨⟨(gw5 207 rfl rfl), (gw1 13 rfl rfl), by decide +kernel, ⟨by decide +kernel, by decide +kernel⟩, by decide +kernel, rfl⟩,
  List.forall_mem_cons.mpr ⟨⟨(gw3 44 rfl rfl), (gw1 4 rfl rfl), by decide +kernel, ⟨by decide +kernel, by decide +kernel⟩, by decide +kernel, rfl⟩,
  List.forall_mem_cons.mpr ⟨⟨(gw3 40 rfl rfl), (gw1 1 rfl rfl), by decide +kernel, ⟨by decide +kernel, by decide +kernel⟩, by decide +kernel, rfl⟩,
  List.forall_mem_cons.mpr ⟨⟨(gw5 215 rfl rfl), (gw1 13 rfl rfl), by decide +kernel, ⟨by decide +kernel, by decide +kernel⟩, by decide +kernel, rfl⟩,
  List.forall_mem_cons.mpr ⟨⟨(gw5 211 rfl rfl), (gw1 13 rfl rfl), by decide +kernel, ⟨by decide +kernel, by decide +kernel⟩, by decide +kernel, rfl⟩,
  List.forall_mem_cons.mpr ⟨⟨(gw3 48 rfl rfl), (gw1 1 rfl rfl), by decide +kernel, ⟨by decide +kernel, by decide +kernel⟩, by decide +kernel, rfl⟩,
  List.forall_mem_cons.mpr ⟨⟨(gw5 219 rfl rfl), (gw1 13 rfl rfl), by decide +kernel, ⟨by decide +kernel, by decide +kernel⟩, by decide +kernel, rfl⟩,
  List.forall_mem_cons.mpr ⟨⟨(gw3 56 rfl rfl), (gw1 5 rfl rfl), by decide +kernel, ⟨by decide +kernel, by decide +kernel⟩, by decide +kernel, rfl⟩,
  List.forall_mem_cons.mpr ⟨⟨(gw3 52 rfl rfl), (gw1 1 rfl rfl), by decide +kernel, ⟨by decide +kernel, by decide +kernel⟩, by decide +kernel, rfl⟩,
  List.forall_mem_cons.mpr ⟨⟨(gw5 223 rfl rfl), (gw1 13 rfl rfl), by decide +kernel, ⟨by decide +kernel, by decide +kernel⟩, by decide +kernel, rfl⟩,
  List.forall_mem_cons.mpr ⟨⟨(gw3 64 rfl rfl), (gw1 5 rfl rfl), by decide +kernel, ⟨by decide +kernel, by decide +kernel⟩, by decide +kernel, rfl⟩,
  fun _ h => absurd h List.not_mem_nil⟩⟩⟩⟩⟩⟩⟩⟩⟩⟩⟩⟩⟩⟩⟩⟩⟩⟩⟩⟩⟩⟩⟩⟩⟩⟩⟩⟩⟩⟩⟩⟩
def mkL2 : List (Nat) := [64, 65, 66, 67, 68, 69, 70, 71, 72, 73, 74, 75, 76, 77, 78, 79, 80, 81, 82, 83, 84, 85, 86, 87, 88, 89, 90, 91, 92, 93, 94, 95]
set_option maxRecDepth 8000 in
theorem mkL2_ok : ∀ q ∈ mkL2, mkOK q := List.forall_mem_cons.mpr ⟨⟨(gw3 60 rfl rfl), (gw1 1 rfl rfl), by decide +kernel, ⟨by decide +kernel, by decide +kernel⟩, by decide +kernel, rfl⟩,
  List.forall_mem_cons.mpr ⟨⟨(gw5 227 rfl rfl), (gw1 13 rfl rfl), by decide +kernel, ⟨by decide +kernel, by decide +kernel⟩, by decide +kernel, rfl⟩,
  List.forall_mem_cons.mpr ⟨⟨(gw3 73 rfl rfl), (gw1 2 rfl rfl), by decide +kernel, ⟨by decide +kernel, by decide +kernel⟩, by decide +kernel, rfl⟩,
  List.forall_mem_cons.mpr ⟨⟨(gw3 77 rfl rfl), (gw1 4 rfl rfl), by decide +kernel, ⟨by decide +kernel, by decide +kernel⟩, by decide +kernel, rfl⟩,
  List.forall_mem_cons.mpr ⟨⟨(gw3 81 rfl rfl), (gw1 4 rfl rfl), by decide +kernel, ⟨by decide +kernel, by decide +kernel⟩, by decide +kernel, rfl⟩,
  List.forall_mem_cons.mpr ⟨⟨(gw3 69 rfl rfl), (gw1 1 rfl rfl), by decide +kernel, ⟨by decide +kernel, by decide +kernel⟩, by decide +kernel, rfl⟩,
  List.forall_mem_cons.mpr ⟨⟨(gw5 231 rfl rfl), (gw1 13 rfl rfl), by decide +kernel, ⟨by decide +kernel, by decide +kernel⟩, by decide +kernel, rfl⟩,
  List.forall_mem_cons.mpr ⟨⟨(gw3 90 rfl rfl), (gw1 6 rfl rfl), by decide +kernel, ⟨by decide +kernel, by decide +kernel⟩, by decide +kernel, rfl⟩,
  List.forall_mem_cons.mpr ⟨⟨(gw3 85 rfl rfl), (gw1 1 rfl rfl), by decide +kernel, ⟨by decide +kernel, by decide +kernel⟩, by decide +kernel, rfl⟩,
  List.forall_mem_cons.mpr ⟨⟨(gw5 235 rfl rfl), (gw1 13 rfl rfl), by decide +kernel, ⟨by decide +kernel, by decide +kernel⟩, by decide +kernel, rfl⟩,
  List.forall_mem_cons.mpr ⟨⟨(gw3 102 rfl rfl), (gw1 6 rfl rfl), by decide +kernel, ⟨by decide +kernel, by decide +kernel⟩, by decide +kernel, rfl⟩,
  List.forall_mem_cons.mpr ⟨⟨(gw3 110 rfl rfl), (gw1 6 rfl rfl), by decide +kernel, ⟨by decide +kernel, by decide +kernel⟩, by decide +kernel, rfl⟩,
  List.forall_mem_cons.mpr ⟨⟨(gw3 127 rfl rfl), (gw1 15 rfl rfl), by decide +kernel, ⟨by decide +kernel, by decide +kernel⟩, by decide +kernel, rfl⟩,
  List.forall_mem_cons.mpr ⟨⟨(gw3 123 rfl rfl), (gw1 15 rfl rfl), by decide +kernel, ⟨by decide +kernel, by decide +kernel⟩, by decide +kernel, rfl⟩,
  List.forall_mem_cons.mpr ⟨⟨(gw3 137 rfl rfl), (gw1 15 rfl rfl), by decide +kernel, ⟨by decide +kernel, by decide +kernel⟩, by decide +kernel, rfl⟩,
  List.forall_mem_cons.mpr ⟨⟨(gw3 148 rfl rfl), (gw1 17 rfl rfl), by decide +kernel, ⟨by decide +kernel, by decide +kernel⟩, by decide +kernel, rfl⟩,
  List.forall_mem_cons.mpr ⟨⟨(gw3 143 rfl rfl), (gw1 15 rfl rfl), by decide +kernel, ⟨by decide +kernel, by decide +kernel⟩, by decide +kernel, rfl⟩,
  List.forall_mem_cons.mpr ⟨⟨(gw3 140 rfl rfl), (gw1 16 rfl rfl), by decide +kernel, ⟨by decide +kernel, by decide +kernel⟩, by decide +kernel, rfl⟩,
  List.forall_mem_cons.mpr ⟨⟨(gw3 133 rfl rfl), (gw1 15 rfl rfl), by decide +kernel, ⟨by decide +kernel, by decide +kernel⟩, by decide +kernel, rfl⟩,
  List.forall_mem_cons.mpr ⟨⟨(gw3 119 rfl rfl), (gw1 6 rfl rfl), by decide +kernel, ⟨by decide +kernel, by decide +kernel⟩, by decide +kernel, rfl⟩,
  List.forall_mem_cons.mpr ⟨⟨(gw3 114 rfl rfl), (gw1 6 rfl rfl), by decide +kernel, ⟨by decide +kernel, by decide +kernel⟩, by decide +kernel, rfl⟩,
  List.forall_mem_cons.mpr ⟨⟨(gw3 178 rfl rfl), (gw1 6 rfl rfl), by decide +kernel, ⟨by decide +kernel, by decide +kernel⟩, by decide +kernel, rfl⟩,
  List.forall_mem_cons.mpr ⟨⟨(gw3 186 rfl rfl), (gw1 6 rfl rfl), by decide +kernel, ⟨by decide +kernel, by decide +kernel⟩, by decide +kernel, rfl⟩,
  List.forall_mem_cons.mpr ⟨⟨(gw3 182 rfl rfl), (gw1 6 rfl rfl), by decide +kernel, ⟨by decide +kernel, by decide +kernel⟩, by decide +kernel, rfl⟩,
  List.forall_mem_cons.mpr ⟨⟨(gw3 190 rfl rfl), (gw1 6 rfl rfl), by decide +kernel, ⟨by decide +kernel, by decide +kernel⟩, by decide +kernel, rfl⟩,
  List.forall_mem_cons.mpr ⟨⟨(gw3 196 rfl rfl), (gw1 6 rfl rfl), by decide +kernel, ⟨by decide +kernel, by decide +kernel⟩, by decide +kernel, rfl⟩,
  List.forall_mem_cons.mpr ⟨⟨(gw3 106 rfl rfl), (gw1 6 rfl rfl), by decide +kernel, ⟨by decide +kernel, by decide +kernel⟩, by decide +kernel, rfl⟩,
  List.forall_mem_cons.mpr ⟨⟨(gw3 98 rfl rfl), (gw1 6 rfl rfl), by decide +kernel, ⟨by decide +kernel, by decide +kernel⟩, by decide +kernel, rfl⟩,
  List.forall_mem_cons.mpr ⟨⟨(gw3 204 rfl rfl), (gw1 7 rfl rfl), by decide +kernel, ⟨by decide +kernel, by decide +kernel⟩, by decide +kernel, rfl⟩,
  List.forall_mem_cons.mpr ⟨⟨(gw3 94 rfl rfl), (gw1 1 rfl rfl), by decide +kernel, ⟨by decide +kernel, by decide +kernel⟩, by decide +kernel, rfl⟩,
  List.forall_mem_cons.mpr ⟨⟨(gw6 5 rfl rfl), (gw1 13 rfl rfl), by decide +kernel, ⟨by decide +kernel, by decide +kernel⟩, by decide +kernel, rfl⟩,
  List.forall_mem_cons.mpr ⟨⟨(gw6 13 rfl rfl), (gw1 13 rfl rfl), by decide +kernel, ⟨by decide +kernel, by decide +kernel⟩, by decide +kernel, rfl⟩,
  fun _ h => absurd h List.not_mem_nil⟩⟩⟩⟩⟩⟩⟩⟩⟩⟩⟩⟩⟩⟩⟩⟩⟩⟩⟩⟩⟩⟩⟩⟩⟩⟩⟩⟩⟩⟩⟩⟩
def mkL3 : List (Nat) := [96, 97, 98, 99, 100, 101, 102, 103, 104, 105, 106, 107, 108, 109, 110, 111, 112, 113, 114, 115, 116, 117, 118, 119, 120, 121, 122, 123, 124, 125, 126, 127]
set_option maxRecDepth 8000 in
theorem mkL3_ok : ∀ q ∈ mkL3, mkOK q := List.forall_mem_cons.mpr ⟨⟨(gw6 26 rfl rfl), (gw1 13 rfl rfl), by decide +kernel, ⟨by decide +kernel, by decide +kernel⟩, by decide +kernel, rfl⟩,
  List.forall_mem_cons.mpr ⟨⟨(gw6 23 rfl rfl), (gw1 13 rfl rfl), by decide +kernel, ⟨by decide +kernel, by decide +kernel⟩, by decide +kernel, rfl⟩,
  List.forall_mem_cons.mpr ⟨⟨(gw6 30 rfl rfl), (gw1 13 rfl rfl), by decide +kernel, ⟨by decide +kernel, by decide +kernel⟩, by decide +kernel, rfl⟩,
  List.forall_mem_cons.mpr ⟨⟨(gw6 34 rfl rfl), (gw1 13 rfl rfl), by decide +kernel, ⟨by decide +kernel, by decide +kernel⟩, by decide +kernel, rfl⟩,
  List.forall_mem_cons.mpr ⟨⟨(gw6 38 rfl rfl), (gw1 13 rfl rfl), by decide +kernel, ⟨by decide +kernel, by decide +kernel⟩, by decide +kernel, rfl⟩,
  List.forall_mem_cons.mpr ⟨⟨(gw6 43 rfl rfl), (gw1 13 rfl rfl), by decide +kernel, ⟨by decide +kernel, by decide +kernel⟩, by decide +kernel, rfl⟩,
  List.forall_mem_cons.mpr ⟨⟨(gw6 9 rfl rfl), (gw1 13 rfl rfl), by decide +kernel, ⟨by decide +kernel, by decide +kernel⟩, by decide +kernel, rfl⟩,
  List.forall_mem_cons.mpr ⟨⟨(gw6 1 rfl rfl), (gw1 13 rfl rfl), by decide +kernel, ⟨by decide +kernel, by decide +kernel⟩, by decide +kernel, rfl⟩,
  List.forall_mem_cons.mpr ⟨⟨(gw3 209 rfl rfl), (gw1 1 rfl rfl), by decide +kernel, ⟨by decide +kernel, by decide +kernel⟩, by decide +kernel, rfl⟩,
  List.forall_mem_cons.mpr ⟨⟨(gw6 47 rfl rfl), (gw1 13 rfl rfl), by decide +kernel, ⟨by decide +kernel, by decide +kernel⟩, by decide +kernel, rfl⟩,
  List.forall_mem_cons.mpr ⟨⟨(gw3 221 rfl rfl), (gw1 7 rfl rfl), by decide +kernel, ⟨by decide +kernel, by decide +kernel⟩, by decide +kernel, rfl⟩,
  List.forall_mem_cons.mpr ⟨⟨(gw3 217 rfl rfl), (gw1 7 rfl rfl), by decide +kernel, ⟨by decide +kernel, by decide +kernel⟩, by decide +kernel, rfl⟩,
  List.forall_mem_cons.mpr ⟨⟨(gw3 213 rfl rfl), (gw1 1 rfl rfl), by decide +kernel, ⟨by decide +kernel, by decide +kernel⟩, by decide +kernel, rfl⟩,
  List.forall_mem_cons.mpr ⟨⟨(gw6 60 rfl rfl), (gw1 13 rfl rfl), by decide +kernel, ⟨by decide +kernel, by decide +kernel⟩, by decide +kernel, rfl⟩,
  List.forall_mem_cons.mpr ⟨⟨(gw6 56 rfl rfl), (gw1 13 rfl rfl), by decide +kernel, ⟨by decide +kernel, by decide +kernel⟩, by decide +kernel, rfl⟩,
  List.forall_mem_cons.mpr ⟨⟨(gw6 51 rfl rfl), (gw1 13 rfl rfl), by decide +kernel, ⟨by decide +kernel, by decide +kernel⟩, by decide +kernel, rfl⟩,
  List.forall_mem_cons.mpr ⟨⟨(gw3 231 rfl rfl), (gw1 1 rfl rfl), by decide +kernel, ⟨by decide +kernel, by decide +kernel⟩, by decide +kernel, rfl⟩,
  List.forall_mem_cons.mpr ⟨⟨(gw3 235 rfl rfl), (gw1 8 rfl rfl), by decide +kernel, ⟨by decide +kernel, by decide +kernel⟩, by decide +kernel, rfl⟩,
  List.forall_mem_cons.mpr ⟨⟨(gw3 227 rfl rfl), (gw1 1 rfl rfl), by decide +kernel, ⟨by decide +kernel, by decide +kernel⟩, by decide +kernel, rfl⟩,
  List.forall_mem_cons.mpr ⟨⟨(gw6 68 rfl rfl), (gw1 13 rfl rfl), by decide +kernel, ⟨by decide +kernel, by decide +kernel⟩, by decide +kernel, rfl⟩,
  List.forall_mem_cons.mpr ⟨⟨(gw6 72 rfl rfl), (gw1 13 rfl rfl), by decide +kernel, ⟨by decide +kernel, by decide +kernel⟩, by decide +kernel, rfl⟩,
  List.forall_mem_cons.mpr ⟨⟨(gw6 64 rfl rfl), (gw1 13 rfl rfl), by decide +kernel, ⟨by decide +kernel, by decide +kernel⟩, by decide +kernel, rfl⟩,
  List.forall_mem_cons.mpr ⟨⟨(gw4 17 rfl rfl), (gw1 8 rfl rfl), by decide +kernel, ⟨by decide +kernel, by decide +kernel⟩, by decide +kernel, rfl⟩,
  List.forall_mem_cons.mpr ⟨⟨(gw4 13 rfl rfl), (gw1 8 rfl rfl), by decide +kernel, ⟨by decide +kernel, by decide +kernel⟩, by decide +kernel, rfl⟩,
  List.forall_mem_cons.mpr ⟨⟨(gw4 22 rfl rfl), (gw1 8 rfl rfl), by decide +kernel, ⟨by decide +kernel, by decide +kernel⟩, by decide +kernel, rfl⟩,
  List.forall_mem_cons.mpr ⟨⟨(gw4 30 rfl rfl), (gw1 8 rfl rfl), by decide +kernel, ⟨by decide +kernel, by decide +kernel⟩, by decide +kernel, rfl⟩,
  List.forall_mem_cons.mpr ⟨⟨(gw4 34 rfl rfl), (gw1 8 rfl rfl), by decide +kernel, ⟨by decide +kernel, by decide +kernel⟩, by decide +kernel, rfl⟩,
  List.forall_mem_cons.mpr ⟨⟨(gw4 38 rfl rfl), (gw1 8 rfl rfl), by decide +kernel, ⟨by decide +kernel, by decide +kernel⟩, by decide +kernel, rfl⟩,
  List.forall_mem_cons.mpr ⟨⟨(gw4 43 rfl rfl), (gw1 8 rfl rfl), by decide +kernel, ⟨by decide +kernel, by decide +kernel⟩, by decide +kernel, rfl⟩,
  List.forall_mem_cons.mpr ⟨⟨(gw4 26 rfl rfl), (gw1 8 rfl rfl), by decide +kernel, ⟨by decide +kernel, by decide +kernel⟩, by decide +kernel, rfl⟩,
  List.forall_mem_cons.mpr ⟨⟨(gw4 9 rfl rfl), (gw1 8 rfl rfl), by decide +kernel, ⟨by decide +kernel, by decide +kernel⟩, by decide +kernel, rfl⟩,
  List.forall_mem_cons.mpr ⟨⟨(gw4 5 rfl rfl), (gw1 1 rfl rfl), by decide +kernel, ⟨by decide +kernel, by decide +kernel⟩, by decide +kernel, rfl⟩,
  fun _ h => absurd h List.not_mem_nil⟩⟩⟩⟩⟩⟩⟩⟩⟩⟩⟩⟩⟩⟩⟩⟩⟩⟩⟩⟩⟩⟩⟩⟩⟩⟩⟩⟩⟩⟩⟩⟩
def mkL4 : List (Nat) := [128, 129, 130, 131, 132, 133, 134, 135, 136, 137, 138, 139, 140, 141, 142, 143, 144, 145, 146, 147, 148, 149, 150, 151, 152, 153, 154, 155, 156, 157, 158, 159]
set_option maxRecDepth 8000 in
theorem mkL4_ok : ∀ q ∈ mkL4, mkOK q := List.forall_mem_cons.mpr ⟨⟨(gw4 51 rfl rfl), (gw1 8 rfl rfl), by decide +kernel, ⟨by decide +kernel, by decide +kernel⟩, by decide +kernel, rfl⟩,
  List.forall_mem_cons.mpr ⟨⟨(gw4 47 rfl rfl), (gw1 8 rfl rfl), by decide +kernel, ⟨by decide +kernel, by decide +kernel⟩, by decide +kernel, rfl⟩,
  List.forall_mem_cons.mpr ⟨⟨(gw4 58 rfl rfl), (gw1 8 rfl rfl), by decide +kernel, ⟨by decide +kernel, by decide +kernel⟩, by decide +kernel, rfl⟩,
  List.forall_mem_cons.mpr ⟨⟨(gw4 62 rfl rfl), (gw1 8 rfl rfl), by decide +kernel, ⟨by decide +kernel, by decide +kernel⟩, by decide +kernel, rfl⟩,
  List.forall_mem_cons.mpr ⟨⟨(gw4 1 rfl rfl), (gw1 1 rfl rfl), by decide +kernel, ⟨by decide +kernel, by decide +kernel⟩, by decide +kernel, rfl⟩,
  List.forall_mem_cons.mpr ⟨⟨(gw6 85 rfl rfl), (gw1 13 rfl rfl), by decide +kernel, ⟨by decide +kernel, by decide +kernel⟩, by decide +kernel, rfl⟩,
  List.forall_mem_cons.mpr ⟨⟨(gw6 81 rfl rfl), (gw1 13 rfl rfl), by decide +kernel, ⟨by decide +kernel, by decide +kernel⟩, by decide +kernel, rfl⟩,
  List.forall_mem_cons.mpr ⟨⟨(gw6 76 rfl rfl), (gw1 13 rfl rfl), by decide +kernel, ⟨by decide +kernel, by decide +kernel⟩, by decide +kernel, rfl⟩,
  List.forall_mem_cons.mpr ⟨⟨(gw4 80 rfl rfl), (gw1 9 rfl rfl), by decide +kernel, ⟨by decide +kernel, by decide +kernel⟩, by decide +kernel, rfl⟩,
  List.forall_mem_cons.mpr ⟨⟨(gw4 75 rfl rfl), (gw1 9 rfl rfl), by decide +kernel, ⟨by decide +kernel, by decide +kernel⟩, by decide +kernel, rfl⟩,
  List.forall_mem_cons.mpr ⟨⟨(gw4 71 rfl rfl), (gw1 9 rfl rfl), by decide +kernel, ⟨by decide +kernel, by decide +kernel⟩, by decide +kernel, rfl⟩,
  List.forall_mem_cons.mpr ⟨⟨(gw4 67 rfl rfl), (gw1 1 rfl rfl), by decide +kernel, ⟨by decide +kernel, by decide +kernel⟩, by decide +kernel, rfl⟩,
  List.forall_mem_cons.mpr ⟨⟨(gw6 94 rfl rfl), (gw1 13 rfl rfl), by decide +kernel, ⟨by decide +kernel, by decide +kernel⟩, by decide +kernel, rfl⟩,
  List.forall_mem_cons.mpr ⟨⟨(gw6 98 rfl rfl), (gw1 13 rfl rfl), by decide +kernel, ⟨by decide +kernel, by decide +kernel⟩, by decide +kernel, rfl⟩,
  List.forall_mem_cons.mpr ⟨⟨(gw6 102 rfl rfl), (gw1 13 rfl rfl), by decide +kernel, ⟨by decide +kernel, by decide +kernel⟩, by decide +kernel, rfl⟩,
  List.forall_mem_cons.mpr ⟨⟨(gw6 110 rfl rfl), (gw1 13 rfl rfl), by decide +kernel, ⟨by decide +kernel, by decide +kernel⟩, by decide +kernel, rfl⟩,
  List.forall_mem_cons.mpr ⟨⟨(gw6 106 rfl rfl), (gw1 13 rfl rfl), by decide +kernel, ⟨by decide +kernel, by decide +kernel⟩, by decide +kernel, rfl⟩,
  List.forall_mem_cons.mpr ⟨⟨(gw6 89 rfl rfl), (gw1 13 rfl rfl), by decide +kernel, ⟨by decide +kernel, by decide +kernel⟩, by decide +kernel, rfl⟩,
  List.forall_mem_cons.mpr ⟨⟨(gw4 88 rfl rfl), (gw1 1 rfl rfl), by decide +kernel, ⟨by decide +kernel, by decide +kernel⟩, by decide +kernel, rfl⟩,
  List.forall_mem_cons.mpr ⟨⟨(gw4 96 rfl rfl), (gw1 5 rfl rfl), by decide +kernel, ⟨by decide +kernel, by decide +kernel⟩, by decide +kernel, rfl⟩,
  List.forall_mem_cons.mpr ⟨⟨(gw4 92 rfl rfl), (gw1 1 rfl rfl), by decide +kernel, ⟨by decide +kernel, by decide +kernel⟩, by decide +kernel, rfl⟩,
  List.forall_mem_cons.mpr ⟨⟨(gw4 101 rfl rfl), (gw1 1 rfl rfl), by decide +kernel, ⟨by decide +kernel, by decide +kernel⟩, by decide +kernel, rfl⟩,
  List.forall_mem_cons.mpr ⟨⟨(gw4 105 rfl rfl), (gw1 1 rfl rfl), by decide +kernel, ⟨by decide +kernel, by decide +kernel⟩, by decide +kernel, rfl⟩,
  List.forall_mem_cons.mpr ⟨⟨(gw4 84 rfl rfl), (gw1 1 rfl rfl), by decide +kernel, ⟨by decide +kernel, by decide +kernel⟩, by decide +kernel, rfl⟩,
  List.forall_mem_cons.mpr ⟨⟨(gw6 122 rfl rfl), (gw1 13 rfl rfl), by decide +kernel, ⟨by decide +kernel, by decide +kernel⟩, by decide +kernel, rfl⟩,
  List.forall_mem_cons.mpr ⟨⟨(gw6 118 rfl rfl), (gw1 13 rfl rfl), by decide +kernel, ⟨by decide +kernel, by decide +kernel⟩, by decide +kernel, rfl⟩,
  List.forall_mem_cons.mpr ⟨⟨(gw6 126 rfl rfl), (gw1 13 rfl rfl), by decide +kernel, ⟨by decide +kernel, by decide +kernel⟩, by decide +kernel, rfl⟩,
  List.forall_mem_cons.mpr ⟨⟨(gw6 130 rfl rfl), (gw1 13 rfl rfl), by decide +kernel, ⟨by decide +kernel, by decide +kernel⟩, by decide +kernel, rfl⟩,
  List.forall_mem_cons.mpr ⟨⟨(gw6 114 rfl rfl), (gw1 13 rfl rfl), by decide +kernel, ⟨by decide +kernel, by decide +kernel⟩, by decide +kernel, rfl⟩,
  List.forall_mem_cons.mpr ⟨⟨(gw4 117 rfl rfl), (gw1 8 rfl rfl), by decide +kernel, ⟨by decide +kernel, by decide +kernel⟩, by decide +kernel, rfl⟩,
  List.forall_mem_cons.mpr ⟨⟨(gw4 120 rfl rfl), (gw1 20 rfl rfl), by decide +kernel, ⟨by decide +kernel, by decide +kernel⟩, by decide +kernel, rfl⟩,
  List.forall_mem_cons.mpr ⟨⟨(gw4 113 rfl rfl), (gw1 9 rfl rfl), by decide +kernel, ⟨by decide +kernel, by decide +kernel⟩, by decide +kernel, rfl⟩,
  fun _ h => absurd h List.not_mem_nil⟩⟩⟩⟩⟩⟩⟩⟩⟩⟩⟩⟩⟩⟩⟩⟩⟩⟩⟩⟩⟩⟩⟩⟩⟩⟩⟩⟩⟩⟩⟩⟩
def mkL5 : List (Nat) := [160, 161, 162, 163, 164, 165, 166, 167, 168, 169, 170, 171, 172, 173, 174, 175, 176, 177, 178, 179, 180, 181, 182, 183, 184, 185, 186, 187, 188, 189, 190, 191]
set_option maxRecDepth 8000 in
theorem mkL5_ok : ∀ q ∈ mkL5, mkOK q := List.forall_mem_cons.mpr ⟨⟨(gw4 109 rfl rfl), (gw1 1 rfl rfl), by decide +kernel, ⟨by decide +kernel, by decide +kernel⟩, by decide +kernel, rfl⟩,
  List.forall_mem_cons.mpr ⟨⟨(gw6 137 rfl rfl), (gw1 13 rfl rfl), by decide +kernel, ⟨by decide +kernel, by decide +kernel⟩, by decide +kernel, rfl⟩,
  List.forall_mem_cons.mpr ⟨⟨(gw6 134 rfl rfl), (gw1 13 rfl rfl), by decide +kernel, ⟨by decide +kernel, by decide +kernel⟩, by decide +kernel, rfl⟩,
  List.forall_mem_cons.mpr ⟨⟨(gw4 127 rfl rfl), (gw1 1 rfl rfl), by decide +kernel, ⟨by decide +kernel, by decide +kernel⟩, by decide +kernel, rfl⟩,
  List.forall_mem_cons.mpr ⟨⟨(gw6 141 rfl rfl), (gw1 13 rfl rfl), by decide +kernel, ⟨by decide +kernel, by decide +kernel⟩, by decide +kernel, rfl⟩,
  List.forall_mem_cons.mpr ⟨⟨(gw4 139 rfl rfl), (gw1 10 rfl rfl), by decide +kernel, ⟨by decide +kernel, by decide +kernel⟩, by decide +kernel, rfl⟩,
  List.forall_mem_cons.mpr ⟨⟨(gw4 135 rfl rfl), (gw1 10 rfl rfl), by decide +kernel, ⟨by decide +kernel, by decide +kernel⟩, by decide +kernel, rfl⟩,
  List.forall_mem_cons.mpr ⟨⟨(gw4 148 rfl rfl), (gw1 10 rfl rfl), by decide +kernel, ⟨by decide +kernel, by decide +kernel⟩, by decide +kernel, rfl⟩,
  List.forall_mem_cons.mpr ⟨⟨(gw4 131 rfl rfl), (gw1 1 rfl rfl), by decide +kernel, ⟨by decide +kernel, by decide +kernel⟩, by decide +kernel, rfl⟩,
  List.forall_mem_cons.mpr ⟨⟨(gw6 149 rfl rfl), (gw1 13 rfl rfl), by decide +kernel, ⟨by decide +kernel, by decide +kernel⟩, by decide +kernel, rfl⟩,
  List.forall_mem_cons.mpr ⟨⟨(gw6 145 rfl rfl), (gw1 13 rfl rfl), by decide +kernel, ⟨by decide +kernel, by decide +kernel⟩, by decide +kernel, rfl⟩,
  List.forall_mem_cons.mpr ⟨⟨(gw4 156 rfl rfl), (gw1 10 rfl rfl), by decide +kernel, ⟨by decide +kernel, by decide +kernel⟩, by decide +kernel, rfl⟩,
  List.forall_mem_cons.mpr ⟨⟨(gw4 152 rfl rfl), (gw1 1 rfl rfl), by decide +kernel, ⟨by decide +kernel, by decide +kernel⟩, by decide +kernel, rfl⟩,
  List.forall_mem_cons.mpr ⟨⟨(gw6 153 rfl rfl), (gw1 13 rfl rfl), by decide +kernel, ⟨by decide +kernel, by decide +kernel⟩, by decide +kernel, rfl⟩,
  List.forall_mem_cons.mpr ⟨⟨(gw4 165 rfl rfl), (gw1 10 rfl rfl), by decide +kernel, ⟨by decide +kernel, by decide +kernel⟩, by decide +kernel, rfl⟩,
  List.forall_mem_cons.mpr ⟨⟨(gw4 161 rfl rfl), (gw1 1 rfl rfl), by decide +kernel, ⟨by decide +kernel, by decide +kernel⟩, by decide +kernel, rfl⟩,
  List.forall_mem_cons.mpr ⟨⟨(gw6 161 rfl rfl), (gw1 13 rfl rfl), by decide +kernel, ⟨by decide +kernel, by decide +kernel⟩, by decide +kernel, rfl⟩,
  List.forall_mem_cons.mpr ⟨⟨(gw6 157 rfl rfl), (gw1 13 rfl rfl), by decide +kernel, ⟨by decide +kernel, by decide +kernel⟩, by decide +kernel, rfl⟩,
  List.forall_mem_cons.mpr ⟨⟨(gw4 172 rfl rfl), (gw1 1 rfl rfl), by decide +kernel, ⟨by decide +kernel, by decide +kernel⟩, by decide +kernel, rfl⟩,
  List.forall_mem_cons.mpr ⟨⟨(gw4 181 rfl rfl), (gw1 11 rfl rfl), by decide +kernel, ⟨by decide +kernel, by decide +kernel⟩, by decide +kernel, rfl⟩,
  List.forall_mem_cons.mpr ⟨⟨(gw4 176 rfl rfl), (gw1 11 rfl rfl), by decide +kernel, ⟨by decide +kernel, by decide +kernel⟩, by decide +kernel, rfl⟩,
  List.forall_mem_cons.mpr ⟨⟨(gw4 169 rfl rfl), (gw1 1 rfl rfl), by decide +kernel, ⟨by decide +kernel, by decide +kernel⟩, by decide +kernel, rfl⟩,
  List.forall_mem_cons.mpr ⟨⟨(gw6 178 rfl rfl), (gw1 13 rfl rfl), by decide +kernel, ⟨by decide +kernel, by decide +kernel⟩, by decide +kernel, rfl⟩,
  List.forall_mem_cons.mpr ⟨⟨(gw6 174 rfl rfl), (gw1 13 rfl rfl), by decide +kernel, ⟨by decide +kernel, by decide +kernel⟩, by decide +kernel, rfl⟩,
  List.forall_mem_cons.mpr ⟨⟨(gw6 170 rfl rfl), (gw1 13 rfl rfl), by decide +kernel, ⟨by decide +kernel, by decide +kernel⟩, by decide +kernel, rfl⟩,
  List.forall_mem_cons.mpr ⟨⟨(gw6 165 rfl rfl), (gw1 13 rfl rfl), by decide +kernel, ⟨by decide +kernel, by decide +kernel⟩, by decide +kernel, rfl⟩,
  List.forall_mem_cons.mpr ⟨⟨(gw4 193 rfl rfl), (gw1 11 rfl rfl), by decide +kernel, ⟨by decide +kernel, by decide +kernel⟩, by decide +kernel, rfl⟩,
  List.forall_mem_cons.mpr ⟨⟨(gw4 196 rfl rfl), (gw1 11 rfl rfl), by decide +kernel, ⟨by decide +kernel, by decide +kernel⟩, by decide +kernel, rfl⟩,
  List.forall_mem_cons.mpr ⟨⟨(gw4 189 rfl rfl), (gw1 11 rfl rfl), by decide +kernel, ⟨by decide +kernel, by decide +kernel⟩, by decide +kernel, rfl⟩,
  List.forall_mem_cons.mpr ⟨⟨(gw4 185 rfl rfl), (gw1 1 rfl rfl), by decide +kernel, ⟨by decide +kernel, by decide +kernel⟩, by decide +kernel, rfl⟩,
  List.forall_mem_cons.mpr ⟨⟨(gw6 190 rfl rfl), (gw1 13 rfl rfl), by decide +kernel, ⟨by decide +kernel, by decide +kernel⟩, by decide +kernel, rfl⟩,
  List.forall_mem_cons.mpr ⟨⟨(gw6 186 rfl rfl), (gw1 13 rfl rfl), by decide +kernel, ⟨by decide +kernel, by decide +kernel⟩, by decide +kernel, rfl⟩,
  fun _ h => absurd h List.not_mem_nil⟩⟩⟩⟩⟩⟩⟩⟩⟩⟩⟩⟩⟩⟩⟩⟩⟩⟩⟩⟩⟩⟩⟩⟩⟩⟩⟩⟩⟩⟩⟩⟩
def mkL6 : List (Nat) := [192, 193, 194, 195, 196, 197, 198, 199, 200, 201, 202, 203, 204, 205, 206, 207, 208, 209]
set_option maxRecDepth 8000 in
theorem mkL6_ok : ∀ q ∈ mkL6, mkOK q := List.forall_mem_cons.mpr ⟨⟨(gw6 193 rfl rfl), (gw1 13 rfl rfl), by decide +kernel, ⟨by decide +kernel, by decide +kernel⟩, by decide +kernel, rfl⟩,
  List.forall_mem_cons.mpr ⟨⟨(gw6 182 rfl rfl), (gw1 13 rfl rfl), by decide +kernel, ⟨by decide +kernel, by decide +kernel⟩, by decide +kernel, rfl⟩,
  List.forall_mem_cons.mpr ⟨⟨(gw4 208 rfl rfl), (gw1 11 rfl rfl), by decide +kernel, ⟨by decide +kernel, by decide +kernel⟩, by decide +kernel, rfl⟩,
  List.forall_mem_cons.mpr ⟨⟨(gw4 204 rfl rfl), (gw1 11 rfl rfl), by decide +kernel, ⟨by decide +kernel, by decide +kernel⟩, by decide +kernel, rfl⟩,
  List.forall_mem_cons.mpr ⟨⟨(gw4 200 rfl rfl), (gw1 1 rfl rfl), by decide +kernel, ⟨by decide +kernel, by decide +kernel⟩, by decide +kernel, rfl⟩,
  List.forall_mem_cons.mpr ⟨⟨(gw6 197 rfl rfl), (gw1 13 rfl rfl), by decide +kernel, ⟨by decide +kernel, by decide +kernel⟩, by decide +kernel, rfl⟩,
  List.forall_mem_cons.mpr ⟨⟨(gw4 222 rfl rfl), (gw1 11 rfl rfl), by decide +kernel, ⟨by decide +kernel, by decide +kernel⟩, by decide +kernel, rfl⟩,
  List.forall_mem_cons.mpr ⟨⟨(gw4 218 rfl rfl), (gw1 11 rfl rfl), by decide +kernel, ⟨by decide +kernel, by decide +kernel⟩, by decide +kernel, rfl⟩,
  List.forall_mem_cons.mpr ⟨⟨(gw4 214 rfl rfl), (gw1 1 rfl rfl), by decide +kernel, ⟨by decide +kernel, by decide +kernel⟩, by decide +kernel, rfl⟩,
  List.forall_mem_cons.mpr ⟨⟨(gw6 201 rfl rfl), (gw1 13 rfl rfl), by decide +kernel, ⟨by decide +kernel, by decide +kernel⟩, by decide +kernel, rfl⟩,
  List.forall_mem_cons.mpr ⟨⟨(gw4 237 rfl rfl), (gw1 12 rfl rfl), by decide +kernel, ⟨by decide +kernel, by decide +kernel⟩, by decide +kernel, rfl⟩,
  List.forall_mem_cons.mpr ⟨⟨(gw5 2 rfl rfl), (gw1 12 rfl rfl), by decide +kernel, ⟨by decide +kernel, by decide +kernel⟩, by decide +kernel, rfl⟩,
  List.forall_mem_cons.mpr ⟨⟨(gw4 234 rfl rfl), (gw1 12 rfl rfl), by decide +kernel, ⟨by decide +kernel, by decide +kernel⟩, by decide +kernel, rfl⟩,
  List.forall_mem_cons.mpr ⟨⟨(gw5 7 rfl rfl), (gw1 12 rfl rfl), by decide +kernel, ⟨by decide +kernel, by decide +kernel⟩, by decide +kernel, rfl⟩,
  List.forall_mem_cons.mpr ⟨⟨(gw4 230 rfl rfl), (gw1 1 rfl rfl), by decide +kernel, ⟨by decide +kernel, by decide +kernel⟩, by decide +kernel, rfl⟩,
  List.forall_mem_cons.mpr ⟨⟨(gw6 210 rfl rfl), (gw1 13 rfl rfl), by decide +kernel, ⟨by decide +kernel, by decide +kernel⟩, by decide +kernel, rfl⟩,
  List.forall_mem_cons.mpr ⟨⟨(gw6 214 rfl rfl), (gw1 13 rfl rfl), by decide +kernel, ⟨by decide +kernel, by decide +kernel⟩, by decide +kernel, rfl⟩,
  List.forall_mem_cons.mpr ⟨⟨(gw6 206 rfl rfl), (gw1 13 rfl rfl), by decide +kernel, ⟨by decide +kernel, by decide +kernel⟩, by decide +kernel, rfl⟩,
  fun _ h => absurd h List.not_mem_nil⟩⟩⟩⟩⟩⟩⟩⟩⟩⟩⟩⟩⟩⟩⟩⟩⟩⟩
def mkL : List Nat := mkL0 ++ mkL1 ++ mkL2 ++ mkL3 ++ mkL4 ++ mkL5 ++ mkL6
theorem mkL_ok : ∀ q ∈ mkL, mkOK q := fun q => fun h => (List.mem_append.mp h).elim (fun h => (List.mem_append.mp h).elim (fun h => (List.mem_append.mp h).elim (fun h => (List.mem_append.mp h).elim (fun h => (List.mem_append.mp h).elim (fun h => (List.mem_append.mp h).elim (mkL0_ok q) (mkL1_ok q)) (mkL2_ok q)) (mkL3_ok q)) (mkL4_ok q)) (mkL5_ok q)) (mkL6_ok q)
def vtL0 : List (Nat) := [14, 15, 16, 18, 19, 21, 22, 23, 24, 25, 26, 27, 28, 29, 31, 32, 33, 34, 35, 36, 37, 38, 39, 40, 41, 42, 43, 44, 45, 46, 47, 48]
set_option maxRecDepth 8000 in
theorem vtL0_ok : ∀ q ∈ vtL0, Jvm.Cond.instanceMethod (yOf q) ∈ GW ∧ Jvm.Cond.selects (yOf q).cls (yOf q) (yOf q) ∈ GW := List.forall_mem_cons.mpr ⟨⟨(gw2 183 rfl rfl), (gw_sel (List.mem_of_getElem? (i := 0) rfl) rfl)⟩,
  List.forall_mem_cons.mpr ⟨⟨(gw2 186 rfl rfl), (gw2 187 rfl rfl)⟩,
  List.forall_mem_cons.mpr ⟨⟨(gw2 175 rfl rfl), (gw2 176 rfl rfl)⟩,
  List.forall_mem_cons.mpr ⟨⟨(gw5 143 rfl rfl), (gw5 144 rfl rfl)⟩,
  List.forall_mem_cons.mpr ⟨⟨(gw2 194 rfl rfl), (gw2 195 rfl rfl)⟩,
  List.forall_mem_cons.mpr ⟨⟨(gw2 201 rfl rfl), (gw2 202 rfl rfl)⟩,
  List.forall_mem_cons.mpr ⟨⟨(gw2 205 rfl rfl), (gw2 206 rfl rfl)⟩,
  List.forall_mem_cons.mpr ⟨⟨(gw2 190 rfl rfl), (gw2 191 rfl rfl)⟩,
  List.forall_mem_cons.mpr ⟨⟨(gw5 157 rfl rfl), (gw_sel (List.mem_of_getElem? (i := 35) rfl) rfl)⟩,
  List.forall_mem_cons.mpr ⟨⟨(gw5 162 rfl rfl), (gw_sel (List.mem_of_getElem? (i := 36) rfl) rfl)⟩,
  List.forall_mem_cons.mpr ⟨⟨(gw5 152 rfl rfl), (gw5 153 rfl rfl)⟩,
  List.forall_mem_cons.mpr ⟨⟨(gw2 217 rfl rfl), (gw2 218 rfl rfl)⟩,
  List.forall_mem_cons.mpr ⟨⟨(gw2 213 rfl rfl), (gw2 214 rfl rfl)⟩,
  List.forall_mem_cons.mpr ⟨⟨(gw2 221 rfl rfl), (gw2 222 rfl rfl)⟩,
  List.forall_mem_cons.mpr ⟨⟨(gw2 209 rfl rfl), (gw2 210 rfl rfl)⟩,
  List.forall_mem_cons.mpr ⟨⟨(gw5 170 rfl rfl), (gw_sel (List.mem_of_getElem? (i := 37) rfl) rfl)⟩,
  List.forall_mem_cons.mpr ⟨⟨(gw5 165 rfl rfl), (gw5 166 rfl rfl)⟩,
  List.forall_mem_cons.mpr ⟨⟨(gw2 235 rfl rfl), (gw2 236 rfl rfl)⟩,
  List.forall_mem_cons.mpr ⟨⟨(gw2 231 rfl rfl), (gw2 232 rfl rfl)⟩,
  List.forall_mem_cons.mpr ⟨⟨(gw5 178 rfl rfl), (gw_sel (List.mem_of_getElem? (i := 38) rfl) rfl)⟩,
  List.forall_mem_cons.mpr ⟨⟨(gw5 173 rfl rfl), (gw5 174 rfl rfl)⟩,
  List.forall_mem_cons.mpr ⟨⟨(gw3 4 rfl rfl), (gw3 5 rfl rfl)⟩,
  List.forall_mem_cons.mpr ⟨⟨(gw3 18 rfl rfl), (gw3 19 rfl rfl)⟩,
  List.forall_mem_cons.mpr ⟨⟨(gw3 27 rfl rfl), (gw_sel (List.mem_of_getElem? (i := 1) rfl) rfl)⟩,
  List.forall_mem_cons.mpr ⟨⟨(gw3 22 rfl rfl), (gw3 23 rfl rfl)⟩,
  List.forall_mem_cons.mpr ⟨⟨(gw3 14 rfl rfl), (gw3 15 rfl rfl)⟩,
  List.forall_mem_cons.mpr ⟨⟨(gw3 10 rfl rfl), (gw3 11 rfl rfl)⟩,
  List.forall_mem_cons.mpr ⟨⟨(gw3 0 rfl rfl), (gw3 1 rfl rfl)⟩,
  List.forall_mem_cons.mpr ⟨⟨(gw5 186 rfl rfl), (gw_sel (List.mem_of_getElem? (i := 39) rfl) rfl)⟩,
  List.forall_mem_cons.mpr ⟨⟨(gw5 198 rfl rfl), (gw_sel (List.mem_of_getElem? (i := 42) rfl) rfl)⟩,
  List.forall_mem_cons.mpr ⟨⟨(gw5 202 rfl rfl), (gw_sel (List.mem_of_getElem? (i := 43) rfl) rfl)⟩,
  List.forall_mem_cons.mpr ⟨⟨(gw5 194 rfl rfl), (gw_sel (List.mem_of_getElem? (i := 41) rfl) rfl)⟩,
  fun _ h => absurd h List.not_mem_nil⟩⟩⟩⟩⟩⟩⟩⟩⟩⟩⟩⟩⟩⟩⟩⟩⟩⟩⟩⟩⟩⟩⟩⟩⟩⟩⟩⟩⟩⟩⟩⟩
def vtL1 : List (Nat) := [49, 50, 51, 52, 53, 54, 55, 56, 57, 58, 59, 60, 61, 62, 63, 64, 65, 66, 67, 68, 69, 70, 71, 72, 73, 74, 75, 76, 77, 78, 82, 83]
set_option maxRecDepth 8000 in
theorem vtL1_ok : ∀ q ∈ vtL1, Jvm.Cond.instanceMethod (yOf q) ∈ GW ∧ Jvm.Cond.selects (yOf q).cls (yOf q) (yOf q) ∈ GW := List.forall_mem_cons.mpr ⟨⟨(gw5 190 rfl rfl), (gw_sel (List.mem_of_getElem? (i := 40) rfl) rfl)⟩,
  List.forall_mem_cons.mpr ⟨⟨(gw5 181 rfl rfl), (gw5 182 rfl rfl)⟩,
  List.forall_mem_cons.mpr ⟨⟨(gw3 34 rfl rfl), (gw3 35 rfl rfl)⟩,
  List.forall_mem_cons.mpr ⟨⟨(gw3 30 rfl rfl), (gw3 31 rfl rfl)⟩,
  List.forall_mem_cons.mpr ⟨⟨(gw5 205 rfl rfl), (gw5 206 rfl rfl)⟩,
  List.forall_mem_cons.mpr ⟨⟨(gw3 42 rfl rfl), (gw3 43 rfl rfl)⟩,
  List.forall_mem_cons.mpr ⟨⟨(gw3 38 rfl rfl), (gw3 39 rfl rfl)⟩,
  List.forall_mem_cons.mpr ⟨⟨(gw5 214 rfl rfl), (gw_sel (List.mem_of_getElem? (i := 44) rfl) rfl)⟩,
  List.forall_mem_cons.mpr ⟨⟨(gw5 209 rfl rfl), (gw5 210 rfl rfl)⟩,
  List.forall_mem_cons.mpr ⟨⟨(gw3 46 rfl rfl), (gw3 47 rfl rfl)⟩,
  List.forall_mem_cons.mpr ⟨⟨(gw5 217 rfl rfl), (gw5 218 rfl rfl)⟩,
  List.forall_mem_cons.mpr ⟨⟨(gw3 54 rfl rfl), (gw3 55 rfl rfl)⟩,
  List.forall_mem_cons.mpr ⟨⟨(gw3 50 rfl rfl), (gw3 51 rfl rfl)⟩,
  List.forall_mem_cons.mpr ⟨⟨(gw5 221 rfl rfl), (gw5 222 rfl rfl)⟩,
  List.forall_mem_cons.mpr ⟨⟨(gw3 62 rfl rfl), (gw3 63 rfl rfl)⟩,
  List.forall_mem_cons.mpr ⟨⟨(gw3 58 rfl rfl), (gw3 59 rfl rfl)⟩,
  List.forall_mem_cons.mpr ⟨⟨(gw5 225 rfl rfl), (gw5 226 rfl rfl)⟩,
  List.forall_mem_cons.mpr ⟨⟨(gw3 71 rfl rfl), (gw3 72 rfl rfl)⟩,
  List.forall_mem_cons.mpr ⟨⟨(gw3 75 rfl rfl), (gw3 76 rfl rfl)⟩,
  List.forall_mem_cons.mpr ⟨⟨(gw3 79 rfl rfl), (gw3 80 rfl rfl)⟩,
  List.forall_mem_cons.mpr ⟨⟨(gw3 67 rfl rfl), (gw3 68 rfl rfl)⟩,
  List.forall_mem_cons.mpr ⟨⟨(gw5 229 rfl rfl), (gw5 230 rfl rfl)⟩,
  List.forall_mem_cons.mpr ⟨⟨(gw3 88 rfl rfl), (gw3 89 rfl rfl)⟩,
  List.forall_mem_cons.mpr ⟨⟨(gw3 83 rfl rfl), (gw3 84 rfl rfl)⟩,
  List.forall_mem_cons.mpr ⟨⟨(gw5 233 rfl rfl), (gw5 234 rfl rfl)⟩,
  List.forall_mem_cons.mpr ⟨⟨(gw3 101 rfl rfl), (gw_sel (List.mem_of_getElem? (i := 2) rfl) rfl)⟩,
  List.forall_mem_cons.mpr ⟨⟨(gw3 109 rfl rfl), (gw_sel (List.mem_of_getElem? (i := 4) rfl) rfl)⟩,
  List.forall_mem_cons.mpr ⟨⟨(gw3 125 rfl rfl), (gw3 126 rfl rfl)⟩,
  List.forall_mem_cons.mpr ⟨⟨(gw3 121 rfl rfl), (gw3 122 rfl rfl)⟩,
  List.forall_mem_cons.mpr ⟨⟨(gw3 135 rfl rfl), (gw3 136 rfl rfl)⟩,
  List.forall_mem_cons.mpr ⟨⟨(gw3 131 rfl rfl), (gw3 132 rfl rfl)⟩,
  List.forall_mem_cons.mpr ⟨⟨(gw3 118 rfl rfl), (gw_sel (List.mem_of_getElem? (i := 6) rfl) rfl)⟩,
  fun _ h => absurd h List.not_mem_nil⟩⟩⟩⟩⟩⟩⟩⟩⟩⟩⟩⟩⟩⟩⟩⟩⟩⟩⟩⟩⟩⟩⟩⟩⟩⟩⟩⟩⟩⟩⟩⟩
def vtL2 : List (Nat) := [84, 85, 86, 87, 88, 89, 90, 91, 92, 93, 94, 95, 97, 98, 99, 100, 102, 103, 104, 105, 106, 107, 108, 109, 110, 111, 112, 113, 114, 115, 116, 117]
set_option maxRecDepth 8000 in
theorem vtL2_ok : ∀ q ∈ vtL2, Jvm.Cond.instanceMethod (yOf q) ∈ GW ∧ Jvm.Cond.selects (yOf q).cls (yOf q) (yOf q) ∈ GW := List.forall_mem_cons.mpr ⟨⟨(gw3 113 rfl rfl), (gw_sel (List.mem_of_getElem? (i := 5) rfl) rfl)⟩,
  List.forall_mem_cons.mpr ⟨⟨(gw3 177 rfl rfl), (gw_sel (List.mem_of_getElem? (i := 7) rfl) rfl)⟩,
  List.forall_mem_cons.mpr ⟨⟨(gw3 185 rfl rfl), (gw_sel (List.mem_of_getElem? (i := 9) rfl) rfl)⟩,
  List.forall_mem_cons.mpr ⟨⟨(gw3 181 rfl rfl), (gw_sel (List.mem_of_getElem? (i := 8) rfl) rfl)⟩,
  List.forall_mem_cons.mpr ⟨⟨(gw3 189 rfl rfl), (gw_sel (List.mem_of_getElem? (i := 10) rfl) rfl)⟩,
  List.forall_mem_cons.mpr ⟨⟨(gw3 195 rfl rfl), (gw_sel (List.mem_of_getElem? (i := 11) rfl) rfl)⟩,
  List.forall_mem_cons.mpr ⟨⟨(gw3 105 rfl rfl), (gw_sel (List.mem_of_getElem? (i := 3) rfl) rfl)⟩,
  List.forall_mem_cons.mpr ⟨⟨(gw3 96 rfl rfl), (gw3 97 rfl rfl)⟩,
  List.forall_mem_cons.mpr ⟨⟨(gw3 202 rfl rfl), (gw3 203 rfl rfl)⟩,
  List.forall_mem_cons.mpr ⟨⟨(gw3 92 rfl rfl), (gw3 93 rfl rfl)⟩,
  List.forall_mem_cons.mpr ⟨⟨(gw6 4 rfl rfl), (gw_sel (List.mem_of_getElem? (i := 45) rfl) rfl)⟩,
  List.forall_mem_cons.mpr ⟨⟨(gw6 12 rfl rfl), (gw_sel (List.mem_of_getElem? (i := 47) rfl) rfl)⟩,
  List.forall_mem_cons.mpr ⟨⟨(gw6 22 rfl rfl), (gw_sel (List.mem_of_getElem? (i := 48) rfl) rfl)⟩,
  List.forall_mem_cons.mpr ⟨⟨(gw6 29 rfl rfl), (gw_sel (List.mem_of_getElem? (i := 49) rfl) rfl)⟩,
  List.forall_mem_cons.mpr ⟨⟨(gw6 33 rfl rfl), (gw_sel (List.mem_of_getElem? (i := 50) rfl) rfl)⟩,
  List.forall_mem_cons.mpr ⟨⟨(gw6 37 rfl rfl), (gw_sel (List.mem_of_getElem? (i := 51) rfl) rfl)⟩,
  List.forall_mem_cons.mpr ⟨⟨(gw6 8 rfl rfl), (gw_sel (List.mem_of_getElem? (i := 46) rfl) rfl)⟩,
  List.forall_mem_cons.mpr ⟨⟨(gw5 239 rfl rfl), (gw6 0 rfl rfl)⟩,
  List.forall_mem_cons.mpr ⟨⟨(gw3 207 rfl rfl), (gw3 208 rfl rfl)⟩,
  List.forall_mem_cons.mpr ⟨⟨(gw6 45 rfl rfl), (gw6 46 rfl rfl)⟩,
  List.forall_mem_cons.mpr ⟨⟨(gw3 220 rfl rfl), (gw_sel (List.mem_of_getElem? (i := 12) rfl) rfl)⟩,
  List.forall_mem_cons.mpr ⟨⟨(gw3 215 rfl rfl), (gw3 216 rfl rfl)⟩,
  List.forall_mem_cons.mpr ⟨⟨(gw3 211 rfl rfl), (gw3 212 rfl rfl)⟩,
  List.forall_mem_cons.mpr ⟨⟨(gw6 59 rfl rfl), (gw_sel (List.mem_of_getElem? (i := 53) rfl) rfl)⟩,
  List.forall_mem_cons.mpr ⟨⟨(gw6 55 rfl rfl), (gw_sel (List.mem_of_getElem? (i := 52) rfl) rfl)⟩,
  List.forall_mem_cons.mpr ⟨⟨(gw6 49 rfl rfl), (gw6 50 rfl rfl)⟩,
  List.forall_mem_cons.mpr ⟨⟨(gw3 230 rfl rfl), (gw_sel (List.mem_of_getElem? (i := 13) rfl) rfl)⟩,
  List.forall_mem_cons.mpr ⟨⟨(gw3 233 rfl rfl), (gw3 234 rfl rfl)⟩,
  List.forall_mem_cons.mpr ⟨⟨(gw3 225 rfl rfl), (gw3 226 rfl rfl)⟩,
  List.forall_mem_cons.mpr ⟨⟨(gw6 67 rfl rfl), (gw_sel (List.mem_of_getElem? (i := 54) rfl) rfl)⟩,
  List.forall_mem_cons.mpr ⟨⟨(gw6 71 rfl rfl), (gw_sel (List.mem_of_getElem? (i := 55) rfl) rfl)⟩,
  List.forall_mem_cons.mpr ⟨⟨(gw6 62 rfl rfl), (gw6 63 rfl rfl)⟩,
  fun _ h => absurd h List.not_mem_nil⟩⟩⟩⟩⟩⟩⟩⟩⟩⟩⟩⟩⟩⟩⟩⟩⟩⟩⟩⟩⟩⟩⟩⟩⟩⟩⟩⟩⟩⟩⟩⟩
def vtL3 : List (Nat) := [118, 119, 120, 121, 122, 123, 124, 125, 126, 127, 128, 129, 130, 131, 132, 133, 134, 135, 136, 137, 138, 139, 140, 141, 142, 143, 144, 145, 146, 147, 148, 149]
set_option maxRecDepth 8000 in
theorem vtL3_ok : ∀ q ∈ vtL3, Jvm.Cond.instanceMethod (yOf q) ∈ GW ∧ Jvm.Cond.selects (yOf q).cls (yOf q) (yOf q) ∈ GW := List.forall_mem_cons.mpr ⟨⟨(gw4 16 rfl rfl), (gw_sel (List.mem_of_getElem? (i := 16) rfl) rfl)⟩,
  List.forall_mem_cons.mpr ⟨⟨(gw4 12 rfl rfl), (gw_sel (List.mem_of_getElem? (i := 15) rfl) rfl)⟩,
  List.forall_mem_cons.mpr ⟨⟨(gw4 21 rfl rfl), (gw_sel (List.mem_of_getElem? (i := 17) rfl) rfl)⟩,
  List.forall_mem_cons.mpr ⟨⟨(gw4 29 rfl rfl), (gw_sel (List.mem_of_getElem? (i := 19) rfl) rfl)⟩,
  List.forall_mem_cons.mpr ⟨⟨(gw4 33 rfl rfl), (gw_sel (List.mem_of_getElem? (i := 20) rfl) rfl)⟩,
  List.forall_mem_cons.mpr ⟨⟨(gw4 37 rfl rfl), (gw_sel (List.mem_of_getElem? (i := 21) rfl) rfl)⟩,
  List.forall_mem_cons.mpr ⟨⟨(gw4 42 rfl rfl), (gw_sel (List.mem_of_getElem? (i := 22) rfl) rfl)⟩,
  List.forall_mem_cons.mpr ⟨⟨(gw4 25 rfl rfl), (gw_sel (List.mem_of_getElem? (i := 18) rfl) rfl)⟩,
  List.forall_mem_cons.mpr ⟨⟨(gw4 7 rfl rfl), (gw4 8 rfl rfl)⟩,
  List.forall_mem_cons.mpr ⟨⟨(gw4 4 rfl rfl), (gw_sel (List.mem_of_getElem? (i := 14) rfl) rfl)⟩,
  List.forall_mem_cons.mpr ⟨⟨(gw4 49 rfl rfl), (gw4 50 rfl rfl)⟩,
  List.forall_mem_cons.mpr ⟨⟨(gw4 45 rfl rfl), (gw4 46 rfl rfl)⟩,
  List.forall_mem_cons.mpr ⟨⟨(gw4 56 rfl rfl), (gw4 57 rfl rfl)⟩,
  List.forall_mem_cons.mpr ⟨⟨(gw4 60 rfl rfl), (gw4 61 rfl rfl)⟩,
  List.forall_mem_cons.mpr ⟨⟨(gw3 239 rfl rfl), (gw4 0 rfl rfl)⟩,
  List.forall_mem_cons.mpr ⟨⟨(gw6 84 rfl rfl), (gw_sel (List.mem_of_getElem? (i := 57) rfl) rfl)⟩,
  List.forall_mem_cons.mpr ⟨⟨(gw6 80 rfl rfl), (gw_sel (List.mem_of_getElem? (i := 56) rfl) rfl)⟩,
  List.forall_mem_cons.mpr ⟨⟨(gw6 74 rfl rfl), (gw6 75 rfl rfl)⟩,
  List.forall_mem_cons.mpr ⟨⟨(gw4 79 rfl rfl), (gw_sel (List.mem_of_getElem? (i := 24) rfl) rfl)⟩,
  List.forall_mem_cons.mpr ⟨⟨(gw4 74 rfl rfl), (gw_sel (List.mem_of_getElem? (i := 23) rfl) rfl)⟩,
  List.forall_mem_cons.mpr ⟨⟨(gw4 69 rfl rfl), (gw4 70 rfl rfl)⟩,
  List.forall_mem_cons.mpr ⟨⟨(gw4 65 rfl rfl), (gw4 66 rfl rfl)⟩,
  List.forall_mem_cons.mpr ⟨⟨(gw6 93 rfl rfl), (gw_sel (List.mem_of_getElem? (i := 58) rfl) rfl)⟩,
  List.forall_mem_cons.mpr ⟨⟨(gw6 97 rfl rfl), (gw_sel (List.mem_of_getElem? (i := 59) rfl) rfl)⟩,
  List.forall_mem_cons.mpr ⟨⟨(gw6 101 rfl rfl), (gw_sel (List.mem_of_getElem? (i := 60) rfl) rfl)⟩,
  List.forall_mem_cons.mpr ⟨⟨(gw6 109 rfl rfl), (gw_sel (List.mem_of_getElem? (i := 62) rfl) rfl)⟩,
  List.forall_mem_cons.mpr ⟨⟨(gw6 105 rfl rfl), (gw_sel (List.mem_of_getElem? (i := 61) rfl) rfl)⟩,
  List.forall_mem_cons.mpr ⟨⟨(gw6 87 rfl rfl), (gw6 88 rfl rfl)⟩,
  List.forall_mem_cons.mpr ⟨⟨(gw4 87 rfl rfl), (gw_sel (List.mem_of_getElem? (i := 25) rfl) rfl)⟩,
  List.forall_mem_cons.mpr ⟨⟨(gw4 94 rfl rfl), (gw4 95 rfl rfl)⟩,
  List.forall_mem_cons.mpr ⟨⟨(gw4 91 rfl rfl), (gw_sel (List.mem_of_getElem? (i := 26) rfl) rfl)⟩,
  List.forall_mem_cons.mpr ⟨⟨(gw4 100 rfl rfl), (gw_sel (List.mem_of_getElem? (i := 27) rfl) rfl)⟩,
  fun _ h => absurd h List.not_mem_nil⟩⟩⟩⟩⟩⟩⟩⟩⟩⟩⟩⟩⟩⟩⟩⟩⟩⟩⟩⟩⟩⟩⟩⟩⟩⟩⟩⟩⟩⟩⟩⟩
def vtL4 : List (Nat) := [150, 151, 152, 153, 154, 155, 156, 157, 159, 160, 162, 163, 164, 165, 166, 167, 168, 169, 170, 171, 172, 173, 174, 175, 176, 177, 179, 180, 181, 182, 183, 184]
set_option maxRecDepth 8000 in
theorem vtL4_ok : ∀ q ∈ vtL4, Jvm.Cond.instanceMethod (yOf q) ∈ GW ∧ Jvm.Cond.selects (yOf q).cls (yOf q) (yOf q) ∈ GW := List.forall_mem_cons.mpr ⟨⟨(gw4 104 rfl rfl), (gw_sel (List.mem_of_getElem? (i := 28) rfl) rfl)⟩,
  List.forall_mem_cons.mpr ⟨⟨(gw4 82 rfl rfl), (gw4 83 rfl rfl)⟩,
  List.forall_mem_cons.mpr ⟨⟨(gw6 121 rfl rfl), (gw_sel (List.mem_of_getElem? (i := 64) rfl) rfl)⟩,
  List.forall_mem_cons.mpr ⟨⟨(gw6 117 rfl rfl), (gw_sel (List.mem_of_getElem? (i := 63) rfl) rfl)⟩,
  List.forall_mem_cons.mpr ⟨⟨(gw6 125 rfl rfl), (gw_sel (List.mem_of_getElem? (i := 65) rfl) rfl)⟩,
  List.forall_mem_cons.mpr ⟨⟨(gw6 129 rfl rfl), (gw_sel (List.mem_of_getElem? (i := 66) rfl) rfl)⟩,
  List.forall_mem_cons.mpr ⟨⟨(gw6 112 rfl rfl), (gw6 113 rfl rfl)⟩,
  List.forall_mem_cons.mpr ⟨⟨(gw4 115 rfl rfl), (gw4 116 rfl rfl)⟩,
  List.forall_mem_cons.mpr ⟨⟨(gw4 111 rfl rfl), (gw4 112 rfl rfl)⟩,
  List.forall_mem_cons.mpr ⟨⟨(gw4 107 rfl rfl), (gw4 108 rfl rfl)⟩,
  List.forall_mem_cons.mpr ⟨⟨(gw6 132 rfl rfl), (gw6 133 rfl rfl)⟩,
  List.forall_mem_cons.mpr ⟨⟨(gw4 125 rfl rfl), (gw4 126 rfl rfl)⟩,
  List.forall_mem_cons.mpr ⟨⟨(gw6 139 rfl rfl), (gw6 140 rfl rfl)⟩,
  List.forall_mem_cons.mpr ⟨⟨(gw4 138 rfl rfl), (gw_sel (List.mem_of_getElem? (i := 29) rfl) rfl)⟩,
  List.forall_mem_cons.mpr ⟨⟨(gw4 133 rfl rfl), (gw4 134 rfl rfl)⟩,
  List.forall_mem_cons.mpr ⟨⟨(gw4 146 rfl rfl), (gw4 147 rfl rfl)⟩,
  List.forall_mem_cons.mpr ⟨⟨(gw4 129 rfl rfl), (gw4 130 rfl rfl)⟩,
  List.forall_mem_cons.mpr ⟨⟨(gw6 148 rfl rfl), (gw_sel (List.mem_of_getElem? (i := 67) rfl) rfl)⟩,
  List.forall_mem_cons.mpr ⟨⟨(gw6 143 rfl rfl), (gw6 144 rfl rfl)⟩,
  List.forall_mem_cons.mpr ⟨⟨(gw4 154 rfl rfl), (gw4 155 rfl rfl)⟩,
  List.forall_mem_cons.mpr ⟨⟨(gw4 150 rfl rfl), (gw4 151 rfl rfl)⟩,
  List.forall_mem_cons.mpr ⟨⟨(gw6 151 rfl rfl), (gw6 152 rfl rfl)⟩,
  List.forall_mem_cons.mpr ⟨⟨(gw4 163 rfl rfl), (gw4 164 rfl rfl)⟩,
  List.forall_mem_cons.mpr ⟨⟨(gw4 159 rfl rfl), (gw4 160 rfl rfl)⟩,
  List.forall_mem_cons.mpr ⟨⟨(gw6 160 rfl rfl), (gw_sel (List.mem_of_getElem? (i := 68) rfl) rfl)⟩,
  List.forall_mem_cons.mpr ⟨⟨(gw6 155 rfl rfl), (gw6 156 rfl rfl)⟩,
  List.forall_mem_cons.mpr ⟨⟨(gw4 180 rfl rfl), (gw_sel (List.mem_of_getElem? (i := 30) rfl) rfl)⟩,
  List.forall_mem_cons.mpr ⟨⟨(gw4 174 rfl rfl), (gw4 175 rfl rfl)⟩,
  List.forall_mem_cons.mpr ⟨⟨(gw4 167 rfl rfl), (gw4 168 rfl rfl)⟩,
  List.forall_mem_cons.mpr ⟨⟨(gw6 177 rfl rfl), (gw_sel (List.mem_of_getElem? (i := 71) rfl) rfl)⟩,
  List.forall_mem_cons.mpr ⟨⟨(gw6 173 rfl rfl), (gw_sel (List.mem_of_getElem? (i := 70) rfl) rfl)⟩,
  List.forall_mem_cons.mpr ⟨⟨(gw6 169 rfl rfl), (gw_sel (List.mem_of_getElem? (i := 69) rfl) rfl)⟩,
  fun _ h => absurd h List.not_mem_nil⟩⟩⟩⟩⟩⟩⟩⟩⟩⟩⟩⟩⟩⟩⟩⟩⟩⟩⟩⟩⟩⟩⟩⟩⟩⟩⟩⟩⟩⟩⟩⟩
def vtL5 : List (Nat) := [185, 186, 188, 189, 190, 191, 193, 194, 195, 196, 197, 198, 199, 200, 201, 203, 204, 205, 206, 207, 208, 209]
set_option maxRecDepth 8000 in
theorem vtL5_ok : ∀ q ∈ vtL5, Jvm.Cond.instanceMethod (yOf q) ∈ GW ∧ Jvm.Cond.selects (yOf q).cls (yOf q) (yOf q) ∈ GW := List.forall_mem_cons.mpr ⟨⟨(gw6 163 rfl rfl), (gw6 164 rfl rfl)⟩,
  List.forall_mem_cons.mpr ⟨⟨(gw4 192 rfl rfl), (gw_sel (List.mem_of_getElem? (i := 31) rfl) rfl)⟩,
  List.forall_mem_cons.mpr ⟨⟨(gw4 187 rfl rfl), (gw4 188 rfl rfl)⟩,
  List.forall_mem_cons.mpr ⟨⟨(gw4 183 rfl rfl), (gw4 184 rfl rfl)⟩,
  List.forall_mem_cons.mpr ⟨⟨(gw6 189 rfl rfl), (gw_sel (List.mem_of_getElem? (i := 73) rfl) rfl)⟩,
  List.forall_mem_cons.mpr ⟨⟨(gw6 185 rfl rfl), (gw_sel (List.mem_of_getElem? (i := 72) rfl) rfl)⟩,
  List.forall_mem_cons.mpr ⟨⟨(gw6 180 rfl rfl), (gw6 181 rfl rfl)⟩,
  List.forall_mem_cons.mpr ⟨⟨(gw4 207 rfl rfl), (gw_sel (List.mem_of_getElem? (i := 32) rfl) rfl)⟩,
  List.forall_mem_cons.mpr ⟨⟨(gw4 202 rfl rfl), (gw4 203 rfl rfl)⟩,
  List.forall_mem_cons.mpr ⟨⟨(gw4 198 rfl rfl), (gw4 199 rfl rfl)⟩,
  List.forall_mem_cons.mpr ⟨⟨(gw6 195 rfl rfl), (gw6 196 rfl rfl)⟩,
  List.forall_mem_cons.mpr ⟨⟨(gw4 221 rfl rfl), (gw_sel (List.mem_of_getElem? (i := 33) rfl) rfl)⟩,
  List.forall_mem_cons.mpr ⟨⟨(gw4 216 rfl rfl), (gw4 217 rfl rfl)⟩,
  List.forall_mem_cons.mpr ⟨⟨(gw4 212 rfl rfl), (gw4 213 rfl rfl)⟩,
  List.forall_mem_cons.mpr ⟨⟨(gw6 199 rfl rfl), (gw6 200 rfl rfl)⟩,
  List.forall_mem_cons.mpr ⟨⟨(gw5 1 rfl rfl), (gw_sel (List.mem_of_getElem? (i := 34) rfl) rfl)⟩,
  List.forall_mem_cons.mpr ⟨⟨(gw4 232 rfl rfl), (gw4 233 rfl rfl)⟩,
  List.forall_mem_cons.mpr ⟨⟨(gw5 5 rfl rfl), (gw5 6 rfl rfl)⟩,
  List.forall_mem_cons.mpr ⟨⟨(gw4 228 rfl rfl), (gw4 229 rfl rfl)⟩,
  List.forall_mem_cons.mpr ⟨⟨(gw6 209 rfl rfl), (gw_sel (List.mem_of_getElem? (i := 74) rfl) rfl)⟩,
  List.forall_mem_cons.mpr ⟨⟨(gw6 213 rfl rfl), (gw_sel (List.mem_of_getElem? (i := 75) rfl) rfl)⟩,
  List.forall_mem_cons.mpr ⟨⟨(gw6 204 rfl rfl), (gw6 205 rfl rfl)⟩,
  fun _ h => absurd h List.not_mem_nil⟩⟩⟩⟩⟩⟩⟩⟩⟩⟩⟩⟩⟩⟩⟩⟩⟩⟩⟩⟩⟩⟩
def vtL : List (Nat) := vtL0 ++ vtL1 ++ vtL2 ++ vtL3 ++ vtL4 ++ vtL5
theorem vtL_ok : ∀ q ∈ vtL, Jvm.Cond.instanceMethod (yOf q) ∈ GW ∧ Jvm.Cond.selects (yOf q).cls (yOf q) (yOf q) ∈ GW := fun q => fun h => (List.mem_append.mp h).elim (fun h => (List.mem_append.mp h).elim (fun h => (List.mem_append.mp h).elim (fun h => (List.mem_append.mp h).elim (fun h => (List.mem_append.mp h).elim (vtL0_ok q) (vtL1_ok q)) (vtL2_ok q)) (vtL3_ok q)) (vtL4_ok q)) (vtL5_ok q)
def stL0 : List (Nat) := [13, 17, 20, 30, 79, 80, 81, 96, 101, 158, 161, 178, 187, 192, 202]
set_option maxRecDepth 8000 in
theorem stL0_ok : ∀ q ∈ stL0, Jvm.Cond.static (yOf q) ∈ GW := List.forall_mem_cons.mpr ⟨(gw2 179 rfl rfl),
  List.forall_mem_cons.mpr ⟨(gw5 148 rfl rfl),
  List.forall_mem_cons.mpr ⟨(gw2 198 rfl rfl),
  List.forall_mem_cons.mpr ⟨(gw2 225 rfl rfl),
  List.forall_mem_cons.mpr ⟨(gw3 147 rfl rfl),
  List.forall_mem_cons.mpr ⟨(gw3 142 rfl rfl),
  List.forall_mem_cons.mpr ⟨(gw3 139 rfl rfl),
  List.forall_mem_cons.mpr ⟨(gw6 25 rfl rfl),
  List.forall_mem_cons.mpr ⟨(gw6 42 rfl rfl),
  List.forall_mem_cons.mpr ⟨(gw4 119 rfl rfl),
  List.forall_mem_cons.mpr ⟨(gw6 136 rfl rfl),
  List.forall_mem_cons.mpr ⟨(gw4 171 rfl rfl),
  List.forall_mem_cons.mpr ⟨(gw4 195 rfl rfl),
  List.forall_mem_cons.mpr ⟨(gw6 192 rfl rfl),
  List.forall_mem_cons.mpr ⟨(gw4 236 rfl rfl),
  fun _ h => absurd h List.not_mem_nil⟩⟩⟩⟩⟩⟩⟩⟩⟩⟩⟩⟩⟩⟩⟩
def stL : List (Nat) := stL0
theorem stL_ok : ∀ q ∈ stL, Jvm.Cond.static (yOf q) ∈ GW := fun q => stL0_ok q
def spL0 : List (Nat) := [0, 1, 2, 3, 4, 5, 6, 7, 8, 9, 10, 11, 12]
set_option maxRecDepth 8000 in
theorem spL0_ok : ∀ q ∈ spL0, (yOf q).name = "<init>" ∧ Jvm.Cond.instanceMethod (yOf q) ∈ GW := List.forall_mem_cons.mpr ⟨⟨rfl, (gw1 39 rfl rfl)⟩,
  List.forall_mem_cons.mpr ⟨⟨rfl, (gw1 32 rfl rfl)⟩,
  List.forall_mem_cons.mpr ⟨⟨rfl, (gw1 91 rfl rfl)⟩,
  List.forall_mem_cons.mpr ⟨⟨rfl, (gw1 112 rfl rfl)⟩,
  List.forall_mem_cons.mpr ⟨⟨rfl, (gw1 138 rfl rfl)⟩,
  List.forall_mem_cons.mpr ⟨⟨rfl, (gw1 170 rfl rfl)⟩,
  List.forall_mem_cons.mpr ⟨⟨rfl, (gw1 192 rfl rfl)⟩,
  List.forall_mem_cons.mpr ⟨⟨rfl, (gw2 10 rfl rfl)⟩,
  List.forall_mem_cons.mpr ⟨⟨rfl, (gw2 48 rfl rfl)⟩,
  List.forall_mem_cons.mpr ⟨⟨rfl, (gw2 90 rfl rfl)⟩,
  List.forall_mem_cons.mpr ⟨⟨rfl, (gw2 119 rfl rfl)⟩,
  List.forall_mem_cons.mpr ⟨⟨rfl, (gw1 24 rfl rfl)⟩,
  List.forall_mem_cons.mpr ⟨⟨rfl, (gw5 12 rfl rfl)⟩,
  fun _ h => absurd h List.not_mem_nil⟩⟩⟩⟩⟩⟩⟩⟩⟩⟩⟩⟩⟩
def spL : List (Nat) := spL0
theorem spL_ok : ∀ q ∈ spL, (yOf q).name = "<init>" ∧ Jvm.Cond.instanceMethod (yOf q) ∈ GW := fun q => spL0_ok q
def mlL0 : List (Nat × Nat × Nat) := [(19, 9, 11), (11, 9, 1), (11, 18, 2), (11, 25, 3), (11, 48, 6), (11, 57, 7), (11, 66, 8), (11, 75, 9), (19, 13, 16), (11, 87, 13), (11, 95, 14), (11, 98, 15), (19, 18, 23), (11, 102, 19), (11, 105, 20), (11, 112, 21), (11, 117, 22), (19, 22, 31), (11, 122, 28), (0, 23, 27), (11, 126, 29), (11, 133, 30), (19, 27, 35), (11, 139, 34), (11, 147, 27), (19, 32, 44), (11, 156, 38), (0, 27, 28), (0, 31, 30), (11, 160, 43), (3, 48, 42), (3, 32, 39)]
set_option maxRecDepth 8000 in
theorem mlL0_ok : ∀ q ∈ mlL0, Jvm.Cond.methodLink (owN q.1) q.2.1 (yOf q.2.2) ∈ GW := List.forall_mem_cons.mpr ⟨(gw1 23 rfl rfl),
  List.forall_mem_cons.mpr ⟨(gw1 31 rfl rfl),
  List.forall_mem_cons.mpr ⟨(gw1 90 rfl rfl),
  List.forall_mem_cons.mpr ⟨(gw1 111 rfl rfl),
  List.forall_mem_cons.mpr ⟨(gw1 191 rfl rfl),
  List.forall_mem_cons.mpr ⟨(gw2 9 rfl rfl),
  List.forall_mem_cons.mpr ⟨(gw2 47 rfl rfl),
  List.forall_mem_cons.mpr ⟨(gw2 89 rfl rfl),
  List.forall_mem_cons.mpr ⟨(gw2 174 rfl rfl),
  List.forall_mem_cons.mpr ⟨(gw2 178 rfl rfl),
  List.forall_mem_cons.mpr ⟨(gw2 181 rfl rfl),
  List.forall_mem_cons.mpr ⟨(gw2 185 rfl rfl),
  List.forall_mem_cons.mpr ⟨(gw2 189 rfl rfl),
  List.forall_mem_cons.mpr ⟨(gw2 193 rfl rfl),
  List.forall_mem_cons.mpr ⟨(gw2 197 rfl rfl),
  List.forall_mem_cons.mpr ⟨(gw2 200 rfl rfl),
  List.forall_mem_cons.mpr ⟨(gw2 204 rfl rfl),
  List.forall_mem_cons.mpr ⟨(gw2 208 rfl rfl),
  List.forall_mem_cons.mpr ⟨(gw2 212 rfl rfl),
  List.forall_mem_cons.mpr ⟨(gw2 216 rfl rfl),
  List.forall_mem_cons.mpr ⟨(gw2 220 rfl rfl),
  List.forall_mem_cons.mpr ⟨(gw2 224 rfl rfl),
  List.forall_mem_cons.mpr ⟨(gw2 230 rfl rfl),
  List.forall_mem_cons.mpr ⟨(gw2 234 rfl rfl),
  List.forall_mem_cons.mpr ⟨(gw2 238 rfl rfl),
  List.forall_mem_cons.mpr ⟨(gw2 239 rfl rfl),
  List.forall_mem_cons.mpr ⟨(gw3 3 rfl rfl),
  List.forall_mem_cons.mpr ⟨(gw3 7 rfl rfl),
  List.forall_mem_cons.mpr ⟨(gw3 8 rfl rfl),
  List.forall_mem_cons.mpr ⟨(gw3 9 rfl rfl),
  List.forall_mem_cons.mpr ⟨(gw3 13 rfl rfl),
  List.forall_mem_cons.mpr ⟨(gw3 17 rfl rfl),
  fun _ h => absurd h List.not_mem_nil⟩⟩⟩⟩⟩⟩⟩⟩⟩⟩⟩⟩⟩⟩⟩⟩⟩⟩⟩⟩⟩⟩⟩⟩⟩⟩⟩⟩⟩⟩⟩⟩
def mlL1 : List (Nat × Nat × Nat) := [(3, 42, 41), (0, 37, 40), (19, 36, 52), (11, 163, 51), (19, 40, 55), (11, 169, 54), (19, 44, 58), (19, 49, 61), (11, 177, 60), (19, 53, 64), (11, 181, 63), (11, 182, 42), (19, 57, 69), (11, 186, 66), (11, 193, 67), (11, 196, 68), (19, 63, 72), (11, 201, 71), (19, 68, 93), (11, 202, 91), (4, 34, 74), (4, 37, 90), (4, 41, 75), (4, 45, 84), (4, 74, 83), (4, 96, 77), (13, 335, 76), (4, 100, 82), (13, 492, 78), (13, 495, 81), (14, 9, 80), (13, 1059, 79)]
set_option maxRecDepth 8000 in
theorem mlL1_ok : ∀ q ∈ mlL1, Jvm.Cond.methodLink (owN q.1) q.2.1 (yOf q.2.2) ∈ GW := List.forall_mem_cons.mpr ⟨(gw3 21 rfl rfl),
  List.forall_mem_cons.mpr ⟨(gw3 25 rfl rfl),
  List.forall_mem_cons.mpr ⟨(gw3 29 rfl rfl),
  List.forall_mem_cons.mpr ⟨(gw3 33 rfl rfl),
  List.forall_mem_cons.mpr ⟨(gw3 37 rfl rfl),
  List.forall_mem_cons.mpr ⟨(gw3 41 rfl rfl),
  List.forall_mem_cons.mpr ⟨(gw3 45 rfl rfl),
  List.forall_mem_cons.mpr ⟨(gw3 49 rfl rfl),
  List.forall_mem_cons.mpr ⟨(gw3 53 rfl rfl),
  List.forall_mem_cons.mpr ⟨(gw3 57 rfl rfl),
  List.forall_mem_cons.mpr ⟨(gw3 61 rfl rfl),
  List.forall_mem_cons.mpr ⟨(gw3 65 rfl rfl),
  List.forall_mem_cons.mpr ⟨(gw3 66 rfl rfl),
  List.forall_mem_cons.mpr ⟨(gw3 70 rfl rfl),
  List.forall_mem_cons.mpr ⟨(gw3 74 rfl rfl),
  List.forall_mem_cons.mpr ⟨(gw3 78 rfl rfl),
  List.forall_mem_cons.mpr ⟨(gw3 82 rfl rfl),
  List.forall_mem_cons.mpr ⟨(gw3 87 rfl rfl),
  List.forall_mem_cons.mpr ⟨(gw3 91 rfl rfl),
  List.forall_mem_cons.mpr ⟨(gw3 95 rfl rfl),
  List.forall_mem_cons.mpr ⟨(gw3 99 rfl rfl),
  List.forall_mem_cons.mpr ⟨(gw3 103 rfl rfl),
  List.forall_mem_cons.mpr ⟨(gw3 107 rfl rfl),
  List.forall_mem_cons.mpr ⟨(gw3 111 rfl rfl),
  List.forall_mem_cons.mpr ⟨(gw3 116 rfl rfl),
  List.forall_mem_cons.mpr ⟨(gw3 120 rfl rfl),
  List.forall_mem_cons.mpr ⟨(gw3 124 rfl rfl),
  List.forall_mem_cons.mpr ⟨(gw3 130 rfl rfl),
  List.forall_mem_cons.mpr ⟨(gw3 134 rfl rfl),
  List.forall_mem_cons.mpr ⟨(gw3 138 rfl rfl),
  List.forall_mem_cons.mpr ⟨(gw3 141 rfl rfl),
  List.forall_mem_cons.mpr ⟨(gw3 146 rfl rfl),
  fun _ h => absurd h List.not_mem_nil⟩⟩⟩⟩⟩⟩⟩⟩⟩⟩⟩⟩⟩⟩⟩⟩⟩⟩⟩⟩⟩⟩⟩⟩⟩⟩⟩⟩⟩⟩⟩⟩
def mlL2 : List (Nat × Nat × Nat) := [(4, 49, 85), (4, 52, 87), (4, 62, 86), (4, 56, 88), (4, 59, 89), (11, 211, 92), (19, 72, 104), (19, 77, 108), (11, 217, 107), (5, 27, 106), (19, 81, 114), (11, 220, 112), (11, 223, 113), (6, 60, 107), (6, 69, 39), (19, 85, 132), (11, 226, 127), (11, 323, 126), (6, 73, 119), (6, 105, 118), (6, 77, 113), (6, 80, 120), (6, 84, 125), (6, 118, 121), (6, 121, 122), (6, 125, 123), (6, 129, 124), (11, 229, 129), (6, 134, 128), (11, 232, 130), (11, 236, 131), (6, 142, 19)]
set_option maxRecDepth 8000 in
theorem mlL2_ok : ∀ q ∈ mlL2, Jvm.Cond.methodLink (owN q.1) q.2.1 (yOf q.2.2) ∈ GW := List.forall_mem_cons.mpr ⟨(gw3 175 rfl rfl),
  List.forall_mem_cons.mpr ⟨(gw3 179 rfl rfl),
  List.forall_mem_cons.mpr ⟨(gw3 183 rfl rfl),
  List.forall_mem_cons.mpr ⟨(gw3 187 rfl rfl),
  List.forall_mem_cons.mpr ⟨(gw3 193 rfl rfl),
  List.forall_mem_cons.mpr ⟨(gw3 201 rfl rfl),
  List.forall_mem_cons.mpr ⟨(gw3 206 rfl rfl),
  List.forall_mem_cons.mpr ⟨(gw3 210 rfl rfl),
  List.forall_mem_cons.mpr ⟨(gw3 214 rfl rfl),
  List.forall_mem_cons.mpr ⟨(gw3 218 rfl rfl),
  List.forall_mem_cons.mpr ⟨(gw3 224 rfl rfl),
  List.forall_mem_cons.mpr ⟨(gw3 228 rfl rfl),
  List.forall_mem_cons.mpr ⟨(gw3 232 rfl rfl),
  List.forall_mem_cons.mpr ⟨(gw3 236 rfl rfl),
  List.forall_mem_cons.mpr ⟨(gw3 237 rfl rfl),
  List.forall_mem_cons.mpr ⟨(gw3 238 rfl rfl),
  List.forall_mem_cons.mpr ⟨(gw4 2 rfl rfl),
  List.forall_mem_cons.mpr ⟨(gw4 6 rfl rfl),
  List.forall_mem_cons.mpr ⟨(gw4 10 rfl rfl),
  List.forall_mem_cons.mpr ⟨(gw4 14 rfl rfl),
  List.forall_mem_cons.mpr ⟨(gw4 18 rfl rfl),
  List.forall_mem_cons.mpr ⟨(gw4 19 rfl rfl),
  List.forall_mem_cons.mpr ⟨(gw4 23 rfl rfl),
  List.forall_mem_cons.mpr ⟨(gw4 27 rfl rfl),
  List.forall_mem_cons.mpr ⟨(gw4 31 rfl rfl),
  List.forall_mem_cons.mpr ⟨(gw4 35 rfl rfl),
  List.forall_mem_cons.mpr ⟨(gw4 40 rfl rfl),
  List.forall_mem_cons.mpr ⟨(gw4 44 rfl rfl),
  List.forall_mem_cons.mpr ⟨(gw4 48 rfl rfl),
  List.forall_mem_cons.mpr ⟨(gw4 55 rfl rfl),
  List.forall_mem_cons.mpr ⟨(gw4 59 rfl rfl),
  List.forall_mem_cons.mpr ⟨(gw4 63 rfl rfl),
  fun _ h => absurd h List.not_mem_nil⟩⟩⟩⟩⟩⟩⟩⟩⟩⟩⟩⟩⟩⟩⟩⟩⟩⟩⟩⟩⟩⟩⟩⟩⟩⟩⟩⟩⟩⟩⟩⟩
def mlL3 : List (Nat × Nat × Nat) := [(19, 89, 139), (11, 239, 138), (7, 31, 137), (7, 48, 128), (7, 52, 136), (19, 93, 151), (11, 251, 146), (11, 254, 148), (11, 329, 147), (11, 257, 149), (11, 260, 150), (19, 98, 160), (11, 263, 159), (7, 59, 157), (7, 62, 158), (19, 102, 163), (19, 106, 168), (11, 266, 166), (8, 41, 165), (8, 45, 126), (8, 50, 113), (8, 54, 138), (8, 76, 130), (8, 80, 131), (11, 269, 167), (19, 110, 172), (11, 282, 171), (8, 95, 167), (19, 114, 175), (11, 285, 174), (19, 118, 181), (11, 288, 178)]
set_option maxRecDepth 8000 in
theorem mlL3_ok : ∀ q ∈ mlL3, Jvm.Cond.methodLink (owN q.1) q.2.1 (yOf q.2.2) ∈ GW := List.forall_mem_cons.mpr ⟨(gw4 64 rfl rfl),
  List.forall_mem_cons.mpr ⟨(gw4 68 rfl rfl),
  List.forall_mem_cons.mpr ⟨(gw4 72 rfl rfl),
  List.forall_mem_cons.mpr ⟨(gw4 76 rfl rfl),
  List.forall_mem_cons.mpr ⟨(gw4 77 rfl rfl),
  List.forall_mem_cons.mpr ⟨(gw4 81 rfl rfl),
  List.forall_mem_cons.mpr ⟨(gw4 85 rfl rfl),
  List.forall_mem_cons.mpr ⟨(gw4 89 rfl rfl),
  List.forall_mem_cons.mpr ⟨(gw4 93 rfl rfl),
  List.forall_mem_cons.mpr ⟨(gw4 98 rfl rfl),
  List.forall_mem_cons.mpr ⟨(gw4 102 rfl rfl),
  List.forall_mem_cons.mpr ⟨(gw4 106 rfl rfl),
  List.forall_mem_cons.mpr ⟨(gw4 110 rfl rfl),
  List.forall_mem_cons.mpr ⟨(gw4 114 rfl rfl),
  List.forall_mem_cons.mpr ⟨(gw4 118 rfl rfl),
  List.forall_mem_cons.mpr ⟨(gw4 124 rfl rfl),
  List.forall_mem_cons.mpr ⟨(gw4 128 rfl rfl),
  List.forall_mem_cons.mpr ⟨(gw4 132 rfl rfl),
  List.forall_mem_cons.mpr ⟨(gw4 136 rfl rfl),
  List.forall_mem_cons.mpr ⟨(gw4 140 rfl rfl),
  List.forall_mem_cons.mpr ⟨(gw4 141 rfl rfl),
  List.forall_mem_cons.mpr ⟨(gw4 142 rfl rfl),
  List.forall_mem_cons.mpr ⟨(gw4 143 rfl rfl),
  List.forall_mem_cons.mpr ⟨(gw4 144 rfl rfl),
  List.forall_mem_cons.mpr ⟨(gw4 145 rfl rfl),
  List.forall_mem_cons.mpr ⟨(gw4 149 rfl rfl),
  List.forall_mem_cons.mpr ⟨(gw4 153 rfl rfl),
  List.forall_mem_cons.mpr ⟨(gw4 157 rfl rfl),
  List.forall_mem_cons.mpr ⟨(gw4 158 rfl rfl),
  List.forall_mem_cons.mpr ⟨(gw4 162 rfl rfl),
  List.forall_mem_cons.mpr ⟨(gw4 166 rfl rfl),
  List.forall_mem_cons.mpr ⟨(gw4 170 rfl rfl),
  fun _ h => absurd h List.not_mem_nil⟩⟩⟩⟩⟩⟩⟩⟩⟩⟩⟩⟩⟩⟩⟩⟩⟩⟩⟩⟩⟩⟩⟩⟩⟩⟩⟩⟩⟩⟩⟩⟩
def mlL4 : List (Nat × Nat × Nat) := [(11, 291, 180), (9, 44, 179), (19, 122, 189), (11, 295, 188), (9, 53, 186), (9, 57, 187), (19, 126, 196), (11, 304, 195), (9, 66, 194), (9, 49, 180), (9, 70, 188), (19, 130, 200), (11, 307, 199), (9, 73, 198), (19, 134, 206), (11, 310, 204), (10, 24, 202), (10, 44, 27), (10, 35, 203), (11, 317, 205), (19, 12, 12), (19, 17, 18), (12, 102, 17), (19, 21, 26), (12, 114, 24), (12, 120, 25), (19, 26, 33), (12, 124, 32), (19, 31, 37), (12, 128, 36), (19, 35, 50), (12, 132, 45)]
set_option maxRecDepth 8000 in
theorem mlL4_ok : ∀ q ∈ mlL4, Jvm.Cond.methodLink (owN q.1) q.2.1 (yOf q.2.2) ∈ GW := List.forall_mem_cons.mpr ⟨(gw4 173 rfl rfl),
  List.forall_mem_cons.mpr ⟨(gw4 178 rfl rfl),
  List.forall_mem_cons.mpr ⟨(gw4 182 rfl rfl),
  List.forall_mem_cons.mpr ⟨(gw4 186 rfl rfl),
  List.forall_mem_cons.mpr ⟨(gw4 190 rfl rfl),
  List.forall_mem_cons.mpr ⟨(gw4 194 rfl rfl),
  List.forall_mem_cons.mpr ⟨(gw4 197 rfl rfl),
  List.forall_mem_cons.mpr ⟨(gw4 201 rfl rfl),
  List.forall_mem_cons.mpr ⟨(gw4 205 rfl rfl),
  List.forall_mem_cons.mpr ⟨(gw4 209 rfl rfl),
  List.forall_mem_cons.mpr ⟨(gw4 210 rfl rfl),
  List.forall_mem_cons.mpr ⟨(gw4 211 rfl rfl),
  List.forall_mem_cons.mpr ⟨(gw4 215 rfl rfl),
  List.forall_mem_cons.mpr ⟨(gw4 219 rfl rfl),
  List.forall_mem_cons.mpr ⟨(gw4 227 rfl rfl),
  List.forall_mem_cons.mpr ⟨(gw4 231 rfl rfl),
  List.forall_mem_cons.mpr ⟨(gw4 235 rfl rfl),
  List.forall_mem_cons.mpr ⟨(gw4 238 rfl rfl),
  List.forall_mem_cons.mpr ⟨(gw4 239 rfl rfl),
  List.forall_mem_cons.mpr ⟨(gw5 4 rfl rfl),
  List.forall_mem_cons.mpr ⟨(gw5 11 rfl rfl),
  List.forall_mem_cons.mpr ⟨(gw5 142 rfl rfl),
  List.forall_mem_cons.mpr ⟨(gw5 147 rfl rfl),
  List.forall_mem_cons.mpr ⟨(gw5 151 rfl rfl),
  List.forall_mem_cons.mpr ⟨(gw5 155 rfl rfl),
  List.forall_mem_cons.mpr ⟨(gw5 160 rfl rfl),
  List.forall_mem_cons.mpr ⟨(gw5 164 rfl rfl),
  List.forall_mem_cons.mpr ⟨(gw5 168 rfl rfl),
  List.forall_mem_cons.mpr ⟨(gw5 172 rfl rfl),
  List.forall_mem_cons.mpr ⟨(gw5 176 rfl rfl),
  List.forall_mem_cons.mpr ⟨(gw5 180 rfl rfl),
  List.forall_mem_cons.mpr ⟨(gw5 184 rfl rfl),
  fun _ h => absurd h List.not_mem_nil⟩⟩⟩⟩⟩⟩⟩⟩⟩⟩⟩⟩⟩⟩⟩⟩⟩⟩⟩⟩⟩⟩⟩⟩⟩⟩⟩⟩⟩⟩⟩⟩
def mlL5 : List (Nat × Nat × Nat) := [(12, 135, 49), (12, 152, 48), (12, 144, 46), (12, 148, 47), (19, 39, 53), (19, 43, 57), (12, 138, 56), (19, 48, 59), (19, 52, 62), (19, 56, 65), (19, 60, 70), (19, 67, 73), (19, 71, 103), (12, 171, 94), (12, 227, 102), (12, 208, 95), (12, 211, 97), (12, 194, 96), (12, 202, 98), (12, 214, 99), (12, 217, 100), (12, 221, 101), (19, 76, 105), (19, 80, 111), (12, 233, 110), (12, 161, 109), (19, 84, 117), (12, 254, 115), (12, 240, 116), (19, 88, 135), (12, 246, 134), (12, 237, 133)]
set_option maxRecDepth 8000 in
theorem mlL5_ok : ∀ q ∈ mlL5, Jvm.Cond.methodLink (owN q.1) q.2.1 (yOf q.2.2) ∈ GW := List.forall_mem_cons.mpr ⟨(gw5 188 rfl rfl),
  List.forall_mem_cons.mpr ⟨(gw5 192 rfl rfl),
  List.forall_mem_cons.mpr ⟨(gw5 196 rfl rfl),
  List.forall_mem_cons.mpr ⟨(gw5 200 rfl rfl),
  List.forall_mem_cons.mpr ⟨(gw5 204 rfl rfl),
  List.forall_mem_cons.mpr ⟨(gw5 208 rfl rfl),
  List.forall_mem_cons.mpr ⟨(gw5 212 rfl rfl),
  List.forall_mem_cons.mpr ⟨(gw5 216 rfl rfl),
  List.forall_mem_cons.mpr ⟨(gw5 220 rfl rfl),
  List.forall_mem_cons.mpr ⟨(gw5 224 rfl rfl),
  List.forall_mem_cons.mpr ⟨(gw5 228 rfl rfl),
  List.forall_mem_cons.mpr ⟨(gw5 232 rfl rfl),
  List.forall_mem_cons.mpr ⟨(gw5 238 rfl rfl),
  List.forall_mem_cons.mpr ⟨(gw6 2 rfl rfl),
  List.forall_mem_cons.mpr ⟨(gw6 6 rfl rfl),
  List.forall_mem_cons.mpr ⟨(gw6 10 rfl rfl),
  List.forall_mem_cons.mpr ⟨(gw6 20 rfl rfl),
  List.forall_mem_cons.mpr ⟨(gw6 24 rfl rfl),
  List.forall_mem_cons.mpr ⟨(gw6 27 rfl rfl),
  List.forall_mem_cons.mpr ⟨(gw6 31 rfl rfl),
  List.forall_mem_cons.mpr ⟨(gw6 35 rfl rfl),
  List.forall_mem_cons.mpr ⟨(gw6 41 rfl rfl),
  List.forall_mem_cons.mpr ⟨(gw6 44 rfl rfl),
  List.forall_mem_cons.mpr ⟨(gw6 48 rfl rfl),
  List.forall_mem_cons.mpr ⟨(gw6 53 rfl rfl),
  List.forall_mem_cons.mpr ⟨(gw6 57 rfl rfl),
  List.forall_mem_cons.mpr ⟨(gw6 61 rfl rfl),
  List.forall_mem_cons.mpr ⟨(gw6 65 rfl rfl),
  List.forall_mem_cons.mpr ⟨(gw6 69 rfl rfl),
  List.forall_mem_cons.mpr ⟨(gw6 73 rfl rfl),
  List.forall_mem_cons.mpr ⟨(gw6 78 rfl rfl),
  List.forall_mem_cons.mpr ⟨(gw6 82 rfl rfl),
  fun _ h => absurd h List.not_mem_nil⟩⟩⟩⟩⟩⟩⟩⟩⟩⟩⟩⟩⟩⟩⟩⟩⟩⟩⟩⟩⟩⟩⟩⟩⟩⟩⟩⟩⟩⟩⟩⟩
def mlL6 : List (Nat × Nat × Nat) := [(19, 92, 145), (12, 261, 140), (12, 265, 141), (12, 268, 142), (12, 271, 144), (12, 250, 143), (19, 97, 156), (12, 278, 153), (12, 275, 152), (12, 281, 154), (12, 284, 155), (19, 101, 162), (12, 287, 161), (19, 105, 164), (19, 109, 170), (12, 290, 169), (19, 113, 173), (19, 117, 177), (12, 293, 176), (19, 121, 185), (12, 304, 184), (12, 299, 183), (12, 296, 182), (19, 125, 193), (12, 316, 191), (12, 307, 190), (12, 320, 192), (19, 129, 197), (19, 133, 201), (19, 137, 209), (12, 325, 207), (12, 328, 208)]
set_option maxRecDepth 8000 in
theorem mlL6_ok : ∀ q ∈ mlL6, Jvm.Cond.methodLink (owN q.1) q.2.1 (yOf q.2.2) ∈ GW := List.forall_mem_cons.mpr ⟨(gw6 86 rfl rfl),
  List.forall_mem_cons.mpr ⟨(gw6 91 rfl rfl),
  List.forall_mem_cons.mpr ⟨(gw6 95 rfl rfl),
  List.forall_mem_cons.mpr ⟨(gw6 99 rfl rfl),
  List.forall_mem_cons.mpr ⟨(gw6 103 rfl rfl),
  List.forall_mem_cons.mpr ⟨(gw6 107 rfl rfl),
  List.forall_mem_cons.mpr ⟨(gw6 111 rfl rfl),
  List.forall_mem_cons.mpr ⟨(gw6 115 rfl rfl),
  List.forall_mem_cons.mpr ⟨(gw6 119 rfl rfl),
  List.forall_mem_cons.mpr ⟨(gw6 123 rfl rfl),
  List.forall_mem_cons.mpr ⟨(gw6 127 rfl rfl),
  List.forall_mem_cons.mpr ⟨(gw6 131 rfl rfl),
  List.forall_mem_cons.mpr ⟨(gw6 135 rfl rfl),
  List.forall_mem_cons.mpr ⟨(gw6 138 rfl rfl),
  List.forall_mem_cons.mpr ⟨(gw6 142 rfl rfl),
  List.forall_mem_cons.mpr ⟨(gw6 146 rfl rfl),
  List.forall_mem_cons.mpr ⟨(gw6 150 rfl rfl),
  List.forall_mem_cons.mpr ⟨(gw6 154 rfl rfl),
  List.forall_mem_cons.mpr ⟨(gw6 158 rfl rfl),
  List.forall_mem_cons.mpr ⟨(gw6 162 rfl rfl),
  List.forall_mem_cons.mpr ⟨(gw6 167 rfl rfl),
  List.forall_mem_cons.mpr ⟨(gw6 171 rfl rfl),
  List.forall_mem_cons.mpr ⟨(gw6 175 rfl rfl),
  List.forall_mem_cons.mpr ⟨(gw6 179 rfl rfl),
  List.forall_mem_cons.mpr ⟨(gw6 183 rfl rfl),
  List.forall_mem_cons.mpr ⟨(gw6 187 rfl rfl),
  List.forall_mem_cons.mpr ⟨(gw6 191 rfl rfl),
  List.forall_mem_cons.mpr ⟨(gw6 194 rfl rfl),
  List.forall_mem_cons.mpr ⟨(gw6 198 rfl rfl),
  List.forall_mem_cons.mpr ⟨(gw6 203 rfl rfl),
  List.forall_mem_cons.mpr ⟨(gw6 207 rfl rfl),
  List.forall_mem_cons.mpr ⟨(gw6 211 rfl rfl),
  fun _ h => absurd h List.not_mem_nil⟩⟩⟩⟩⟩⟩⟩⟩⟩⟩⟩⟩⟩⟩⟩⟩⟩⟩⟩⟩⟩⟩⟩⟩⟩⟩⟩⟩⟩⟩⟩⟩
def mlL : List (Nat × Nat × Nat) := mlL0 ++ mlL1 ++ mlL2 ++ mlL3 ++ mlL4 ++ mlL5 ++ mlL6
theorem mlL_ok : ∀ q ∈ mlL, Jvm.Cond.methodLink (owN q.1) q.2.1 (yOf q.2.2) ∈ GW := fun q => fun h => (List.mem_append.mp h).elim (fun h => (List.mem_append.mp h).elim (fun h => (List.mem_append.mp h).elim (fun h => (List.mem_append.mp h).elim (fun h => (List.mem_append.mp h).elim (fun h => (List.mem_append.mp h).elim (mlL0_ok q) (mlL1_ok q)) (mlL2_ok q)) (mlL3_ok q)) (mlL4_ok q)) (mlL5_ok q)) (mlL6_ok q)
def fdr (ci k : Nat) : String × String × String × Bool := (cls_.getD ci ("", fld0, 0)).2.1 k
def flL0 : List (Nat × Nat × Nat × Nat) := [(0, 9, 0, 0), (0, 19, 0, 1), (0, 15, 0, 4), (1, 11, 1, 0), (1, 18, 1, 1), (2, 9, 2, 0), (2, 15, 2, 1), (2, 18, 2, 2), (3, 24, 3, 0), (3, 9, 3, 1), (3, 15, 3, 2), (3, 18, 3, 3), (3, 21, 3, 4), (3, 28, 3, 5), (4, 9, 4, 0), (4, 15, 4, 1), (4, 31, 4, 2), (4, 22, 4, 3), (4, 28, 4, 4), (4, 25, 4, 5), (4, 18, 4, 6), (5, 9, 5, 0), (5, 15, 5, 1), (5, 20, 5, 2), (5, 23, 5, 3), (6, 37, 6, 0), (6, 41, 6, 1), (6, 45, 6, 2), (6, 11, 6, 3), (6, 16, 6, 4), (6, 20, 6, 5), (6, 23, 6, 6)]
set_option maxRecDepth 8000 in
theorem flL0_ok : ∀ q ∈ flL0, Jvm.Cond.fieldLink (owN q.1) q.2.1 (fdr q.2.2.1 q.2.2.2).1 (fdr q.2.2.1 q.2.2.2).2.1 (fdr q.2.2.1 q.2.2.2).2.2.1 ∈ GW := List.forall_mem_cons.mpr ⟨(gw1 42 rfl rfl),
  List.forall_mem_cons.mpr ⟨(gw1 47 rfl rfl),
  List.forall_mem_cons.mpr ⟨(gw1 53 rfl rfl),
  List.forall_mem_cons.mpr ⟨(gw1 72 rfl rfl),
  List.forall_mem_cons.mpr ⟨(gw1 78 rfl rfl),
  List.forall_mem_cons.mpr ⟨(gw1 94 rfl rfl),
  List.forall_mem_cons.mpr ⟨(gw1 97 rfl rfl),
  List.forall_mem_cons.mpr ⟨(gw1 98 rfl rfl),
  List.forall_mem_cons.mpr ⟨(gw1 115 rfl rfl),
  List.forall_mem_cons.mpr ⟨(gw1 116 rfl rfl),
  List.forall_mem_cons.mpr ⟨(gw1 117 rfl rfl),
  List.forall_mem_cons.mpr ⟨(gw1 118 rfl rfl),
  List.forall_mem_cons.mpr ⟨(gw1 119 rfl rfl),
  List.forall_mem_cons.mpr ⟨(gw1 120 rfl rfl),
  List.forall_mem_cons.mpr ⟨(gw1 141 rfl rfl),
  List.forall_mem_cons.mpr ⟨(gw1 142 rfl rfl),
  List.forall_mem_cons.mpr ⟨(gw1 144 rfl rfl),
  List.forall_mem_cons.mpr ⟨(gw1 146 rfl rfl),
  List.forall_mem_cons.mpr ⟨(gw1 148 rfl rfl),
  List.forall_mem_cons.mpr ⟨(gw1 149 rfl rfl),
  List.forall_mem_cons.mpr ⟨(gw1 150 rfl rfl),
  List.forall_mem_cons.mpr ⟨(gw1 175 rfl rfl),
  List.forall_mem_cons.mpr ⟨(gw1 176 rfl rfl),
  List.forall_mem_cons.mpr ⟨(gw1 177 rfl rfl),
  List.forall_mem_cons.mpr ⟨(gw1 178 rfl rfl),
  List.forall_mem_cons.mpr ⟨(gw1 197 rfl rfl),
  List.forall_mem_cons.mpr ⟨(gw1 198 rfl rfl),
  List.forall_mem_cons.mpr ⟨(gw1 199 rfl rfl),
  List.forall_mem_cons.mpr ⟨(gw1 200 rfl rfl),
  List.forall_mem_cons.mpr ⟨(gw1 201 rfl rfl),
  List.forall_mem_cons.mpr ⟨(gw1 202 rfl rfl),
  List.forall_mem_cons.mpr ⟨(gw1 203 rfl rfl),
  fun _ h => absurd h List.not_mem_nil⟩⟩⟩⟩⟩⟩⟩⟩⟩⟩⟩⟩⟩⟩⟩⟩⟩⟩⟩⟩⟩⟩⟩⟩⟩⟩⟩⟩⟩⟩⟩⟩
def flL1 : List (Nat × Nat × Nat × Nat) := [(6, 27, 6, 7), (6, 30, 6, 8), (6, 33, 6, 9), (6, 83, 6, 10), (6, 88, 6, 11), (6, 91, 6, 12), (6, 94, 6, 13), (6, 98, 6, 14), (7, 27, 7, 0), (7, 9, 7, 1), (7, 15, 7, 2), (7, 18, 7, 3), (7, 21, 7, 4), (7, 24, 7, 5), (7, 35, 7, 6), (7, 39, 7, 7), (8, 19, 8, 0), (8, 23, 8, 1), (8, 27, 8, 2), (8, 11, 8, 3), (8, 16, 8, 4), (8, 31, 8, 5), (8, 83, 8, 6), (8, 86, 8, 7), (8, 89, 8, 8), (8, 92, 8, 9), (9, 23, 9, 0), (9, 11, 9, 1), (9, 16, 9, 2), (9, 20, 9, 3), (9, 60, 9, 4), (9, 63, 9, 5)]
set_option maxRecDepth 8000 in
theorem flL1_ok : ∀ q ∈ flL1, Jvm.Cond.fieldLink (owN q.1) q.2.1 (fdr q.2.2.1 q.2.2.2).1 (fdr q.2.2.1 q.2.2.2).2.1 (fdr q.2.2.1 q.2.2.2).2.2.1 ∈ GW := List.forall_mem_cons.mpr ⟨(gw1 204 rfl rfl),
  List.forall_mem_cons.mpr ⟨(gw1 205 rfl rfl),
  List.forall_mem_cons.mpr ⟨(gw1 206 rfl rfl),
  List.forall_mem_cons.mpr ⟨(gw1 209 rfl rfl),
  List.forall_mem_cons.mpr ⟨(gw1 210 rfl rfl),
  List.forall_mem_cons.mpr ⟨(gw1 212 rfl rfl),
  List.forall_mem_cons.mpr ⟨(gw1 213 rfl rfl),
  List.forall_mem_cons.mpr ⟨(gw1 214 rfl rfl),
  List.forall_mem_cons.mpr ⟨(gw2 13 rfl rfl),
  List.forall_mem_cons.mpr ⟨(gw2 14 rfl rfl),
  List.forall_mem_cons.mpr ⟨(gw2 15 rfl rfl),
  List.forall_mem_cons.mpr ⟨(gw2 16 rfl rfl),
  List.forall_mem_cons.mpr ⟨(gw2 17 rfl rfl),
  List.forall_mem_cons.mpr ⟨(gw2 20 rfl rfl),
  List.forall_mem_cons.mpr ⟨(gw2 23 rfl rfl),
  List.forall_mem_cons.mpr ⟨(gw2 26 rfl rfl),
  List.forall_mem_cons.mpr ⟨(gw2 52 rfl rfl),
  List.forall_mem_cons.mpr ⟨(gw2 53 rfl rfl),
  List.forall_mem_cons.mpr ⟨(gw2 54 rfl rfl),
  List.forall_mem_cons.mpr ⟨(gw2 55 rfl rfl),
  List.forall_mem_cons.mpr ⟨(gw2 56 rfl rfl),
  List.forall_mem_cons.mpr ⟨(gw2 57 rfl rfl),
  List.forall_mem_cons.mpr ⟨(gw2 59 rfl rfl),
  List.forall_mem_cons.mpr ⟨(gw2 61 rfl rfl),
  List.forall_mem_cons.mpr ⟨(gw2 63 rfl rfl),
  List.forall_mem_cons.mpr ⟨(gw2 65 rfl rfl),
  List.forall_mem_cons.mpr ⟨(gw2 94 rfl rfl),
  List.forall_mem_cons.mpr ⟨(gw2 95 rfl rfl),
  List.forall_mem_cons.mpr ⟨(gw2 96 rfl rfl),
  List.forall_mem_cons.mpr ⟨(gw2 98 rfl rfl),
  List.forall_mem_cons.mpr ⟨(gw2 99 rfl rfl),
  List.forall_mem_cons.mpr ⟨(gw2 101 rfl rfl),
  fun _ h => absurd h List.not_mem_nil⟩⟩⟩⟩⟩⟩⟩⟩⟩⟩⟩⟩⟩⟩⟩⟩⟩⟩⟩⟩⟩⟩⟩⟩⟩⟩⟩⟩⟩⟩⟩⟩
def flL2 : List (Nat × Nat × Nat × Nat) := [(10, 9, 10, 0), (10, 15, 10, 1), (10, 18, 10, 2), (10, 21, 10, 3), (10, 28, 10, 4), (10, 32, 10, 5), (11, 10, 11, 0), (11, 19, 11, 1), (11, 28, 11, 2), (11, 35, 11, 3), (11, 42, 11, 4), (11, 51, 11, 5), (11, 60, 11, 6), (11, 69, 11, 7), (11, 76, 11, 8), (11, 83, 11, 9), (12, 99, 12, 0), (12, 7, 12, 1), (12, 13, 12, 2), (12, 16, 12, 3), (12, 19, 12, 4), (12, 22, 12, 5), (12, 26, 12, 6), (12, 29, 12, 7), (12, 110, 12, 8), (12, 141, 12, 9), (12, 32, 12, 10), (12, 35, 12, 11), (12, 38, 12, 12), (12, 41, 12, 13), (12, 155, 12, 14), (12, 44, 12, 15)]
set_option maxRecDepth 8000 in
theorem flL2_ok : ∀ q ∈ flL2, Jvm.Cond.fieldLink (owN q.1) q.2.1 (fdr q.2.2.1 q.2.2.2).1 (fdr q.2.2.1 q.2.2.2).2.1 (fdr q.2.2.1 q.2.2.2).2.2.1 ∈ GW := List.forall_mem_cons.mpr ⟨(gw2 122 rfl rfl),
  List.forall_mem_cons.mpr ⟨(gw2 123 rfl rfl),
  List.forall_mem_cons.mpr ⟨(gw2 124 rfl rfl),
  List.forall_mem_cons.mpr ⟨(gw2 125 rfl rfl),
  List.forall_mem_cons.mpr ⟨(gw2 126 rfl rfl),
  List.forall_mem_cons.mpr ⟨(gw2 128 rfl rfl),
  List.forall_mem_cons.mpr ⟨(gw2 143 rfl rfl),
  List.forall_mem_cons.mpr ⟨(gw2 144 rfl rfl),
  List.forall_mem_cons.mpr ⟨(gw2 145 rfl rfl),
  List.forall_mem_cons.mpr ⟨(gw2 146 rfl rfl),
  List.forall_mem_cons.mpr ⟨(gw2 147 rfl rfl),
  List.forall_mem_cons.mpr ⟨(gw2 148 rfl rfl),
  List.forall_mem_cons.mpr ⟨(gw2 149 rfl rfl),
  List.forall_mem_cons.mpr ⟨(gw2 150 rfl rfl),
  List.forall_mem_cons.mpr ⟨(gw2 151 rfl rfl),
  List.forall_mem_cons.mpr ⟨(gw2 152 rfl rfl),
  List.forall_mem_cons.mpr ⟨(gw5 15 rfl rfl),
  List.forall_mem_cons.mpr ⟨(gw5 16 rfl rfl),
  List.forall_mem_cons.mpr ⟨(gw5 17 rfl rfl),
  List.forall_mem_cons.mpr ⟨(gw5 18 rfl rfl),
  List.forall_mem_cons.mpr ⟨(gw5 19 rfl rfl),
  List.forall_mem_cons.mpr ⟨(gw5 20 rfl rfl),
  List.forall_mem_cons.mpr ⟨(gw5 21 rfl rfl),
  List.forall_mem_cons.mpr ⟨(gw5 22 rfl rfl),
  List.forall_mem_cons.mpr ⟨(gw5 23 rfl rfl),
  List.forall_mem_cons.mpr ⟨(gw5 24 rfl rfl),
  List.forall_mem_cons.mpr ⟨(gw5 25 rfl rfl),
  List.forall_mem_cons.mpr ⟨(gw5 26 rfl rfl),
  List.forall_mem_cons.mpr ⟨(gw5 27 rfl rfl),
  List.forall_mem_cons.mpr ⟨(gw5 28 rfl rfl),
  List.forall_mem_cons.mpr ⟨(gw5 29 rfl rfl),
  List.forall_mem_cons.mpr ⟨(gw5 30 rfl rfl),
  fun _ h => absurd h List.not_mem_nil⟩⟩⟩⟩⟩⟩⟩⟩⟩⟩⟩⟩⟩⟩⟩⟩⟩⟩⟩⟩⟩⟩⟩⟩⟩⟩⟩⟩⟩⟩⟩⟩
def flL3 : List (Nat × Nat × Nat × Nat) := [(12, 47, 12, 16), (12, 224, 12, 17), (12, 50, 12, 18), (12, 53, 12, 19), (12, 56, 12, 20), (12, 59, 12, 21), (12, 62, 12, 22), (12, 158, 12, 23), (12, 65, 12, 24), (12, 168, 12, 25), (12, 175, 12, 26), (12, 179, 12, 27), (12, 205, 12, 28), (12, 69, 12, 29), (12, 243, 12, 30), (12, 72, 12, 31), (12, 75, 12, 32), (12, 78, 12, 33), (12, 81, 12, 34), (12, 310, 12, 35), (12, 313, 12, 36), (12, 84, 12, 37), (12, 87, 12, 38), (12, 90, 12, 39), (12, 93, 12, 40), (12, 96, 12, 41)]
set_option maxRecDepth 8000 in
theorem flL3_ok : ∀ q ∈ flL3, Jvm.Cond.fieldLink (owN q.1) q.2.1 (fdr q.2.2.1 q.2.2.2).1 (fdr q.2.2.1 q.2.2.2).2.1 (fdr q.2.2.1 q.2.2.2).2.2.1 ∈ GW := List.forall_mem_cons.mpr ⟨(gw5 31 rfl rfl),
  List.forall_mem_cons.mpr ⟨(gw5 32 rfl rfl),
  List.forall_mem_cons.mpr ⟨(gw5 33 rfl rfl),
  List.forall_mem_cons.mpr ⟨(gw5 34 rfl rfl),
  List.forall_mem_cons.mpr ⟨(gw5 35 rfl rfl),
  List.forall_mem_cons.mpr ⟨(gw5 36 rfl rfl),
  List.forall_mem_cons.mpr ⟨(gw5 37 rfl rfl),
  List.forall_mem_cons.mpr ⟨(gw5 38 rfl rfl),
  List.forall_mem_cons.mpr ⟨(gw5 39 rfl rfl),
  List.forall_mem_cons.mpr ⟨(gw5 40 rfl rfl),
  List.forall_mem_cons.mpr ⟨(gw5 41 rfl rfl),
  List.forall_mem_cons.mpr ⟨(gw5 42 rfl rfl),
  List.forall_mem_cons.mpr ⟨(gw5 43 rfl rfl),
  List.forall_mem_cons.mpr ⟨(gw5 44 rfl rfl),
  List.forall_mem_cons.mpr ⟨(gw5 45 rfl rfl),
  List.forall_mem_cons.mpr ⟨(gw5 46 rfl rfl),
  List.forall_mem_cons.mpr ⟨(gw5 47 rfl rfl),
  List.forall_mem_cons.mpr ⟨(gw5 48 rfl rfl),
  List.forall_mem_cons.mpr ⟨(gw5 49 rfl rfl),
  List.forall_mem_cons.mpr ⟨(gw5 50 rfl rfl),
  List.forall_mem_cons.mpr ⟨(gw5 51 rfl rfl),
  List.forall_mem_cons.mpr ⟨(gw5 52 rfl rfl),
  List.forall_mem_cons.mpr ⟨(gw5 53 rfl rfl),
  List.forall_mem_cons.mpr ⟨(gw5 54 rfl rfl),
  List.forall_mem_cons.mpr ⟨(gw5 55 rfl rfl),
  List.forall_mem_cons.mpr ⟨(gw5 56 rfl rfl),
  fun _ h => absurd h List.not_mem_nil⟩⟩⟩⟩⟩⟩⟩⟩⟩⟩⟩⟩⟩⟩⟩⟩⟩⟩⟩⟩⟩⟩⟩⟩⟩⟩
def flL : List (Nat × Nat × Nat × Nat) := flL0 ++ flL1 ++ flL2 ++ flL3
theorem flL_ok : ∀ q ∈ flL, Jvm.Cond.fieldLink (owN q.1) q.2.1 (fdr q.2.2.1 q.2.2.2).1 (fdr q.2.2.1 q.2.2.2).2.1 (fdr q.2.2.1 q.2.2.2).2.2.1 ∈ GW := fun q => fun h => (List.mem_append.mp h).elim (fun h => (List.mem_append.mp h).elim (fun h => (List.mem_append.mp h).elim (flL0_ok q) (flL1_ok q)) (flL2_ok q)) (flL3_ok q)
def NW : List Jvm.Cond := [Jvm.Cond.methodLinkNest "BorrowedWords$Shelf" 17 ⟨"BorrowedWords$Text", "<init>", "()V"⟩ "BorrowedWords",
  Jvm.Cond.methodLinkNest "BorrowedWords" 34 ⟨"BorrowedWords$RuleReader", "<init>", "()V"⟩ "BorrowedWords",
  Jvm.Cond.methodLinkNest "BorrowedWords" 41 ⟨"BorrowedWords$RuleBook", "<init>", "()V"⟩ "BorrowedWords",
  Jvm.Cond.methodLinkNest "BorrowedWords" 82 ⟨"BorrowedWords$Sentences", "<init>", "()V"⟩ "BorrowedWords",
  Jvm.Cond.methodLinkNest "BorrowedWords$Sentences" 48 ⟨"BorrowedWords$Text", "repeats", "(ILBorrowedWords$Text;II)Z"⟩ "BorrowedWords",
  Jvm.Cond.fieldLinkNest "BorrowedWords$RowTable" 41 "BorrowedWords$Text" "words" "[I" "BorrowedWords",
  Jvm.Cond.fieldLinkNest "BorrowedWords$Runs" 102 "BorrowedWords$Text" "words" "[I" "BorrowedWords",
  Jvm.Cond.fieldLinkNest "BorrowedWords" 143 "BorrowedWords$Text" "words" "[I" "BorrowedWords",
  Jvm.Cond.fieldLinkNest "BorrowedWords" 129 "BorrowedWords$Text" "stops" "J" "BorrowedWords",
  Jvm.Cond.fieldLinkNest "BorrowedWords$Shelf" 22 "BorrowedWords$Text" "writer" "I" "BorrowedWords",
  Jvm.Cond.fieldLinkNest "BorrowedWords" 150 "BorrowedWords$Text" "writer" "I" "BorrowedWords",
  Jvm.Cond.fieldLinkNest "BorrowedWords$Runs" 55 "BorrowedWords$Text" "day" "I" "BorrowedWords",
  Jvm.Cond.fieldLinkNest "BorrowedWords$Shelf" 25 "BorrowedWords$Text" "day" "I" "BorrowedWords",
  Jvm.Cond.fieldLinkNest "BorrowedWords" 153 "BorrowedWords$Text" "day" "I" "BorrowedWords",
  Jvm.Cond.fieldLinkNest "BorrowedWords$RowTable" 33 "BorrowedWords$Text" "size" "I" "BorrowedWords",
  Jvm.Cond.fieldLinkNest "BorrowedWords$Sentences" 39 "BorrowedWords$Text" "size" "I" "BorrowedWords",
  Jvm.Cond.fieldLinkNest "BorrowedWords$Ways" 63 "BorrowedWords$Text" "size" "I" "BorrowedWords",
  Jvm.Cond.fieldLinkNest "BorrowedWords" 121 "BorrowedWords$Text" "size" "I" "BorrowedWords",
  Jvm.Cond.fieldLinkNest "BorrowedWords$Shelf" 28 "BorrowedWords$Text" "size" "I" "BorrowedWords",
  Jvm.Cond.fieldLinkNest "BorrowedWords$Runs" 101 "BorrowedWords$Text" "size" "I" "BorrowedWords",
  Jvm.Cond.fieldLinkNest "BorrowedWords$Runs" 49 "BorrowedWords$Shelf" "texts" "[LBorrowedWords$Text;" "BorrowedWords",
  Jvm.Cond.fieldLinkNest "BorrowedWords$RowTable" 27 "BorrowedWords$Shelf" "texts" "[LBorrowedWords$Text;" "BorrowedWords",
  Jvm.Cond.fieldLinkNest "BorrowedWords" 108 "BorrowedWords$Shelf" "texts" "[LBorrowedWords$Text;" "BorrowedWords",
  Jvm.Cond.fieldLinkNest "BorrowedWords$Ways" 59 "BorrowedWords$Shelf" "texts" "[LBorrowedWords$Text;" "BorrowedWords",
  Jvm.Cond.fieldLinkNest "BorrowedWords$Marks" 38 "BorrowedWords$Shelf" "texts" "[LBorrowedWords$Text;" "BorrowedWords",
  Jvm.Cond.fieldLinkNest "BorrowedWords$Ways" 35 "BorrowedWords$Shelf" "size" "I" "BorrowedWords",
  Jvm.Cond.fieldLinkNest "BorrowedWords" 91 "BorrowedWords$Shelf" "size" "I" "BorrowedWords",
  Jvm.Cond.fieldLinkNest "BorrowedWords$Runs" 66 "BorrowedWords$Shelf" "size" "I" "BorrowedWords",
  Jvm.Cond.fieldLinkNest "BorrowedWords$RowTable" 48 "BorrowedWords$Shelf" "size" "I" "BorrowedWords",
  Jvm.Cond.fieldLinkNest "BorrowedWords$Runs" 115 "BorrowedWords$Lexicon" "meaning" "[I" "BorrowedWords",
  Jvm.Cond.fieldLinkNest "BorrowedWords" 166 "BorrowedWords$Lexicon" "meaning" "[I" "BorrowedWords",
  Jvm.Cond.fieldLinkNest "BorrowedWords$Runs" 109 "BorrowedWords$Lexicon" "isCommon" "[Z" "BorrowedWords",
  Jvm.Cond.fieldLinkNest "BorrowedWords" 172 "BorrowedWords$Lexicon" "isCommon" "[Z" "BorrowedWords",
  Jvm.Cond.fieldLinkNest "BorrowedWords" 176 "BorrowedWords$Marks" "size" "I" "BorrowedWords",
  Jvm.Cond.fieldLinkNest "BorrowedWords" 205 "BorrowedWords$RuleReader" "told" "[I" "BorrowedWords",
  Jvm.Cond.fieldLinkNest "BorrowedWords" 208 "BorrowedWords$RuleReader" "struck" "I" "BorrowedWords",
  Jvm.Cond.fieldLinkNest "BorrowedWords" 190 "BorrowedWords$RuleReader" "length" "I" "BorrowedWords",
  Jvm.Cond.fieldLinkNest "BorrowedWords" 214 "BorrowedWords$RuleReader" "faultPlace" "I" "BorrowedWords",
  Jvm.Cond.fieldLinkNest "BorrowedWords" 189 "BorrowedWords$RuleBook" "size" "I" "BorrowedWords",
  Jvm.Cond.fieldLinkNest "BorrowedWords" 335 "BorrowedWords$Runs" "looked" "I" "BorrowedWords",
  Jvm.Cond.fieldLinkNest "BorrowedWords$Explanation" 43 "BorrowedWords$Runs" "size" "I" "BorrowedWords",
  Jvm.Cond.fieldLinkNest "BorrowedWords$Explanation" 56 "BorrowedWords$Runs" "least" "I" "BorrowedWords",
  Jvm.Cond.fieldLinkNest "BorrowedWords$Ways" 69 "BorrowedWords$Explanation" "starts" "[I" "BorrowedWords",
  Jvm.Cond.fieldLinkNest "BorrowedWords" 245 "BorrowedWords$Explanation" "starts" "[I" "BorrowedWords",
  Jvm.Cond.fieldLinkNest "BorrowedWords$Ways" 73 "BorrowedWords$Explanation" "sizes" "[I" "BorrowedWords",
  Jvm.Cond.fieldLinkNest "BorrowedWords" 248 "BorrowedWords$Explanation" "sizes" "[I" "BorrowedWords",
  Jvm.Cond.fieldLinkNest "BorrowedWords$Ways" 66 "BorrowedWords$Explanation" "pieces" "I" "BorrowedWords",
  Jvm.Cond.fieldLinkNest "BorrowedWords" 242 "BorrowedWords$Explanation" "pieces" "I" "BorrowedWords",
  Jvm.Cond.fieldLinkNest "BorrowedWords" 326 "BorrowedWords$Explanation" "taken" "J" "BorrowedWords",
  Jvm.Cond.fieldLinkNest "BorrowedWords" 338 "BorrowedWords$Ways" "known" "Z" "BorrowedWords",
  Jvm.Cond.fieldLinkNest "BorrowedWords" 273 "BorrowedWords$Ways" "endText" "I" "BorrowedWords",
  Jvm.Cond.fieldLinkNest "BorrowedWords" 276 "BorrowedWords$Ways" "endPlace" "I" "BorrowedWords",
  Jvm.Cond.fieldLinkNest "BorrowedWords" 279 "BorrowedWords$Ways" "steps" "I" "BorrowedWords",
  Jvm.Cond.fieldLinkNest "BorrowedWords" 294 "BorrowedWords$RowTable" "sizes" "[I" "BorrowedWords",
  Jvm.Cond.fieldLinkNest "BorrowedWords" 298 "BorrowedWords$RowTable" "upper" "I" "BorrowedWords",
  Jvm.Cond.fieldLinkNest "BorrowedWords" 301 "BorrowedWords$RowTable" "lower" "I" "BorrowedWords",
  Jvm.Cond.fieldLinkNest "BorrowedWords" 320 "BorrowedWords$Sentences" "countOfX" "I" "BorrowedWords",
  Jvm.Cond.fieldLinkNest "BorrowedWords" 314 "BorrowedWords$Sentences" "kept" "I" "BorrowedWords",
  Jvm.Cond.fieldLinkNest "BorrowedWords$RuleReader" 66 "BorrowedWords" "LOWEST" "[I" "BorrowedWords",
  Jvm.Cond.fieldLinkNest "BorrowedWords$RuleReader" 69 "BorrowedWords" "HIGHEST" "[I" "BorrowedWords",
  Jvm.Cond.fieldLinkNest "BorrowedWords$RuleBook" 31 "BorrowedWords" "AT_FIRST" "[I" "BorrowedWords"]
set_option maxRecDepth 8000 in
theorem NW_tb : ∀ w ∈ NW, w ∈ tables_1 := List.forall_mem_cons.mpr ⟨(tb1 (List.mem_of_getElem? (i := 38) rfl)),
  List.forall_mem_cons.mpr ⟨(tb1 (List.mem_of_getElem? (i := 137) rfl)),
  List.forall_mem_cons.mpr ⟨(tb1 (List.mem_of_getElem? (i := 169) rfl)),
  List.forall_mem_cons.mpr ⟨(tb2 (List.mem_of_getElem? (i := 118) rfl)),
  List.forall_mem_cons.mpr ⟨(tb5 (List.mem_of_getElem? (i := 3) rfl)),
  List.forall_mem_cons.mpr ⟨(tb1 (List.mem_of_getElem? (i := 43) rfl)),
  List.forall_mem_cons.mpr ⟨(tb1 (List.mem_of_getElem? (i := 44) rfl)),
  List.forall_mem_cons.mpr ⟨(tb1 (List.mem_of_getElem? (i := 45) rfl)),
  List.forall_mem_cons.mpr ⟨(tb1 (List.mem_of_getElem? (i := 46) rfl)),
  List.forall_mem_cons.mpr ⟨(tb1 (List.mem_of_getElem? (i := 48) rfl)),
  List.forall_mem_cons.mpr ⟨(tb1 (List.mem_of_getElem? (i := 49) rfl)),
  List.forall_mem_cons.mpr ⟨(tb1 (List.mem_of_getElem? (i := 50) rfl)),
  List.forall_mem_cons.mpr ⟨(tb1 (List.mem_of_getElem? (i := 51) rfl)),
  List.forall_mem_cons.mpr ⟨(tb1 (List.mem_of_getElem? (i := 52) rfl)),
  List.forall_mem_cons.mpr ⟨(tb1 (List.mem_of_getElem? (i := 54) rfl)),
  List.forall_mem_cons.mpr ⟨(tb1 (List.mem_of_getElem? (i := 55) rfl)),
  List.forall_mem_cons.mpr ⟨(tb1 (List.mem_of_getElem? (i := 56) rfl)),
  List.forall_mem_cons.mpr ⟨(tb1 (List.mem_of_getElem? (i := 57) rfl)),
  List.forall_mem_cons.mpr ⟨(tb1 (List.mem_of_getElem? (i := 58) rfl)),
  List.forall_mem_cons.mpr ⟨(tb1 (List.mem_of_getElem? (i := 59) rfl)),
  List.forall_mem_cons.mpr ⟨(tb1 (List.mem_of_getElem? (i := 73) rfl)),
  List.forall_mem_cons.mpr ⟨(tb1 (List.mem_of_getElem? (i := 74) rfl)),
  List.forall_mem_cons.mpr ⟨(tb1 (List.mem_of_getElem? (i := 75) rfl)),
  List.forall_mem_cons.mpr ⟨(tb1 (List.mem_of_getElem? (i := 76) rfl)),
  List.forall_mem_cons.mpr ⟨(tb1 (List.mem_of_getElem? (i := 77) rfl)),
  List.forall_mem_cons.mpr ⟨(tb1 (List.mem_of_getElem? (i := 79) rfl)),
  List.forall_mem_cons.mpr ⟨(tb1 (List.mem_of_getElem? (i := 80) rfl)),
  List.forall_mem_cons.mpr ⟨(tb1 (List.mem_of_getElem? (i := 81) rfl)),
  List.forall_mem_cons.mpr ⟨(tb1 (List.mem_of_getElem? (i := 82) rfl)),
  List.forall_mem_cons.mpr ⟨(tb1 (List.mem_of_getElem? (i := 95) rfl)),
  List.forall_mem_cons.mpr ⟨(tb1 (List.mem_of_getElem? (i := 96) rfl)),
  List.forall_mem_cons.mpr ⟨(tb1 (List.mem_of_getElem? (i := 99) rfl)),
  List.forall_mem_cons.mpr ⟨(tb1 (List.mem_of_getElem? (i := 100) rfl)),
  List.forall_mem_cons.mpr ⟨(tb1 (List.mem_of_getElem? (i := 121) rfl)),
  List.forall_mem_cons.mpr ⟨(tb1 (List.mem_of_getElem? (i := 143) rfl)),
  List.forall_mem_cons.mpr ⟨(tb1 (List.mem_of_getElem? (i := 145) rfl)),
  List.forall_mem_cons.mpr ⟨(tb1 (List.mem_of_getElem? (i := 147) rfl)),
  List.forall_mem_cons.mpr ⟨(tb1 (List.mem_of_getElem? (i := 151) rfl)),
  List.forall_mem_cons.mpr ⟨(tb1 (List.mem_of_getElem? (i := 179) rfl)),
  List.forall_mem_cons.mpr ⟨(tb1 (List.mem_of_getElem? (i := 207) rfl)),
  List.forall_mem_cons.mpr ⟨(tb1 (List.mem_of_getElem? (i := 208) rfl)),
  List.forall_mem_cons.mpr ⟨(tb1 (List.mem_of_getElem? (i := 211) rfl)),
  List.forall_mem_cons.mpr ⟨(tb2 (List.mem_of_getElem? (i := 18) rfl)),
  List.forall_mem_cons.mpr ⟨(tb2 (List.mem_of_getElem? (i := 19) rfl)),
  List.forall_mem_cons.mpr ⟨(tb2 (List.mem_of_getElem? (i := 21) rfl)),
  List.forall_mem_cons.mpr ⟨(tb2 (List.mem_of_getElem? (i := 22) rfl)),
  List.forall_mem_cons.mpr ⟨(tb2 (List.mem_of_getElem? (i := 24) rfl)),
  List.forall_mem_cons.mpr ⟨(tb2 (List.mem_of_getElem? (i := 25) rfl)),
  List.forall_mem_cons.mpr ⟨(tb2 (List.mem_of_getElem? (i := 27) rfl)),
  List.forall_mem_cons.mpr ⟨(tb2 (List.mem_of_getElem? (i := 58) rfl)),
  List.forall_mem_cons.mpr ⟨(tb2 (List.mem_of_getElem? (i := 60) rfl)),
  List.forall_mem_cons.mpr ⟨(tb2 (List.mem_of_getElem? (i := 62) rfl)),
  List.forall_mem_cons.mpr ⟨(tb2 (List.mem_of_getElem? (i := 64) rfl)),
  List.forall_mem_cons.mpr ⟨(tb2 (List.mem_of_getElem? (i := 97) rfl)),
  List.forall_mem_cons.mpr ⟨(tb2 (List.mem_of_getElem? (i := 100) rfl)),
  List.forall_mem_cons.mpr ⟨(tb2 (List.mem_of_getElem? (i := 102) rfl)),
  List.forall_mem_cons.mpr ⟨(tb2 (List.mem_of_getElem? (i := 127) rfl)),
  List.forall_mem_cons.mpr ⟨(tb2 (List.mem_of_getElem? (i := 129) rfl)),
  List.forall_mem_cons.mpr ⟨(tb3 (List.mem_of_getElem? (i := 197) rfl)),
  List.forall_mem_cons.mpr ⟨(tb3 (List.mem_of_getElem? (i := 199) rfl)),
  List.forall_mem_cons.mpr ⟨(tb3 (List.mem_of_getElem? (i := 222) rfl)),
  fun _ h => absurd h List.not_mem_nil⟩⟩⟩⟩⟩⟩⟩⟩⟩⟩⟩⟩⟩⟩⟩⟩⟩⟩⟩⟩⟩⟩⟩⟩⟩⟩⟩⟩⟩⟩⟩⟩⟩⟩⟩⟩⟩⟩⟩⟩⟩⟩⟩⟩⟩⟩⟩⟩⟩⟩⟩⟩⟩⟩⟩⟩⟩⟩⟩⟩⟩
def mnL : List (Nat × Nat × Nat) := [(1, 17, 0), (11, 34, 4), (11, 41, 5), (11, 82, 10), (10, 48, 40)]
set_option maxRecDepth 8000 in
theorem mnL_ok : ∀ q ∈ mnL, Jvm.Cond.methodLinkNest (owN q.1) q.2.1 (yOf q.2.2) "BorrowedWords" ∈ NW := List.forall_mem_cons.mpr ⟨(List.mem_of_getElem? (i := 0) rfl),
  List.forall_mem_cons.mpr ⟨(List.mem_of_getElem? (i := 1) rfl),
  List.forall_mem_cons.mpr ⟨(List.mem_of_getElem? (i := 2) rfl),
  List.forall_mem_cons.mpr ⟨(List.mem_of_getElem? (i := 3) rfl),
  List.forall_mem_cons.mpr ⟨(List.mem_of_getElem? (i := 4) rfl),
  fun _ h => absurd h List.not_mem_nil⟩⟩⟩⟩⟩
def fnL0 : List (Nat × Nat × Nat × Nat) := [(9, 41, 0, 0), (6, 102, 0, 0), (11, 143, 0, 0), (11, 129, 0, 1), (1, 22, 0, 2), (11, 150, 0, 2), (6, 55, 0, 3), (1, 25, 0, 3), (11, 153, 0, 3), (9, 33, 0, 4), (10, 39, 0, 4), (8, 63, 0, 4), (11, 121, 0, 4), (1, 28, 0, 4), (6, 101, 0, 4), (6, 49, 1, 0), (9, 27, 1, 0), (11, 108, 1, 0), (8, 59, 1, 0), (3, 38, 1, 0), (8, 35, 1, 1), (11, 91, 1, 1), (6, 66, 1, 1), (9, 48, 1, 1), (6, 115, 2, 0), (11, 166, 2, 0), (6, 109, 2, 2), (11, 172, 2, 2), (11, 176, 3, 5), (11, 205, 4, 1), (11, 208, 4, 2), (11, 190, 4, 3)]
set_option maxRecDepth 8000 in
theorem fnL0_ok : ∀ q ∈ fnL0, Jvm.Cond.fieldLinkNest (owN q.1) q.2.1 (fdr q.2.2.1 q.2.2.2).1 (fdr q.2.2.1 q.2.2.2).2.1 (fdr q.2.2.1 q.2.2.2).2.2.1 "BorrowedWords" ∈ NW := List.forall_mem_cons.mpr ⟨(List.mem_of_getElem? (i := 5) rfl),
  List.forall_mem_cons.mpr ⟨(List.mem_of_getElem? (i := 6) rfl),
  List.forall_mem_cons.mpr ⟨(List.mem_of_getElem? (i := 7) rfl),
  List.forall_mem_cons.mpr ⟨(List.mem_of_getElem? (i := 8) rfl),
  List.forall_mem_cons.mpr ⟨(List.mem_of_getElem? (i := 9) rfl),
  List.forall_mem_cons.mpr ⟨(List.mem_of_getElem? (i := 10) rfl),
  List.forall_mem_cons.mpr ⟨(List.mem_of_getElem? (i := 11) rfl),
  List.forall_mem_cons.mpr ⟨(List.mem_of_getElem? (i := 12) rfl),
  List.forall_mem_cons.mpr ⟨(List.mem_of_getElem? (i := 13) rfl),
  List.forall_mem_cons.mpr ⟨(List.mem_of_getElem? (i := 14) rfl),
  List.forall_mem_cons.mpr ⟨(List.mem_of_getElem? (i := 15) rfl),
  List.forall_mem_cons.mpr ⟨(List.mem_of_getElem? (i := 16) rfl),
  List.forall_mem_cons.mpr ⟨(List.mem_of_getElem? (i := 17) rfl),
  List.forall_mem_cons.mpr ⟨(List.mem_of_getElem? (i := 18) rfl),
  List.forall_mem_cons.mpr ⟨(List.mem_of_getElem? (i := 19) rfl),
  List.forall_mem_cons.mpr ⟨(List.mem_of_getElem? (i := 20) rfl),
  List.forall_mem_cons.mpr ⟨(List.mem_of_getElem? (i := 21) rfl),
  List.forall_mem_cons.mpr ⟨(List.mem_of_getElem? (i := 22) rfl),
  List.forall_mem_cons.mpr ⟨(List.mem_of_getElem? (i := 23) rfl),
  List.forall_mem_cons.mpr ⟨(List.mem_of_getElem? (i := 24) rfl),
  List.forall_mem_cons.mpr ⟨(List.mem_of_getElem? (i := 25) rfl),
  List.forall_mem_cons.mpr ⟨(List.mem_of_getElem? (i := 26) rfl),
  List.forall_mem_cons.mpr ⟨(List.mem_of_getElem? (i := 27) rfl),
  List.forall_mem_cons.mpr ⟨(List.mem_of_getElem? (i := 28) rfl),
  List.forall_mem_cons.mpr ⟨(List.mem_of_getElem? (i := 29) rfl),
  List.forall_mem_cons.mpr ⟨(List.mem_of_getElem? (i := 30) rfl),
  List.forall_mem_cons.mpr ⟨(List.mem_of_getElem? (i := 31) rfl),
  List.forall_mem_cons.mpr ⟨(List.mem_of_getElem? (i := 32) rfl),
  List.forall_mem_cons.mpr ⟨(List.mem_of_getElem? (i := 33) rfl),
  List.forall_mem_cons.mpr ⟨(List.mem_of_getElem? (i := 34) rfl),
  List.forall_mem_cons.mpr ⟨(List.mem_of_getElem? (i := 35) rfl),
  List.forall_mem_cons.mpr ⟨(List.mem_of_getElem? (i := 36) rfl),
  fun _ h => absurd h List.not_mem_nil⟩⟩⟩⟩⟩⟩⟩⟩⟩⟩⟩⟩⟩⟩⟩⟩⟩⟩⟩⟩⟩⟩⟩⟩⟩⟩⟩⟩⟩⟩⟩⟩
def fnL1 : List (Nat × Nat × Nat × Nat) := [(11, 214, 4, 6), (11, 189, 5, 3), (11, 335, 6, 9), (7, 43, 6, 10), (7, 56, 6, 11), (8, 69, 7, 4), (11, 245, 7, 4), (8, 73, 7, 5), (11, 248, 7, 5), (8, 66, 7, 6), (11, 242, 7, 6), (11, 326, 7, 7), (11, 338, 8, 5), (11, 273, 8, 6), (11, 276, 8, 7), (11, 279, 8, 8), (11, 294, 9, 2), (11, 298, 9, 4), (11, 301, 9, 5), (11, 320, 10, 4), (11, 314, 10, 5)]
set_option maxRecDepth 8000 in
theorem fnL1_ok : ∀ q ∈ fnL1, Jvm.Cond.fieldLinkNest (owN q.1) q.2.1 (fdr q.2.2.1 q.2.2.2).1 (fdr q.2.2.1 q.2.2.2).2.1 (fdr q.2.2.1 q.2.2.2).2.2.1 "BorrowedWords" ∈ NW := List.forall_mem_cons.mpr ⟨(List.mem_of_getElem? (i := 37) rfl),
  List.forall_mem_cons.mpr ⟨(List.mem_of_getElem? (i := 38) rfl),
  List.forall_mem_cons.mpr ⟨(List.mem_of_getElem? (i := 39) rfl),
  List.forall_mem_cons.mpr ⟨(List.mem_of_getElem? (i := 40) rfl),
  List.forall_mem_cons.mpr ⟨(List.mem_of_getElem? (i := 41) rfl),
  List.forall_mem_cons.mpr ⟨(List.mem_of_getElem? (i := 42) rfl),
  List.forall_mem_cons.mpr ⟨(List.mem_of_getElem? (i := 43) rfl),
  List.forall_mem_cons.mpr ⟨(List.mem_of_getElem? (i := 44) rfl),
  List.forall_mem_cons.mpr ⟨(List.mem_of_getElem? (i := 45) rfl),
  List.forall_mem_cons.mpr ⟨(List.mem_of_getElem? (i := 46) rfl),
  List.forall_mem_cons.mpr ⟨(List.mem_of_getElem? (i := 47) rfl),
  List.forall_mem_cons.mpr ⟨(List.mem_of_getElem? (i := 48) rfl),
  List.forall_mem_cons.mpr ⟨(List.mem_of_getElem? (i := 49) rfl),
  List.forall_mem_cons.mpr ⟨(List.mem_of_getElem? (i := 50) rfl),
  List.forall_mem_cons.mpr ⟨(List.mem_of_getElem? (i := 51) rfl),
  List.forall_mem_cons.mpr ⟨(List.mem_of_getElem? (i := 52) rfl),
  List.forall_mem_cons.mpr ⟨(List.mem_of_getElem? (i := 53) rfl),
  List.forall_mem_cons.mpr ⟨(List.mem_of_getElem? (i := 54) rfl),
  List.forall_mem_cons.mpr ⟨(List.mem_of_getElem? (i := 55) rfl),
  List.forall_mem_cons.mpr ⟨(List.mem_of_getElem? (i := 56) rfl),
  List.forall_mem_cons.mpr ⟨(List.mem_of_getElem? (i := 57) rfl),
  fun _ h => absurd h List.not_mem_nil⟩⟩⟩⟩⟩⟩⟩⟩⟩⟩⟩⟩⟩⟩⟩⟩⟩⟩⟩⟩⟩
def fnL : List (Nat × Nat × Nat × Nat) := fnL0 ++ fnL1
theorem fnL_ok : ∀ q ∈ fnL, Jvm.Cond.fieldLinkNest (owN q.1) q.2.1 (fdr q.2.2.1 q.2.2.2).1 (fdr q.2.2.1 q.2.2.2).2.1 (fdr q.2.2.1 q.2.2.2).2.2.1 "BorrowedWords" ∈ NW := fun q => fun h => (List.mem_append.mp h).elim (fnL0_ok q) (fnL1_ok q)
def stN_ (z : Int) : String := if z = -3 then "AT_FIRST" else if z = -4 then "LOWEST" else "HIGHEST"
def fsL : List (Nat × Nat × Int) := [(4, 66, -4), (4, 69, -5), (5, 31, -3)]
set_option maxRecDepth 8000 in
theorem fsL_ok : ∀ q ∈ fsL, Jvm.Cond.fieldLinkNest (owN q.1) q.2.1 "BorrowedWords" (stN_ q.2.2) "[I" "BorrowedWords" ∈ NW := List.forall_mem_cons.mpr ⟨(List.mem_of_getElem? (i := 58) rfl),
  List.forall_mem_cons.mpr ⟨(List.mem_of_getElem? (i := 59) rfl),
  List.forall_mem_cons.mpr ⟨(List.mem_of_getElem? (i := 60) rfl),
  fun _ h => absurd h List.not_mem_nil⟩⟩⟩
set_option maxRecDepth 8000 in
theorem uw0 : ∀ w ∈ u_ws "BorrowedWords$Text" fld0 5, w ∈ GW := List.forall_mem_cons.mpr ⟨(gw1 60 rfl rfl), List.forall_mem_cons.mpr ⟨(gw1 62 rfl rfl), List.forall_mem_cons.mpr ⟨(gw1 64 rfl rfl), List.forall_mem_cons.mpr ⟨(gw1 66 rfl rfl), List.forall_mem_cons.mpr ⟨(gw1 68 rfl rfl), fun _ h => absurd h List.not_mem_nil⟩⟩⟩⟩⟩
theorem nm0 : ∀ a, a < 5 → ∀ b, b < 5 → a ≠ b → (fld0 a).2.1 ≠ (fld0 b).2.1 := by decide +kernel
theorem ft0 : ∀ k, k < 5 → parseFieldDescriptor (fld0 k).2.2.1 = some (fty0 k) := by decide +kernel
set_option maxRecDepth 8000 in
theorem uw1 : ∀ w ∈ u_ws "BorrowedWords$Shelf" fld1 2, w ∈ GW := List.forall_mem_cons.mpr ⟨(gw1 83 rfl rfl), List.forall_mem_cons.mpr ⟨(gw1 85 rfl rfl), fun _ h => absurd h List.not_mem_nil⟩⟩
theorem nm1 : ∀ a, a < 2 → ∀ b, b < 2 → a ≠ b → (fld1 a).2.1 ≠ (fld1 b).2.1 := by decide +kernel
theorem ft1 : ∀ k, k < 2 → parseFieldDescriptor (fld1 k).2.2.1 = some (fty1 k) := by decide +kernel
set_option maxRecDepth 8000 in
theorem uw2 : ∀ w ∈ u_ws "BorrowedWords$Lexicon" fld2 3, w ∈ GW := List.forall_mem_cons.mpr ⟨(gw1 101 rfl rfl), List.forall_mem_cons.mpr ⟨(gw1 103 rfl rfl), List.forall_mem_cons.mpr ⟨(gw1 105 rfl rfl), fun _ h => absurd h List.not_mem_nil⟩⟩⟩
theorem nm2 : ∀ a, a < 3 → ∀ b, b < 3 → a ≠ b → (fld2 a).2.1 ≠ (fld2 b).2.1 := by decide +kernel
theorem ft2 : ∀ k, k < 3 → parseFieldDescriptor (fld2 k).2.2.1 = some (fty2 k) := by decide +kernel
set_option maxRecDepth 8000 in
theorem uw3 : ∀ w ∈ u_ws "BorrowedWords$Marks" fld3 6, w ∈ GW := List.forall_mem_cons.mpr ⟨(gw1 122 rfl rfl), List.forall_mem_cons.mpr ⟨(gw1 124 rfl rfl), List.forall_mem_cons.mpr ⟨(gw1 126 rfl rfl), List.forall_mem_cons.mpr ⟨(gw1 128 rfl rfl), List.forall_mem_cons.mpr ⟨(gw1 130 rfl rfl), List.forall_mem_cons.mpr ⟨(gw1 132 rfl rfl), fun _ h => absurd h List.not_mem_nil⟩⟩⟩⟩⟩⟩
theorem nm3 : ∀ a, a < 6 → ∀ b, b < 6 → a ≠ b → (fld3 a).2.1 ≠ (fld3 b).2.1 := by decide +kernel
theorem ft3 : ∀ k, k < 6 → parseFieldDescriptor (fld3 k).2.2.1 = some (fty3 k) := by decide +kernel
set_option maxRecDepth 8000 in
theorem uw4 : ∀ w ∈ u_ws "BorrowedWords$RuleReader" fld4 7, w ∈ GW := List.forall_mem_cons.mpr ⟨(gw1 152 rfl rfl), List.forall_mem_cons.mpr ⟨(gw1 154 rfl rfl), List.forall_mem_cons.mpr ⟨(gw1 156 rfl rfl), List.forall_mem_cons.mpr ⟨(gw1 158 rfl rfl), List.forall_mem_cons.mpr ⟨(gw1 160 rfl rfl), List.forall_mem_cons.mpr ⟨(gw1 162 rfl rfl), List.forall_mem_cons.mpr ⟨(gw1 164 rfl rfl), fun _ h => absurd h List.not_mem_nil⟩⟩⟩⟩⟩⟩⟩
theorem nm4 : ∀ a, a < 7 → ∀ b, b < 7 → a ≠ b → (fld4 a).2.1 ≠ (fld4 b).2.1 := by decide +kernel
theorem ft4 : ∀ k, k < 7 → parseFieldDescriptor (fld4 k).2.2.1 = some (fty4 k) := by decide +kernel
set_option maxRecDepth 8000 in
theorem uw5 : ∀ w ∈ u_ws "BorrowedWords$RuleBook" fld5 4, w ∈ GW := List.forall_mem_cons.mpr ⟨(gw1 180 rfl rfl), List.forall_mem_cons.mpr ⟨(gw1 182 rfl rfl), List.forall_mem_cons.mpr ⟨(gw1 184 rfl rfl), List.forall_mem_cons.mpr ⟨(gw1 186 rfl rfl), fun _ h => absurd h List.not_mem_nil⟩⟩⟩⟩
theorem nm5 : ∀ a, a < 4 → ∀ b, b < 4 → a ≠ b → (fld5 a).2.1 ≠ (fld5 b).2.1 := by decide +kernel
theorem ft5 : ∀ k, k < 4 → parseFieldDescriptor (fld5 k).2.2.1 = some (fty5 k) := by decide +kernel
set_option maxRecDepth 8000 in
theorem uw6 : ∀ w ∈ u_ws "BorrowedWords$Runs" fld6 15, w ∈ GW := List.forall_mem_cons.mpr ⟨(gw1 215 rfl rfl), List.forall_mem_cons.mpr ⟨(gw1 217 rfl rfl), List.forall_mem_cons.mpr ⟨(gw1 219 rfl rfl), List.forall_mem_cons.mpr ⟨(gw1 221 rfl rfl), List.forall_mem_cons.mpr ⟨(gw1 223 rfl rfl), List.forall_mem_cons.mpr ⟨(gw1 225 rfl rfl), List.forall_mem_cons.mpr ⟨(gw1 227 rfl rfl), List.forall_mem_cons.mpr ⟨(gw1 229 rfl rfl), List.forall_mem_cons.mpr ⟨(gw1 231 rfl rfl), List.forall_mem_cons.mpr ⟨(gw1 233 rfl rfl), List.forall_mem_cons.mpr ⟨(gw1 235 rfl rfl), List.forall_mem_cons.mpr ⟨(gw1 237 rfl rfl), List.forall_mem_cons.mpr ⟨(gw1 239 rfl rfl), List.forall_mem_cons.mpr ⟨(gw2 1 rfl rfl), List.forall_mem_cons.mpr ⟨(gw2 3 rfl rfl), fun _ h => absurd h List.not_mem_nil⟩⟩⟩⟩⟩⟩⟩⟩⟩⟩⟩⟩⟩⟩⟩
theorem nm6 : ∀ a, a < 15 → ∀ b, b < 15 → a ≠ b → (fld6 a).2.1 ≠ (fld6 b).2.1 := by decide +kernel
theorem ft6 : ∀ k, k < 15 → parseFieldDescriptor (fld6 k).2.2.1 = some (fty6 k) := by decide +kernel
set_option maxRecDepth 8000 in
theorem uw7 : ∀ w ∈ u_ws "BorrowedWords$Explanation" fld7 8, w ∈ GW := List.forall_mem_cons.mpr ⟨(gw2 28 rfl rfl), List.forall_mem_cons.mpr ⟨(gw2 30 rfl rfl), List.forall_mem_cons.mpr ⟨(gw2 32 rfl rfl), List.forall_mem_cons.mpr ⟨(gw2 34 rfl rfl), List.forall_mem_cons.mpr ⟨(gw2 36 rfl rfl), List.forall_mem_cons.mpr ⟨(gw2 38 rfl rfl), List.forall_mem_cons.mpr ⟨(gw2 40 rfl rfl), List.forall_mem_cons.mpr ⟨(gw2 42 rfl rfl), fun _ h => absurd h List.not_mem_nil⟩⟩⟩⟩⟩⟩⟩⟩
theorem nm7 : ∀ a, a < 8 → ∀ b, b < 8 → a ≠ b → (fld7 a).2.1 ≠ (fld7 b).2.1 := by decide +kernel
theorem ft7 : ∀ k, k < 8 → parseFieldDescriptor (fld7 k).2.2.1 = some (fty7 k) := by decide +kernel
set_option maxRecDepth 8000 in
theorem uw8 : ∀ w ∈ u_ws "BorrowedWords$Ways" fld8 10, w ∈ GW := List.forall_mem_cons.mpr ⟨(gw2 66 rfl rfl), List.forall_mem_cons.mpr ⟨(gw2 68 rfl rfl), List.forall_mem_cons.mpr ⟨(gw2 70 rfl rfl), List.forall_mem_cons.mpr ⟨(gw2 72 rfl rfl), List.forall_mem_cons.mpr ⟨(gw2 74 rfl rfl), List.forall_mem_cons.mpr ⟨(gw2 76 rfl rfl), List.forall_mem_cons.mpr ⟨(gw2 78 rfl rfl), List.forall_mem_cons.mpr ⟨(gw2 80 rfl rfl), List.forall_mem_cons.mpr ⟨(gw2 82 rfl rfl), List.forall_mem_cons.mpr ⟨(gw2 84 rfl rfl), fun _ h => absurd h List.not_mem_nil⟩⟩⟩⟩⟩⟩⟩⟩⟩⟩
theorem nm8 : ∀ a, a < 10 → ∀ b, b < 10 → a ≠ b → (fld8 a).2.1 ≠ (fld8 b).2.1 := by decide +kernel
theorem ft8 : ∀ k, k < 10 → parseFieldDescriptor (fld8 k).2.2.1 = some (fty8 k) := by decide +kernel
set_option maxRecDepth 8000 in
theorem uw9 : ∀ w ∈ u_ws "BorrowedWords$RowTable" fld9 6, w ∈ GW := List.forall_mem_cons.mpr ⟨(gw2 103 rfl rfl), List.forall_mem_cons.mpr ⟨(gw2 105 rfl rfl), List.forall_mem_cons.mpr ⟨(gw2 107 rfl rfl), List.forall_mem_cons.mpr ⟨(gw2 109 rfl rfl), List.forall_mem_cons.mpr ⟨(gw2 111 rfl rfl), List.forall_mem_cons.mpr ⟨(gw2 113 rfl rfl), fun _ h => absurd h List.not_mem_nil⟩⟩⟩⟩⟩⟩
theorem nm9 : ∀ a, a < 6 → ∀ b, b < 6 → a ≠ b → (fld9 a).2.1 ≠ (fld9 b).2.1 := by decide +kernel
theorem ft9 : ∀ k, k < 6 → parseFieldDescriptor (fld9 k).2.2.1 = some (fty9 k) := by decide +kernel
set_option maxRecDepth 8000 in
theorem uw10 : ∀ w ∈ u_ws "BorrowedWords$Sentences" fld10 6, w ∈ GW := List.forall_mem_cons.mpr ⟨(gw2 130 rfl rfl), List.forall_mem_cons.mpr ⟨(gw2 132 rfl rfl), List.forall_mem_cons.mpr ⟨(gw2 134 rfl rfl), List.forall_mem_cons.mpr ⟨(gw2 136 rfl rfl), List.forall_mem_cons.mpr ⟨(gw2 138 rfl rfl), List.forall_mem_cons.mpr ⟨(gw2 140 rfl rfl), fun _ h => absurd h List.not_mem_nil⟩⟩⟩⟩⟩⟩
theorem nm10 : ∀ a, a < 6 → ∀ b, b < 6 → a ≠ b → (fld10 a).2.1 ≠ (fld10 b).2.1 := by decide +kernel
theorem ft10 : ∀ k, k < 6 → parseFieldDescriptor (fld10 k).2.2.1 = some (fty10 k) := by decide +kernel
set_option maxRecDepth 8000 in
theorem uw11 : ∀ w ∈ u_ws "BorrowedWords" fld11 10, w ∈ GW := List.forall_mem_cons.mpr ⟨(gw2 153 rfl rfl), List.forall_mem_cons.mpr ⟨(gw2 155 rfl rfl), List.forall_mem_cons.mpr ⟨(gw2 157 rfl rfl), List.forall_mem_cons.mpr ⟨(gw2 159 rfl rfl), List.forall_mem_cons.mpr ⟨(gw2 161 rfl rfl), List.forall_mem_cons.mpr ⟨(gw2 163 rfl rfl), List.forall_mem_cons.mpr ⟨(gw2 165 rfl rfl), List.forall_mem_cons.mpr ⟨(gw2 167 rfl rfl), List.forall_mem_cons.mpr ⟨(gw2 169 rfl rfl), List.forall_mem_cons.mpr ⟨(gw2 171 rfl rfl), fun _ h => absurd h List.not_mem_nil⟩⟩⟩⟩⟩⟩⟩⟩⟩⟩
theorem nm11 : ∀ a, a < 10 → ∀ b, b < 10 → a ≠ b → (fld11 a).2.1 ≠ (fld11 b).2.1 := by decide +kernel
theorem ft11 : ∀ k, k < 10 → parseFieldDescriptor (fld11 k).2.2.1 = some (fty11 k) := by decide +kernel
set_option maxRecDepth 8000 in
theorem uw12 : ∀ w ∈ u_ws "BorrowedWordsModel" fld12 42, w ∈ GW := List.forall_mem_cons.mpr ⟨(gw5 57 rfl rfl), List.forall_mem_cons.mpr ⟨(gw5 59 rfl rfl), List.forall_mem_cons.mpr ⟨(gw5 61 rfl rfl), List.forall_mem_cons.mpr ⟨(gw5 63 rfl rfl), List.forall_mem_cons.mpr ⟨(gw5 65 rfl rfl), List.forall_mem_cons.mpr ⟨(gw5 67 rfl rfl), List.forall_mem_cons.mpr ⟨(gw5 69 rfl rfl), List.forall_mem_cons.mpr ⟨(gw5 71 rfl rfl), List.forall_mem_cons.mpr ⟨(gw5 73 rfl rfl), List.forall_mem_cons.mpr ⟨(gw5 75 rfl rfl), List.forall_mem_cons.mpr ⟨(gw5 77 rfl rfl), List.forall_mem_cons.mpr ⟨(gw5 79 rfl rfl), List.forall_mem_cons.mpr ⟨(gw5 81 rfl rfl), List.forall_mem_cons.mpr ⟨(gw5 83 rfl rfl), List.forall_mem_cons.mpr ⟨(gw5 85 rfl rfl), List.forall_mem_cons.mpr ⟨(gw5 87 rfl rfl), List.forall_mem_cons.mpr ⟨(gw5 89 rfl rfl), List.forall_mem_cons.mpr ⟨(gw5 91 rfl rfl), List.forall_mem_cons.mpr ⟨(gw5 93 rfl rfl), List.forall_mem_cons.mpr ⟨(gw5 95 rfl rfl), List.forall_mem_cons.mpr ⟨(gw5 97 rfl rfl), List.forall_mem_cons.mpr ⟨(gw5 99 rfl rfl), List.forall_mem_cons.mpr ⟨(gw5 101 rfl rfl), List.forall_mem_cons.mpr ⟨(gw5 103 rfl rfl), List.forall_mem_cons.mpr ⟨(gw5 105 rfl rfl), List.forall_mem_cons.mpr ⟨(gw5 107 rfl rfl), List.forall_mem_cons.mpr ⟨(gw5 109 rfl rfl), List.forall_mem_cons.mpr ⟨(gw5 111 rfl rfl), List.forall_mem_cons.mpr ⟨(gw5 113 rfl rfl), List.forall_mem_cons.mpr ⟨(gw5 115 rfl rfl), List.forall_mem_cons.mpr ⟨(gw5 117 rfl rfl), List.forall_mem_cons.mpr ⟨(gw5 119 rfl rfl), List.forall_mem_cons.mpr ⟨(gw5 121 rfl rfl), List.forall_mem_cons.mpr ⟨(gw5 123 rfl rfl), List.forall_mem_cons.mpr ⟨(gw5 125 rfl rfl), List.forall_mem_cons.mpr ⟨(gw5 127 rfl rfl), List.forall_mem_cons.mpr ⟨(gw5 129 rfl rfl), List.forall_mem_cons.mpr ⟨(gw5 131 rfl rfl), List.forall_mem_cons.mpr ⟨(gw5 133 rfl rfl), List.forall_mem_cons.mpr ⟨(gw5 135 rfl rfl), List.forall_mem_cons.mpr ⟨(gw5 137 rfl rfl), List.forall_mem_cons.mpr ⟨(gw5 139 rfl rfl), fun _ h => absurd h List.not_mem_nil⟩⟩⟩⟩⟩⟩⟩⟩⟩⟩⟩⟩⟩⟩⟩⟩⟩⟩⟩⟩⟩⟩⟩⟩⟩⟩⟩⟩⟩⟩⟩⟩⟩⟩⟩⟩⟩⟩⟩⟩⟩⟩
theorem nm12 : ∀ a, a < 42 → ∀ b, b < 42 → a ≠ b → (fld12 a).2.1 ≠ (fld12 b).2.1 := by decide +kernel
theorem ft12 : ∀ k, k < 42 → parseFieldDescriptor (fld12 k).2.2.1 = some (fty12 k) := by decide +kernel
def ckOK (ci : Nat) (q : vw_C) : Prop := (∀ w ∈ u_ws q.1 q.2.1 q.2.2, w ∈ GW) ∧ (∀ a, a < q.2.2 → ∀ b, b < q.2.2 → a ≠ b → (q.2.1 a).2.1 ≠ (q.2.1 b).2.1) ∧ (∀ k, k < q.2.2 → parseFieldDescriptor (q.2.1 k).2.2.1 = some (ftyOf ci k)) ∧ Jvm.Cond.instantiable q.1 q.2.2 ∈ GW ∧ Jvm.Cond.initialized q.1 ∈ GW ∧ q.2.2 = nF ci ∧ owN ci = q.1
theorem ck_ok : ∀ (ci : Nat) (q : vw_C), cls_[ci]? = some q → ckOK ci q := by
  intro ci q h
  match ci, h with
  | 0, h => cases h; exact ⟨uw0, nm0, ft0, (gw1 37 rfl rfl), (gw1 3 rfl rfl), rfl, rfl⟩
  | 1, h => cases h; exact ⟨uw1, nm1, ft1, (gw1 30 rfl rfl), (gw1 2 rfl rfl), rfl, rfl⟩
  | 2, h => cases h; exact ⟨uw2, nm2, ft2, (gw1 89 rfl rfl), (gw1 4 rfl rfl), rfl, rfl⟩
  | 3, h => cases h; exact ⟨uw3, nm3, ft3, (gw1 110 rfl rfl), (gw1 5 rfl rfl), rfl, rfl⟩
  | 4, h => cases h; exact ⟨uw4, nm4, ft4, (gw1 136 rfl rfl), (gw1 6 rfl rfl), rfl, rfl⟩
  | 5, h => cases h; exact ⟨uw5, nm5, ft5, (gw1 168 rfl rfl), (gw1 7 rfl rfl), rfl, rfl⟩
  | 6, h => cases h; exact ⟨uw6, nm6, ft6, (gw1 190 rfl rfl), (gw1 8 rfl rfl), rfl, rfl⟩
  | 7, h => cases h; exact ⟨uw7, nm7, ft7, (gw2 8 rfl rfl), (gw1 9 rfl rfl), rfl, rfl⟩
  | 8, h => cases h; exact ⟨uw8, nm8, ft8, (gw2 46 rfl rfl), (gw1 10 rfl rfl), rfl, rfl⟩
  | 9, h => cases h; exact ⟨uw9, nm9, ft9, (gw2 88 rfl rfl), (gw1 11 rfl rfl), rfl, rfl⟩
  | 10, h => cases h; exact ⟨uw10, nm10, ft10, (gw2 117 rfl rfl), (gw1 12 rfl rfl), rfl, rfl⟩
  | 11, h => cases h; exact ⟨uw11, nm11, ft11, (gw1 22 rfl rfl), (gw1 1 rfl rfl), rfl, rfl⟩
  | 12, h => cases h; exact ⟨uw12, nm12, ft12, (gw5 10 rfl rfl), (gw1 13 rfl rfl), rfl, rfl⟩
  | k + 13, h => simp [cls_] at h
def clL : List (Nat × Nat × Nat) := [(19, 7, 11), (11, 7, 1), (1, 9, 0), (11, 16, 2), (11, 23, 3), (11, 32, 4), (11, 39, 5), (11, 46, 6), (11, 55, 7), (11, 64, 8), (11, 73, 9), (11, 80, 10), (19, 10, 12)]
set_option maxRecDepth 8000 in
theorem clL_ok : ∀ q ∈ clL, Jvm.Cond.classLink (owN q.1) q.2.1 (owN q.2.2) ∈ GW := List.forall_mem_cons.mpr ⟨(gw1 21 rfl rfl),
  List.forall_mem_cons.mpr ⟨(gw1 29 rfl rfl),
  List.forall_mem_cons.mpr ⟨(gw1 35 rfl rfl),
  List.forall_mem_cons.mpr ⟨(gw1 88 rfl rfl),
  List.forall_mem_cons.mpr ⟨(gw1 109 rfl rfl),
  List.forall_mem_cons.mpr ⟨(gw1 135 rfl rfl),
  List.forall_mem_cons.mpr ⟨(gw1 167 rfl rfl),
  List.forall_mem_cons.mpr ⟨(gw1 189 rfl rfl),
  List.forall_mem_cons.mpr ⟨(gw2 7 rfl rfl),
  List.forall_mem_cons.mpr ⟨(gw2 45 rfl rfl),
  List.forall_mem_cons.mpr ⟨(gw2 87 rfl rfl),
  List.forall_mem_cons.mpr ⟨(gw2 116 rfl rfl),
  List.forall_mem_cons.mpr ⟨(gw5 9 rfl rfl),
  fun _ h => absurd h List.not_mem_nil⟩⟩⟩⟩⟩⟩⟩⟩⟩⟩⟩⟩⟩
def cmL : List (Nat × Nat × Nat) := [(5, 18, 5), (6, 9, 6), (8, 9, 5), (9, 9, 6)]
set_option maxRecDepth 8000 in
theorem cmL_ok : ∀ q ∈ cmL, Jvm.Cond.classLink (owN q.1) q.2.1 (if q.2.2 = 5 then "[[I" else "[[J") ∈ GW := List.forall_mem_cons.mpr ⟨(gw1 173 rfl rfl),
  List.forall_mem_cons.mpr ⟨(gw1 195 rfl rfl),
  List.forall_mem_cons.mpr ⟨(gw2 51 rfl rfl),
  List.forall_mem_cons.mpr ⟨(gw2 93 rfl rfl),
  fun _ h => absurd h List.not_mem_nil⟩⟩⟩⟩
def kiL : List (Nat × Nat × Int) := [(16, 265, 1431655765), (16, 266, 858993459), (16, 267, 252645135)]
set_option maxRecDepth 8000 in
theorem kiL_ok : ∀ q ∈ kiL, Jvm.Cond.constant (owN q.1) q.2.1 (Int32.ofInt q.2.2) ∈ GW := List.forall_mem_cons.mpr ⟨(gw4 121 rfl rfl),
  List.forall_mem_cons.mpr ⟨(gw4 122 rfl rfl),
  List.forall_mem_cons.mpr ⟨(gw4 123 rfl rfl),
  fun _ h => absurd h List.not_mem_nil⟩⟩⟩
def klL : List (Nat × Nat × Int) := [(17, 314, 6148914691236517205), (17, 316, 3689348814741910323), (17, 318, 1085102592571150095), (11, 199, 255), (6, 132, (-1)), (11, 333, (-1)), (9, 39, 201), (12, 106, 9), (12, 108, 999), (12, 118, 200), (12, 164, 8), (12, 166, 255), (12, 182, 97), (12, 184, 122), (12, 186, 10000000000), (12, 188, 20000000000), (12, 190, 27), (12, 192, 96), (12, 198, 48), (12, 200, 57), (12, 231, 6), (12, 257, 2), (12, 259, 3), (12, 302, 5), (12, 323, 100), (19, 61, 4294967295)]
set_option maxRecDepth 8000 in
theorem klL_ok : ∀ q ∈ klL, Jvm.Cond.constantLong (owN q.1) q.2.1 (Int64.ofInt q.2.2) ∈ GW := List.forall_mem_cons.mpr ⟨(gw2 227 rfl rfl),
  List.forall_mem_cons.mpr ⟨(gw2 228 rfl rfl),
  List.forall_mem_cons.mpr ⟨(gw2 229 rfl rfl),
  List.forall_mem_cons.mpr ⟨(gw3 86 rfl rfl),
  List.forall_mem_cons.mpr ⟨(gw4 39 rfl rfl),
  List.forall_mem_cons.mpr ⟨(gw4 97 rfl rfl),
  List.forall_mem_cons.mpr ⟨(gw4 177 rfl rfl),
  List.forall_mem_cons.mpr ⟨(gw5 146 rfl rfl),
  List.forall_mem_cons.mpr ⟨(gw5 150 rfl rfl),
  List.forall_mem_cons.mpr ⟨(gw5 159 rfl rfl),
  List.forall_mem_cons.mpr ⟨(gw5 236 rfl rfl),
  List.forall_mem_cons.mpr ⟨(gw5 237 rfl rfl),
  List.forall_mem_cons.mpr ⟨(gw6 14 rfl rfl),
  List.forall_mem_cons.mpr ⟨(gw6 15 rfl rfl),
  List.forall_mem_cons.mpr ⟨(gw6 16 rfl rfl),
  List.forall_mem_cons.mpr ⟨(gw6 17 rfl rfl),
  List.forall_mem_cons.mpr ⟨(gw6 18 rfl rfl),
  List.forall_mem_cons.mpr ⟨(gw6 19 rfl rfl),
  List.forall_mem_cons.mpr ⟨(gw6 39 rfl rfl),
  List.forall_mem_cons.mpr ⟨(gw6 40 rfl rfl),
  List.forall_mem_cons.mpr ⟨(gw6 52 rfl rfl),
  List.forall_mem_cons.mpr ⟨(gw6 77 rfl rfl),
  List.forall_mem_cons.mpr ⟨(gw6 90 rfl rfl),
  List.forall_mem_cons.mpr ⟨(gw6 166 rfl rfl),
  List.forall_mem_cons.mpr ⟨(gw6 202 rfl rfl),
  List.forall_mem_cons.mpr ⟨(gw6 215 rfl rfl),
  fun _ h => absurd h List.not_mem_nil⟩⟩⟩⟩⟩⟩⟩⟩⟩⟩⟩⟩⟩⟩⟩⟩⟩⟩⟩⟩⟩⟩⟩⟩⟩⟩
def obL : List (Nat × Nat) := [(11, 1), (1, 3), (0, 3), (2, 3), (3, 3), (4, 3), (5, 3), (6, 3), (7, 3), (8, 3), (9, 3), (10, 3), (12, 1)]
set_option maxRecDepth 8000 in
theorem obL_ok : ∀ q ∈ obL, Jvm.Cond.methodLink (owN q.1) q.2 Lib.objectInit ∈ GW := List.forall_mem_cons.mpr ⟨(gw1 26 rfl rfl),
  List.forall_mem_cons.mpr ⟨(gw1 34 rfl rfl),
  List.forall_mem_cons.mpr ⟨(gw1 41 rfl rfl),
  List.forall_mem_cons.mpr ⟨(gw1 93 rfl rfl),
  List.forall_mem_cons.mpr ⟨(gw1 114 rfl rfl),
  List.forall_mem_cons.mpr ⟨(gw1 140 rfl rfl),
  List.forall_mem_cons.mpr ⟨(gw1 172 rfl rfl),
  List.forall_mem_cons.mpr ⟨(gw1 194 rfl rfl),
  List.forall_mem_cons.mpr ⟨(gw2 12 rfl rfl),
  List.forall_mem_cons.mpr ⟨(gw2 50 rfl rfl),
  List.forall_mem_cons.mpr ⟨(gw2 92 rfl rfl),
  List.forall_mem_cons.mpr ⟨(gw2 121 rfl rfl),
  List.forall_mem_cons.mpr ⟨(gw5 14 rfl rfl),
  fun _ h => absurd h List.not_mem_nil⟩⟩⟩⟩⟩⟩⟩⟩⟩⟩⟩⟩⟩
theorem ob_i : Jvm.Cond.instanceMethod Lib.objectInit ∈ GW := (gw1 27 rfl rfl)
theorem ob_c : Jvm.Cond.code Lib.objectInit ⟨#[0xb1]⟩ 1 none ∈ GW := (gw1 28 rfl rfl)
theorem ac_int : Jvm.Cond.arrayClass .int ∈ GW := (gw1 71 rfl rfl)
theorem ac_boolean : Jvm.Cond.arrayClass .boolean ∈ GW := (gw1 108 rfl rfl)
theorem ac_long : Jvm.Cond.arrayClass .long ∈ GW := (gw2 6 rfl rfl)
theorem ac_byte : Jvm.Cond.arrayClass .byte ∈ GW := (gw3 205 rfl rfl)
theorem ao_T : Jvm.Cond.arrayOver (.object "BorrowedWords$Text") ∈ tables_1 := (tb1 (List.mem_of_getElem? (i := 36) rfl))
theorem ao_I : Jvm.Cond.arrayOver (.array .int) ∈ tables_1 := (tb1 (List.mem_of_getElem? (i := 174) rfl))
theorem ao_L : Jvm.Cond.arrayOver (.array .long) ∈ tables_1 := (tb1 (List.mem_of_getElem? (i := 196) rfl))
def srL : List (Nat × Nat × String) := [(0, 80, "least"), (1, 82, "slips"), (2, 84, "mean"), (3, 86, "common"), (4, 88, "free"), (5, 90, "light"), (6, 92, "heavy"), (7, 94, "strike"), (8, 72, "yes"), (9, 78, "no")]
set_option maxRecDepth 8000 in
theorem srL_ok : ∀ q ∈ srL, Jvm.Cond.stringRef "BorrowedWords$RuleReader" q.2.1 q.2.2 ∈ tables_1 := List.forall_mem_cons.mpr ⟨(tb3 (List.mem_of_getElem? (i := 115) rfl)),
  List.forall_mem_cons.mpr ⟨(tb3 (List.mem_of_getElem? (i := 168) rfl)),
  List.forall_mem_cons.mpr ⟨(tb3 (List.mem_of_getElem? (i := 169) rfl)),
  List.forall_mem_cons.mpr ⟨(tb3 (List.mem_of_getElem? (i := 170) rfl)),
  List.forall_mem_cons.mpr ⟨(tb3 (List.mem_of_getElem? (i := 171) rfl)),
  List.forall_mem_cons.mpr ⟨(tb3 (List.mem_of_getElem? (i := 172) rfl)),
  List.forall_mem_cons.mpr ⟨(tb3 (List.mem_of_getElem? (i := 173) rfl)),
  List.forall_mem_cons.mpr ⟨(tb3 (List.mem_of_getElem? (i := 174) rfl)),
  List.forall_mem_cons.mpr ⟨(tb3 (List.mem_of_getElem? (i := 191) rfl)),
  List.forall_mem_cons.mpr ⟨(tb3 (List.mem_of_getElem? (i := 192) rfl)),
  fun _ h => absurd h List.not_mem_nil⟩⟩⟩⟩⟩⟩⟩⟩⟩⟩
theorem fj_COMPACT_STRINGS : Jvm.Cond.fieldLink "java/lang/String" 38 "java/lang/String" "COMPACT_STRINGS" "Z" ∈ GW := (gw3 128 rfl rfl)
theorem fj_SIOOBE_FORMATTER : Jvm.Cond.fieldLink "java/lang/String" 1053 "jdk/internal/util/Preconditions" "SIOOBE_FORMATTER" "Ljava/util/function/BiFunction;" ∈ GW := (gw3 144 rfl rfl)
theorem fj_value : Jvm.Cond.fieldLink "java/lang/String" 9 "java/lang/String" "value" "[B" ∈ GW := (gw6 216 rfl rfl)
theorem fj_coder : Jvm.Cond.fieldLink "java/lang/String" 15 "java/lang/String" "coder" "B" ∈ GW := (gw6 217 rfl rfl)
def maxL : List (Nat × Nat) := [(6, 137), (9, 81), (10, 52)]
set_option maxRecDepth 8000 in
theorem maxL_ok : ∀ q ∈ maxL, Jvm.Cond.methodLink (owN q.1) q.2 Lib.Math.max.name ∈ GW := List.forall_mem_cons.mpr ⟨(gw4 52 rfl rfl),
  List.forall_mem_cons.mpr ⟨(gw4 226 rfl rfl),
  List.forall_mem_cons.mpr ⟨(gw5 8 rfl rfl),
  fun _ h => absurd h List.not_mem_nil⟩⟩⟩
theorem max_s : Jvm.Cond.static Lib.Math.max.name ∈ GW := (gw4 53 rfl rfl)
theorem max_c : Jvm.Cond.code Lib.Math.max.name Lib.Math.max.code 2 (some .int) ∈ GW := (gw4 54 rfl rfl)
def minL : List (Nat × Nat) := [(9, 76)]
set_option maxRecDepth 8000 in
theorem minL_ok : ∀ q ∈ minL, Jvm.Cond.methodLink (owN q.1) q.2 Lib.Math.min.name ∈ GW := List.forall_mem_cons.mpr ⟨(gw4 223 rfl rfl),
  fun _ h => absurd h List.not_mem_nil⟩
theorem min_s : Jvm.Cond.static Lib.Math.min.name ∈ GW := (gw4 224 rfl rfl)
theorem min_c : Jvm.Cond.code Lib.Math.min.name Lib.Math.min.code 2 (some .int) ∈ GW := (gw4 225 rfl rfl)
theorem math_i : Jvm.Cond.initialized "java/lang/Math" ∈ GW := (gw1 19 rfl rfl)
