-- ===== PART A: goes FIRST, ahead of the names: the tables' words, and 'selects' of the private methods out of them =====
/-- a private method of a class that the tables say can be made, by its rows of tables_1 -/
def lw_okq (q : MethodName × Nat) : Prop := (q.1.cls ≠ "java/lang/invoke/MethodHandle" ∧ q.1.cls ≠ "java/lang/invoke/VarHandle") ∧ Cond.instantiable q.1.cls q.2 ∈ tables_1 ∧ Cond.privateMethod q.1 ∈ tables_1 ∧ Cond.instanceMethod q.1 ∈ tables_1
theorem lw_p0 : lw_okq (⟨"TannerBunting$Text", "byteAt", "(I)I"⟩, 10) := ⟨⟨by decide +kernel, by decide +kernel⟩, List.mem_of_getElem? (i := 31) (by decide +kernel), List.mem_of_getElem? (i := 415) (by decide +kernel), List.mem_of_getElem? (i := 416) (by decide +kernel)⟩
theorem lw_p1 : lw_okq (⟨"TannerBunting$Text", "splitNumber", "(I)I"⟩, 10) := ⟨⟨by decide +kernel, by decide +kernel⟩, List.mem_of_getElem? (i := 31) (by decide +kernel), List.mem_of_getElem? (i := 422) (by decide +kernel), List.mem_of_getElem? (i := 423) (by decide +kernel)⟩
theorem lw_p2 : lw_okq (⟨"TannerBunting$Text", "addToken", "(III)V"⟩, 10) := ⟨⟨by decide +kernel, by decide +kernel⟩, List.mem_of_getElem? (i := 31) (by decide +kernel), List.mem_of_getElem? (i := 426) (by decide +kernel), List.mem_of_getElem? (i := 427) (by decide +kernel)⟩
theorem lw_p3 : lw_okq (⟨"TannerBunting$Text", "splitWord", "(I)I"⟩, 10) := ⟨⟨by decide +kernel, by decide +kernel⟩, List.mem_of_getElem? (i := 31) (by decide +kernel), List.mem_of_getElem? (i := 433) (by decide +kernel), List.mem_of_getElem? (i := 434) (by decide +kernel)⟩
theorem lw_p4 : lw_okq (⟨"TannerBunting$Text", "isSpelt", "(Ljava/lang/String;II)Z"⟩, 10) := ⟨⟨by decide +kernel, by decide +kernel⟩, List.mem_of_getElem? (i := 31) (by decide +kernel), List.mem_of_getElem? (i := 460) (by decide +kernel), List.mem_of_getElem? (i := 461) (by decide +kernel)⟩
theorem lw_p5 : lw_okq (⟨"TannerBunting$Text", "splitSign", "(I)I"⟩, 10) := ⟨⟨by decide +kernel, by decide +kernel⟩, List.mem_of_getElem? (i := 31) (by decide +kernel), List.mem_of_getElem? (i := 512) (by decide +kernel), List.mem_of_getElem? (i := 513) (by decide +kernel)⟩
theorem lw_p6 : lw_okq (⟨"TannerBunting$StreetReader", "readClause", "(I)V"⟩, 2) := ⟨⟨by decide +kernel, by decide +kernel⟩, List.mem_of_getElem? (i := 76) (by decide +kernel), List.mem_of_getElem? (i := 523) (by decide +kernel), List.mem_of_getElem? (i := 524) (by decide +kernel)⟩
theorem lw_p7 : lw_okq (⟨"TannerBunting$StreetReader", "readNumber", "(II)I"⟩, 2) := ⟨⟨by decide +kernel, by decide +kernel⟩, List.mem_of_getElem? (i := 76) (by decide +kernel), List.mem_of_getElem? (i := 532) (by decide +kernel), List.mem_of_getElem? (i := 533) (by decide +kernel)⟩
theorem lw_p8 : lw_okq (⟨"TannerBunting$StreetReader", "readHouse", "()V"⟩, 2) := ⟨⟨by decide +kernel, by decide +kernel⟩, List.mem_of_getElem? (i := 76) (by decide +kernel), List.mem_of_getElem? (i := 539) (by decide +kernel), List.mem_of_getElem? (i := 540) (by decide +kernel)⟩
theorem lw_p9 : lw_okq (⟨"TannerBunting$StreetReader", "readLine", "()V"⟩, 2) := ⟨⟨by decide +kernel, by decide +kernel⟩, List.mem_of_getElem? (i := 76) (by decide +kernel), List.mem_of_getElem? (i := 559) (by decide +kernel), List.mem_of_getElem? (i := 560) (by decide +kernel)⟩
theorem lw_p10 : lw_okq (⟨"TannerBunting$RuleReader", "readSum", "()V"⟩, 4) := ⟨⟨by decide +kernel, by decide +kernel⟩, List.mem_of_getElem? (i := 156) (by decide +kernel), List.mem_of_getElem? (i := 602) (by decide +kernel), List.mem_of_getElem? (i := 603) (by decide +kernel)⟩
theorem lw_p11 : lw_okq (⟨"TannerBunting$RuleReader", "readValue", "()V"⟩, 4) := ⟨⟨by decide +kernel, by decide +kernel⟩, List.mem_of_getElem? (i := 156) (by decide +kernel), List.mem_of_getElem? (i := 606) (by decide +kernel), List.mem_of_getElem? (i := 607) (by decide +kernel)⟩
theorem lw_p12 : lw_okq (⟨"TannerBunting$RuleReader", "emit", "(I)V"⟩, 4) := ⟨⟨by decide +kernel, by decide +kernel⟩, List.mem_of_getElem? (i := 156) (by decide +kernel), List.mem_of_getElem? (i := 611) (by decide +kernel), List.mem_of_getElem? (i := 612) (by decide +kernel)⟩
theorem lw_p13 : lw_okq (⟨"TannerBunting$RuleReader", "takePart", "()V"⟩, 4) := ⟨⟨by decide +kernel, by decide +kernel⟩, List.mem_of_getElem? (i := 156) (by decide +kernel), List.mem_of_getElem? (i := 615) (by decide +kernel), List.mem_of_getElem? (i := 616) (by decide +kernel)⟩
theorem lw_p14 : lw_okq (⟨"TannerBunting$RuleReader", "readTest", "(I)V"⟩, 4) := ⟨⟨by decide +kernel, by decide +kernel⟩, List.mem_of_getElem? (i := 156) (by decide +kernel), List.mem_of_getElem? (i := 619) (by decide +kernel), List.mem_of_getElem? (i := 620) (by decide +kernel)⟩
theorem lw_p15 : lw_okq (⟨"TannerBunting$RuleReader", "readFact", "(I)V"⟩, 4) := ⟨⟨by decide +kernel, by decide +kernel⟩, List.mem_of_getElem? (i := 156) (by decide +kernel), List.mem_of_getElem? (i := 623) (by decide +kernel), List.mem_of_getElem? (i := 624) (by decide +kernel)⟩
def lw_privs_1 : List (MethodName × Nat) := [(⟨"TannerBunting$Text", "byteAt", "(I)I"⟩, 10), (⟨"TannerBunting$Text", "splitNumber", "(I)I"⟩, 10), (⟨"TannerBunting$Text", "addToken", "(III)V"⟩, 10), (⟨"TannerBunting$Text", "splitWord", "(I)I"⟩, 10), (⟨"TannerBunting$Text", "isSpelt", "(Ljava/lang/String;II)Z"⟩, 10), (⟨"TannerBunting$Text", "splitSign", "(I)I"⟩, 10), (⟨"TannerBunting$StreetReader", "readClause", "(I)V"⟩, 2), (⟨"TannerBunting$StreetReader", "readNumber", "(II)I"⟩, 2), (⟨"TannerBunting$StreetReader", "readHouse", "()V"⟩, 2), (⟨"TannerBunting$StreetReader", "readLine", "()V"⟩, 2), (⟨"TannerBunting$RuleReader", "readSum", "()V"⟩, 4), (⟨"TannerBunting$RuleReader", "readValue", "()V"⟩, 4), (⟨"TannerBunting$RuleReader", "emit", "(I)V"⟩, 4), (⟨"TannerBunting$RuleReader", "takePart", "()V"⟩, 4), (⟨"TannerBunting$RuleReader", "readTest", "(I)V"⟩, 4), (⟨"TannerBunting$RuleReader", "readFact", "(I)V"⟩, 4)]
theorem lw_r1 : ∀ q ∈ lw_privs_1, lw_okq q := List.forall_mem_cons.mpr ⟨lw_p0, List.forall_mem_cons.mpr ⟨lw_p1, List.forall_mem_cons.mpr ⟨lw_p2, List.forall_mem_cons.mpr ⟨lw_p3, List.forall_mem_cons.mpr ⟨lw_p4, List.forall_mem_cons.mpr ⟨lw_p5, List.forall_mem_cons.mpr ⟨lw_p6, List.forall_mem_cons.mpr ⟨lw_p7, List.forall_mem_cons.mpr ⟨lw_p8, List.forall_mem_cons.mpr ⟨lw_p9, List.forall_mem_cons.mpr ⟨lw_p10, List.forall_mem_cons.mpr ⟨lw_p11, List.forall_mem_cons.mpr ⟨lw_p12, List.forall_mem_cons.mpr ⟨lw_p13, List.forall_mem_cons.mpr ⟨lw_p14, List.forall_mem_cons.mpr ⟨lw_p15, fun _ h => absurd h List.not_mem_nil⟩⟩⟩⟩⟩⟩⟩⟩⟩⟩⟩⟩⟩⟩⟩⟩
theorem lw_p16 : lw_okq (⟨"TannerBunting", "ruleInForce", "()[I"⟩, 12) := ⟨⟨by decide +kernel, by decide +kernel⟩, List.mem_of_getElem? (i := 23) (by decide +kernel), List.mem_of_getElem? (i := 721) (by decide +kernel), List.mem_of_getElem? (i := 722) (by decide +kernel)⟩
theorem lw_p17 : lw_okq (⟨"TannerBunting$Judge", "worth", "([ILTannerBunting$Street;I)J"⟩, 2) := ⟨⟨by decide +kernel, by decide +kernel⟩, List.mem_of_getElem? (i := 251) (by decide +kernel), List.mem_of_getElem? (i := 733) (by decide +kernel), List.mem_of_getElem? (i := 734) (by decide +kernel)⟩
theorem lw_p18 : lw_okq (⟨"TannerBunting$Judge", "push", "(J)V"⟩, 2) := ⟨⟨by decide +kernel, by decide +kernel⟩, List.mem_of_getElem? (i := 251) (by decide +kernel), List.mem_of_getElem? (i := 737) (by decide +kernel), List.mem_of_getElem? (i := 738) (by decide +kernel)⟩
theorem lw_p19 : lw_okq (⟨"TannerBunting$Judge", "pop", "()J"⟩, 2) := ⟨⟨by decide +kernel, by decide +kernel⟩, List.mem_of_getElem? (i := 251) (by decide +kernel), List.mem_of_getElem? (i := 755) (by decide +kernel), List.mem_of_getElem? (i := 756) (by decide +kernel)⟩
theorem lw_p20 : lw_okq (⟨"TannerBunting$Street", "weak", "()I"⟩, 12) := ⟨⟨by decide +kernel, by decide +kernel⟩, List.mem_of_getElem? (i := 82) (by decide +kernel), List.mem_of_getElem? (i := 774) (by decide +kernel), List.mem_of_getElem? (i := 775) (by decide +kernel)⟩
theorem lw_p21 : lw_okq (⟨"TannerBunting$Street", "weighAll", "()V"⟩, 12) := ⟨⟨by decide +kernel, by decide +kernel⟩, List.mem_of_getElem? (i := 82) (by decide +kernel), List.mem_of_getElem? (i := 778) (by decide +kernel), List.mem_of_getElem? (i := 779) (by decide +kernel)⟩
theorem lw_p22 : lw_okq (⟨"TannerBunting$Hands", "fallenWith", "(LTannerBunting$Street;I)I"⟩, 3) := ⟨⟨by decide +kernel, by decide +kernel⟩, List.mem_of_getElem? (i := 265) (by decide +kernel), List.mem_of_getElem? (i := 877) (by decide +kernel), List.mem_of_getElem? (i := 878) (by decide +kernel)⟩
theorem lw_p23 : lw_okq (⟨"TannerBunting$Hands", "fillPairs", "(LTannerBunting$Street;)V"⟩, 3) := ⟨⟨by decide +kernel, by decide +kernel⟩, List.mem_of_getElem? (i := 265) (by decide +kernel), List.mem_of_getElem? (i := 956) (by decide +kernel), List.mem_of_getElem? (i := 957) (by decide +kernel)⟩
theorem lw_p24 : lw_okq (⟨"TannerBunting$Hands", "pairsFrom", "(II)I"⟩, 3) := ⟨⟨by decide +kernel, by decide +kernel⟩, List.mem_of_getElem? (i := 265) (by decide +kernel), List.mem_of_getElem? (i := 964) (by decide +kernel), List.mem_of_getElem? (i := 965) (by decide +kernel)⟩
theorem lw_p25 : lw_okq (⟨"TannerBunting$Hands", "setPairs", "(III)V"⟩, 3) := ⟨⟨by decide +kernel, by decide +kernel⟩, List.mem_of_getElem? (i := 265) (by decide +kernel), List.mem_of_getElem? (i := 969) (by decide +kernel), List.mem_of_getElem? (i := 970) (by decide +kernel)⟩
theorem lw_p26 : lw_okq (⟨"TannerBunting$Hands", "firstPartner", "(LTannerBunting$Street;II)I"⟩, 3) := ⟨⟨by decide +kernel, by decide +kernel⟩, List.mem_of_getElem? (i := 265) (by decide +kernel), List.mem_of_getElem? (i := 973) (by decide +kernel), List.mem_of_getElem? (i := 974) (by decide +kernel)⟩
theorem lw_p27 : lw_okq (⟨"TannerBunting$Years", "takeIfMore", "(III)V"⟩, 8) := ⟨⟨by decide +kernel, by decide +kernel⟩, List.mem_of_getElem? (i := 283) (by decide +kernel), List.mem_of_getElem? (i := 994) (by decide +kernel), List.mem_of_getElem? (i := 995) (by decide +kernel)⟩
theorem lw_p28 : lw_okq (⟨"TannerBunting$Story", "forget", "()V"⟩, 5) := ⟨⟨by decide +kernel, by decide +kernel⟩, List.mem_of_getElem? (i := 321) (by decide +kernel), List.mem_of_getElem? (i := 1006) (by decide +kernel), List.mem_of_getElem? (i := 1007) (by decide +kernel)⟩
theorem lw_p29 : lw_okq (⟨"TannerBunting$Story", "fits", "(LTannerBunting$Notes;[I)Z"⟩, 5) := ⟨⟨by decide +kernel, by decide +kernel⟩, List.mem_of_getElem? (i := 321) (by decide +kernel), List.mem_of_getElem? (i := 1012) (by decide +kernel), List.mem_of_getElem? (i := 1013) (by decide +kernel)⟩
theorem lw_p30 : lw_okq (⟨"TannerBunting$Story", "take", "(I)V"⟩, 5) := ⟨⟨by decide +kernel, by decide +kernel⟩, List.mem_of_getElem? (i := 321) (by decide +kernel), List.mem_of_getElem? (i := 1027) (by decide +kernel), List.mem_of_getElem? (i := 1028) (by decide +kernel)⟩
theorem lw_p31 : lw_okq (⟨"TannerBunting$Years", "letGo", "(III)V"⟩, 8) := ⟨⟨by decide +kernel, by decide +kernel⟩, List.mem_of_getElem? (i := 283) (by decide +kernel), List.mem_of_getElem? (i := 1039) (by decide +kernel), List.mem_of_getElem? (i := 1040) (by decide +kernel)⟩
def lw_privs_2 : List (MethodName × Nat) := [(⟨"TannerBunting", "ruleInForce", "()[I"⟩, 12), (⟨"TannerBunting$Judge", "worth", "([ILTannerBunting$Street;I)J"⟩, 2), (⟨"TannerBunting$Judge", "push", "(J)V"⟩, 2), (⟨"TannerBunting$Judge", "pop", "()J"⟩, 2), (⟨"TannerBunting$Street", "weak", "()I"⟩, 12), (⟨"TannerBunting$Street", "weighAll", "()V"⟩, 12), (⟨"TannerBunting$Hands", "fallenWith", "(LTannerBunting$Street;I)I"⟩, 3), (⟨"TannerBunting$Hands", "fillPairs", "(LTannerBunting$Street;)V"⟩, 3), (⟨"TannerBunting$Hands", "pairsFrom", "(II)I"⟩, 3), (⟨"TannerBunting$Hands", "setPairs", "(III)V"⟩, 3), (⟨"TannerBunting$Hands", "firstPartner", "(LTannerBunting$Street;II)I"⟩, 3), (⟨"TannerBunting$Years", "takeIfMore", "(III)V"⟩, 8), (⟨"TannerBunting$Story", "forget", "()V"⟩, 5), (⟨"TannerBunting$Story", "fits", "(LTannerBunting$Notes;[I)Z"⟩, 5), (⟨"TannerBunting$Story", "take", "(I)V"⟩, 5), (⟨"TannerBunting$Years", "letGo", "(III)V"⟩, 8)]
theorem lw_r2 : ∀ q ∈ lw_privs_2, lw_okq q := List.forall_mem_cons.mpr ⟨lw_p16, List.forall_mem_cons.mpr ⟨lw_p17, List.forall_mem_cons.mpr ⟨lw_p18, List.forall_mem_cons.mpr ⟨lw_p19, List.forall_mem_cons.mpr ⟨lw_p20, List.forall_mem_cons.mpr ⟨lw_p21, List.forall_mem_cons.mpr ⟨lw_p22, List.forall_mem_cons.mpr ⟨lw_p23, List.forall_mem_cons.mpr ⟨lw_p24, List.forall_mem_cons.mpr ⟨lw_p25, List.forall_mem_cons.mpr ⟨lw_p26, List.forall_mem_cons.mpr ⟨lw_p27, List.forall_mem_cons.mpr ⟨lw_p28, List.forall_mem_cons.mpr ⟨lw_p29, List.forall_mem_cons.mpr ⟨lw_p30, List.forall_mem_cons.mpr ⟨lw_p31, fun _ h => absurd h List.not_mem_nil⟩⟩⟩⟩⟩⟩⟩⟩⟩⟩⟩⟩⟩⟩⟩⟩
theorem lw_p32 : lw_okq (⟨"TannerBunting$Years", "setGain", "(III)V"⟩, 8) := ⟨⟨by decide +kernel, by decide +kernel⟩, List.mem_of_getElem? (i := 283) (by decide +kernel), List.mem_of_getElem? (i := 1045) (by decide +kernel), List.mem_of_getElem? (i := 1046) (by decide +kernel)⟩
theorem lw_p33 : lw_okq (⟨"TannerBunting$Years", "gainOf", "(II)I"⟩, 8) := ⟨⟨by decide +kernel, by decide +kernel⟩, List.mem_of_getElem? (i := 283) (by decide +kernel), List.mem_of_getElem? (i := 1049) (by decide +kernel), List.mem_of_getElem? (i := 1050) (by decide +kernel)⟩
theorem lw_p34 : lw_okq (⟨"TannerBunting$Story", "countStanding", "()V"⟩, 5) := ⟨⟨by decide +kernel, by decide +kernel⟩, List.mem_of_getElem? (i := 321) (by decide +kernel), List.mem_of_getElem? (i := 1083) (by decide +kernel), List.mem_of_getElem? (i := 1084) (by decide +kernel)⟩
theorem lw_p35 : lw_okq (⟨"TannerBunting$Years", "snowOnce", "(I)V"⟩, 8) := ⟨⟨by decide +kernel, by decide +kernel⟩, List.mem_of_getElem? (i := 283) (by decide +kernel), List.mem_of_getElem? (i := 1114) (by decide +kernel), List.mem_of_getElem? (i := 1115) (by decide +kernel)⟩
theorem lw_p36 : lw_okq (⟨"TannerBunting$Years", "draw", "()I"⟩, 8) := ⟨⟨by decide +kernel, by decide +kernel⟩, List.mem_of_getElem? (i := 283) (by decide +kernel), List.mem_of_getElem? (i := 1118) (by decide +kernel), List.mem_of_getElem? (i := 1119) (by decide +kernel)⟩
theorem lw_p37 : lw_okq (⟨"TannerBuntingModel", "four", "(I)V"⟩, 36) := ⟨⟨by decide +kernel, by decide +kernel⟩, List.mem_of_getElem? (i := 1149) (by decide +kernel), List.mem_of_getElem? (i := 1269) (by decide +kernel), List.mem_of_getElem? (i := 1270) (by decide +kernel)⟩
theorem lw_p38 : lw_okq (⟨"TannerBuntingModel", "readsAll", "()Z"⟩, 36) := ⟨⟨by decide +kernel, by decide +kernel⟩, List.mem_of_getElem? (i := 1149) (by decide +kernel), List.mem_of_getElem? (i := 1281) (by decide +kernel), List.mem_of_getElem? (i := 1282) (by decide +kernel)⟩
theorem lw_p39 : lw_okq (⟨"TannerBuntingModel", "clauseHere", "()Z"⟩, 36) := ⟨⟨by decide +kernel, by decide +kernel⟩, List.mem_of_getElem? (i := 1149) (by decide +kernel), List.mem_of_getElem? (i := 1285) (by decide +kernel), List.mem_of_getElem? (i := 1286) (by decide +kernel)⟩
theorem lw_p40 : lw_okq (⟨"TannerBuntingModel", "see", "()I"⟩, 36) := ⟨⟨by decide +kernel, by decide +kernel⟩, List.mem_of_getElem? (i := 1149) (by decide +kernel), List.mem_of_getElem? (i := 1289) (by decide +kernel), List.mem_of_getElem? (i := 1290) (by decide +kernel)⟩
theorem lw_p41 : lw_okq (⟨"TannerBuntingModel", "isStreetWord", "()Z"⟩, 36) := ⟨⟨by decide +kernel, by decide +kernel⟩, List.mem_of_getElem? (i := 1149) (by decide +kernel), List.mem_of_getElem? (i := 1293) (by decide +kernel), List.mem_of_getElem? (i := 1294) (by decide +kernel)⟩
theorem lw_p42 : lw_okq (⟨"TannerBuntingModel", "isWord", "(J)Z"⟩, 36) := ⟨⟨by decide +kernel, by decide +kernel⟩, List.mem_of_getElem? (i := 1149) (by decide +kernel), List.mem_of_getElem? (i := 1298) (by decide +kernel), List.mem_of_getElem? (i := 1299) (by decide +kernel)⟩
theorem lw_p43 : lw_okq (⟨"TannerBuntingModel", "isLetter", "(I)Z"⟩, 36) := ⟨⟨by decide +kernel, by decide +kernel⟩, List.mem_of_getElem? (i := 1149) (by decide +kernel), List.mem_of_getElem? (i := 1302) (by decide +kernel), List.mem_of_getElem? (i := 1303) (by decide +kernel)⟩
theorem lw_p44 : lw_okq (⟨"TannerBuntingModel", "fails", "(II)Z"⟩, 36) := ⟨⟨by decide +kernel, by decide +kernel⟩, List.mem_of_getElem? (i := 1149) (by decide +kernel), List.mem_of_getElem? (i := 1309) (by decide +kernel), List.mem_of_getElem? (i := 1310) (by decide +kernel)⟩
theorem lw_p45 : lw_okq (⟨"TannerBuntingModel", "streetLineHere", "(I)Z"⟩, 36) := ⟨⟨by decide +kernel, by decide +kernel⟩, List.mem_of_getElem? (i := 1149) (by decide +kernel), List.mem_of_getElem? (i := 1313) (by decide +kernel), List.mem_of_getElem? (i := 1314) (by decide +kernel)⟩
theorem lw_p46 : lw_okq (⟨"TannerBuntingModel", "isStreetHere", "(I)Z"⟩, 36) := ⟨⟨by decide +kernel, by decide +kernel⟩, List.mem_of_getElem? (i := 1149) (by decide +kernel), List.mem_of_getElem? (i := 1317) (by decide +kernel), List.mem_of_getElem? (i := 1318) (by decide +kernel)⟩
theorem lw_p47 : lw_okq (⟨"TannerBuntingModel", "passWord", "()V"⟩, 36) := ⟨⟨by decide +kernel, by decide +kernel⟩, List.mem_of_getElem? (i := 1149) (by decide +kernel), List.mem_of_getElem? (i := 1321) (by decide +kernel), List.mem_of_getElem? (i := 1322) (by decide +kernel)⟩
def lw_privs_3 : List (MethodName × Nat) := [(⟨"TannerBunting$Years", "setGain", "(III)V"⟩, 8), (⟨"TannerBunting$Years", "gainOf", "(II)I"⟩, 8), (⟨"TannerBunting$Story", "countStanding", "()V"⟩, 5), (⟨"TannerBunting$Years", "snowOnce", "(I)V"⟩, 8), (⟨"TannerBunting$Years", "draw", "()I"⟩, 8), (⟨"TannerBuntingModel", "four", "(I)V"⟩, 36), (⟨"TannerBuntingModel", "readsAll", "()Z"⟩, 36), (⟨"TannerBuntingModel", "clauseHere", "()Z"⟩, 36), (⟨"TannerBuntingModel", "see", "()I"⟩, 36), (⟨"TannerBuntingModel", "isStreetWord", "()Z"⟩, 36), (⟨"TannerBuntingModel", "isWord", "(J)Z"⟩, 36), (⟨"TannerBuntingModel", "isLetter", "(I)Z"⟩, 36), (⟨"TannerBuntingModel", "fails", "(II)Z"⟩, 36), (⟨"TannerBuntingModel", "streetLineHere", "(I)Z"⟩, 36), (⟨"TannerBuntingModel", "isStreetHere", "(I)Z"⟩, 36), (⟨"TannerBuntingModel", "passWord", "()V"⟩, 36)]
theorem lw_r3 : ∀ q ∈ lw_privs_3, lw_okq q := List.forall_mem_cons.mpr ⟨lw_p32, List.forall_mem_cons.mpr ⟨lw_p33, List.forall_mem_cons.mpr ⟨lw_p34, List.forall_mem_cons.mpr ⟨lw_p35, List.forall_mem_cons.mpr ⟨lw_p36, List.forall_mem_cons.mpr ⟨lw_p37, List.forall_mem_cons.mpr ⟨lw_p38, List.forall_mem_cons.mpr ⟨lw_p39, List.forall_mem_cons.mpr ⟨lw_p40, List.forall_mem_cons.mpr ⟨lw_p41, List.forall_mem_cons.mpr ⟨lw_p42, List.forall_mem_cons.mpr ⟨lw_p43, List.forall_mem_cons.mpr ⟨lw_p44, List.forall_mem_cons.mpr ⟨lw_p45, List.forall_mem_cons.mpr ⟨lw_p46, List.forall_mem_cons.mpr ⟨lw_p47, fun _ h => absurd h List.not_mem_nil⟩⟩⟩⟩⟩⟩⟩⟩⟩⟩⟩⟩⟩⟩⟩⟩
theorem lw_p48 : lw_okq (⟨"TannerBuntingModel", "cellHere", "(III)Z"⟩, 36) := ⟨⟨by decide +kernel, by decide +kernel⟩, List.mem_of_getElem? (i := 1149) (by decide +kernel), List.mem_of_getElem? (i := 1325) (by decide +kernel), List.mem_of_getElem? (i := 1326) (by decide +kernel)⟩
theorem lw_p49 : lw_okq (⟨"TannerBuntingModel", "numberHere", "(II)Z"⟩, 36) := ⟨⟨by decide +kernel, by decide +kernel⟩, List.mem_of_getElem? (i := 1149) (by decide +kernel), List.mem_of_getElem? (i := 1329) (by decide +kernel), List.mem_of_getElem? (i := 1330) (by decide +kernel)⟩
theorem lw_p50 : lw_okq (⟨"TannerBuntingModel", "isDigit", "(I)Z"⟩, 36) := ⟨⟨by decide +kernel, by decide +kernel⟩, List.mem_of_getElem? (i := 1149) (by decide +kernel), List.mem_of_getElem? (i := 1333) (by decide +kernel), List.mem_of_getElem? (i := 1334) (by decide +kernel)⟩
theorem lw_p51 : lw_okq (⟨"TannerBuntingModel", "isHouseHere", "()Z"⟩, 36) := ⟨⟨by decide +kernel, by decide +kernel⟩, List.mem_of_getElem? (i := 1149) (by decide +kernel), List.mem_of_getElem? (i := 1340) (by decide +kernel), List.mem_of_getElem? (i := 1341) (by decide +kernel)⟩
theorem lw_p52 : lw_okq (⟨"TannerBuntingModel", "isLineHere", "(I)Z"⟩, 36) := ⟨⟨by decide +kernel, by decide +kernel⟩, List.mem_of_getElem? (i := 1149) (by decide +kernel), List.mem_of_getElem? (i := 1344) (by decide +kernel), List.mem_of_getElem? (i := 1345) (by decide +kernel)⟩
theorem lw_p53 : lw_okq (⟨"TannerBuntingModel", "isKeepHere", "()Z"⟩, 36) := ⟨⟨by decide +kernel, by decide +kernel⟩, List.mem_of_getElem? (i := 1149) (by decide +kernel), List.mem_of_getElem? (i := 1348) (by decide +kernel), List.mem_of_getElem? (i := 1349) (by decide +kernel)⟩
theorem lw_p54 : lw_okq (⟨"TannerBuntingModel", "sum", "()Z"⟩, 36) := ⟨⟨by decide +kernel, by decide +kernel⟩, List.mem_of_getElem? (i := 1149) (by decide +kernel), List.mem_of_getElem? (i := 1352) (by decide +kernel), List.mem_of_getElem? (i := 1353) (by decide +kernel)⟩
theorem lw_p55 : lw_okq (⟨"TannerBuntingModel", "term", "()Z"⟩, 36) := ⟨⟨by decide +kernel, by decide +kernel⟩, List.mem_of_getElem? (i := 1149) (by decide +kernel), List.mem_of_getElem? (i := 1356) (by decide +kernel), List.mem_of_getElem? (i := 1357) (by decide +kernel)⟩
theorem lw_p56 : lw_okq (⟨"TannerBuntingModel", "value", "()Z"⟩, 36) := ⟨⟨by decide +kernel, by decide +kernel⟩, List.mem_of_getElem? (i := 1149) (by decide +kernel), List.mem_of_getElem? (i := 1360) (by decide +kernel), List.mem_of_getElem? (i := 1361) (by decide +kernel)⟩
theorem lw_p57 : lw_okq (⟨"TannerBuntingModel", "makes", "(I)Z"⟩, 36) := ⟨⟨by decide +kernel, by decide +kernel⟩, List.mem_of_getElem? (i := 1149) (by decide +kernel), List.mem_of_getElem? (i := 1365) (by decide +kernel), List.mem_of_getElem? (i := 1366) (by decide +kernel)⟩
theorem lw_p58 : lw_okq (⟨"TannerBuntingModel", "puts", "(II)V"⟩, 36) := ⟨⟨by decide +kernel, by decide +kernel⟩, List.mem_of_getElem? (i := 1149) (by decide +kernel), List.mem_of_getElem? (i := 1369) (by decide +kernel), List.mem_of_getElem? (i := 1370) (by decide +kernel)⟩
theorem lw_p59 : lw_okq (⟨"TannerBuntingModel", "wordHere", "()I"⟩, 36) := ⟨⟨by decide +kernel, by decide +kernel⟩, List.mem_of_getElem? (i := 1149) (by decide +kernel), List.mem_of_getElem? (i := 1373) (by decide +kernel), List.mem_of_getElem? (i := 1374) (by decide +kernel)⟩
theorem lw_p60 : lw_okq (⟨"TannerBuntingModel", "takesWord", "(J)Z"⟩, 36) := ⟨⟨by decide +kernel, by decide +kernel⟩, List.mem_of_getElem? (i := 1149) (by decide +kernel), List.mem_of_getElem? (i := 1389) (by decide +kernel), List.mem_of_getElem? (i := 1390) (by decide +kernel)⟩
theorem lw_p61 : lw_okq (⟨"TannerBuntingModel", "tested", "()Z"⟩, 36) := ⟨⟨by decide +kernel, by decide +kernel⟩, List.mem_of_getElem? (i := 1149) (by decide +kernel), List.mem_of_getElem? (i := 1393) (by decide +kernel), List.mem_of_getElem? (i := 1394) (by decide +kernel)⟩
theorem lw_p62 : lw_okq (⟨"TannerBuntingModel", "fact", "()Z"⟩, 36) := ⟨⟨by decide +kernel, by decide +kernel⟩, List.mem_of_getElem? (i := 1149) (by decide +kernel), List.mem_of_getElem? (i := 1397) (by decide +kernel), List.mem_of_getElem? (i := 1398) (by decide +kernel)⟩
theorem lw_p63 : lw_okq (⟨"TannerBuntingModel", "opens", "(I)Z"⟩, 36) := ⟨⟨by decide +kernel, by decide +kernel⟩, List.mem_of_getElem? (i := 1149) (by decide +kernel), List.mem_of_getElem? (i := 1402) (by decide +kernel), List.mem_of_getElem? (i := 1403) (by decide +kernel)⟩
def lw_privs_4 : List (MethodName × Nat) := [(⟨"TannerBuntingModel", "cellHere", "(III)Z"⟩, 36), (⟨"TannerBuntingModel", "numberHere", "(II)Z"⟩, 36), (⟨"TannerBuntingModel", "isDigit", "(I)Z"⟩, 36), (⟨"TannerBuntingModel", "isHouseHere", "()Z"⟩, 36), (⟨"TannerBuntingModel", "isLineHere", "(I)Z"⟩, 36), (⟨"TannerBuntingModel", "isKeepHere", "()Z"⟩, 36), (⟨"TannerBuntingModel", "sum", "()Z"⟩, 36), (⟨"TannerBuntingModel", "term", "()Z"⟩, 36), (⟨"TannerBuntingModel", "value", "()Z"⟩, 36), (⟨"TannerBuntingModel", "makes", "(I)Z"⟩, 36), (⟨"TannerBuntingModel", "puts", "(II)V"⟩, 36), (⟨"TannerBuntingModel", "wordHere", "()I"⟩, 36), (⟨"TannerBuntingModel", "takesWord", "(J)Z"⟩, 36), (⟨"TannerBuntingModel", "tested", "()Z"⟩, 36), (⟨"TannerBuntingModel", "fact", "()Z"⟩, 36), (⟨"TannerBuntingModel", "opens", "(I)Z"⟩, 36)]
theorem lw_r4 : ∀ q ∈ lw_privs_4, lw_okq q := List.forall_mem_cons.mpr ⟨lw_p48, List.forall_mem_cons.mpr ⟨lw_p49, List.forall_mem_cons.mpr ⟨lw_p50, List.forall_mem_cons.mpr ⟨lw_p51, List.forall_mem_cons.mpr ⟨lw_p52, List.forall_mem_cons.mpr ⟨lw_p53, List.forall_mem_cons.mpr ⟨lw_p54, List.forall_mem_cons.mpr ⟨lw_p55, List.forall_mem_cons.mpr ⟨lw_p56, List.forall_mem_cons.mpr ⟨lw_p57, List.forall_mem_cons.mpr ⟨lw_p58, List.forall_mem_cons.mpr ⟨lw_p59, List.forall_mem_cons.mpr ⟨lw_p60, List.forall_mem_cons.mpr ⟨lw_p61, List.forall_mem_cons.mpr ⟨lw_p62, List.forall_mem_cons.mpr ⟨lw_p63, fun _ h => absurd h List.not_mem_nil⟩⟩⟩⟩⟩⟩⟩⟩⟩⟩⟩⟩⟩⟩⟩⟩
theorem lw_p64 : lw_okq (⟨"TannerBuntingModel", "compare", "()Z"⟩, 36) := ⟨⟨by decide +kernel, by decide +kernel⟩, List.mem_of_getElem? (i := 1149) (by decide +kernel), List.mem_of_getElem? (i := 1406) (by decide +kernel), List.mem_of_getElem? (i := 1407) (by decide +kernel)⟩
theorem lw_p65 : lw_okq (⟨"TannerBuntingModel", "closes", "()V"⟩, 36) := ⟨⟨by decide +kernel, by decide +kernel⟩, List.mem_of_getElem? (i := 1149) (by decide +kernel), List.mem_of_getElem? (i := 1410) (by decide +kernel), List.mem_of_getElem? (i := 1411) (by decide +kernel)⟩
theorem lw_p66 : lw_okq (⟨"TannerBuntingModel", "layDown", "(I)V"⟩, 36) := ⟨⟨by decide +kernel, by decide +kernel⟩, List.mem_of_getElem? (i := 1149) (by decide +kernel), List.mem_of_getElem? (i := 1414) (by decide +kernel), List.mem_of_getElem? (i := 1415) (by decide +kernel)⟩
theorem lw_p67 : lw_okq (⟨"TannerBuntingModel", "isInside", "()Z"⟩, 36) := ⟨⟨by decide +kernel, by decide +kernel⟩, List.mem_of_getElem? (i := 1149) (by decide +kernel), List.mem_of_getElem? (i := 1421) (by decide +kernel), List.mem_of_getElem? (i := 1422) (by decide +kernel)⟩
theorem lw_p68 : lw_okq (⟨"TannerBuntingModel", "begins", "()V"⟩, 36) := ⟨⟨by decide +kernel, by decide +kernel⟩, List.mem_of_getElem? (i := 1149) (by decide +kernel), List.mem_of_getElem? (i := 1431) (by decide +kernel), List.mem_of_getElem? (i := 1432) (by decide +kernel)⟩
theorem lw_p69 : lw_okq (⟨"TannerBuntingModel", "ups", "(IIII)V"⟩, 36) := ⟨⟨by decide +kernel, by decide +kernel⟩, List.mem_of_getElem? (i := 1149) (by decide +kernel), List.mem_of_getElem? (i := 1435) (by decide +kernel), List.mem_of_getElem? (i := 1436) (by decide +kernel)⟩
theorem lw_p70 : lw_okq (⟨"TannerBuntingModel", "isRule", "(I)Z"⟩, 36) := ⟨⟨by decide +kernel, by decide +kernel⟩, List.mem_of_getElem? (i := 1149) (by decide +kernel), List.mem_of_getElem? (i := 1443) (by decide +kernel), List.mem_of_getElem? (i := 1444) (by decide +kernel)⟩
theorem lw_p71 : lw_okq (⟨"TannerBuntingModel", "isHouse", "(I)Z"⟩, 36) := ⟨⟨by decide +kernel, by decide +kernel⟩, List.mem_of_getElem? (i := 1149) (by decide +kernel), List.mem_of_getElem? (i := 1451) (by decide +kernel), List.mem_of_getElem? (i := 1452) (by decide +kernel)⟩
theorem lw_p72 : lw_okq (⟨"TannerBuntingModel", "houses", "()I"⟩, 36) := ⟨⟨by decide +kernel, by decide +kernel⟩, List.mem_of_getElem? (i := 1149) (by decide +kernel), List.mem_of_getElem? (i := 1455) (by decide +kernel), List.mem_of_getElem? (i := 1456) (by decide +kernel)⟩
theorem lw_p73 : lw_okq (⟨"TannerBuntingModel", "linesAt", "(I)I"⟩, 36) := ⟨⟨by decide +kernel, by decide +kernel⟩, List.mem_of_getElem? (i := 1149) (by decide +kernel), List.mem_of_getElem? (i := 1459) (by decide +kernel), List.mem_of_getElem? (i := 1460) (by decide +kernel)⟩
theorem lw_p74 : lw_okq (⟨"TannerBuntingModel", "isAt", "(II)Z"⟩, 36) := ⟨⟨by decide +kernel, by decide +kernel⟩, List.mem_of_getElem? (i := 1149) (by decide +kernel), List.mem_of_getElem? (i := 1463) (by decide +kernel), List.mem_of_getElem? (i := 1464) (by decide +kernel)⟩
theorem lw_p75 : lw_okq (⟨"TannerBuntingModel", "isUp", "(I)Z"⟩, 36) := ⟨⟨by decide +kernel, by decide +kernel⟩, List.mem_of_getElem? (i := 1149) (by decide +kernel), List.mem_of_getElem? (i := 1467) (by decide +kernel), List.mem_of_getElem? (i := 1468) (by decide +kernel)⟩
theorem lw_p76 : lw_okq (⟨"TannerBuntingModel", "isLine", "(I)Z"⟩, 36) := ⟨⟨by decide +kernel, by decide +kernel⟩, List.mem_of_getElem? (i := 1149) (by decide +kernel), List.mem_of_getElem? (i := 1471) (by decide +kernel), List.mem_of_getElem? (i := 1472) (by decide +kernel)⟩
theorem lw_p77 : lw_okq (⟨"TannerBuntingModel", "oddOf", "(I)I"⟩, 36) := ⟨⟨by decide +kernel, by decide +kernel⟩, List.mem_of_getElem? (i := 1149) (by decide +kernel), List.mem_of_getElem? (i := 1475) (by decide +kernel), List.mem_of_getElem? (i := 1476) (by decide +kernel)⟩
theorem lw_p78 : lw_okq (⟨"TannerBuntingModel", "evenOf", "(I)I"⟩, 36) := ⟨⟨by decide +kernel, by decide +kernel⟩, List.mem_of_getElem? (i := 1149) (by decide +kernel), List.mem_of_getElem? (i := 1479) (by decide +kernel), List.mem_of_getElem? (i := 1480) (by decide +kernel)⟩
theorem lw_p79 : lw_okq (⟨"TannerBuntingModel", "isStreet", "()Z"⟩, 36) := ⟨⟨by decide +kernel, by decide +kernel⟩, List.mem_of_getElem? (i := 1149) (by decide +kernel), List.mem_of_getElem? (i := 1496) (by decide +kernel), List.mem_of_getElem? (i := 1497) (by decide +kernel)⟩
def lw_privs_5 : List (MethodName × Nat) := [(⟨"TannerBuntingModel", "compare", "()Z"⟩, 36), (⟨"TannerBuntingModel", "closes", "()V"⟩, 36), (⟨"TannerBuntingModel", "layDown", "(I)V"⟩, 36), (⟨"TannerBuntingModel", "isInside", "()Z"⟩, 36), (⟨"TannerBuntingModel", "begins", "()V"⟩, 36), (⟨"TannerBuntingModel", "ups", "(IIII)V"⟩, 36), (⟨"TannerBuntingModel", "isRule", "(I)Z"⟩, 36), (⟨"TannerBuntingModel", "isHouse", "(I)Z"⟩, 36), (⟨"TannerBuntingModel", "houses", "()I"⟩, 36), (⟨"TannerBuntingModel", "linesAt", "(I)I"⟩, 36), (⟨"TannerBuntingModel", "isAt", "(II)Z"⟩, 36), (⟨"TannerBuntingModel", "isUp", "(I)Z"⟩, 36), (⟨"TannerBuntingModel", "isLine", "(I)Z"⟩, 36), (⟨"TannerBuntingModel", "oddOf", "(I)I"⟩, 36), (⟨"TannerBuntingModel", "evenOf", "(I)I"⟩, 36), (⟨"TannerBuntingModel", "isStreet", "()Z"⟩, 36)]
theorem lw_r5 : ∀ q ∈ lw_privs_5, lw_okq q := List.forall_mem_cons.mpr ⟨lw_p64, List.forall_mem_cons.mpr ⟨lw_p65, List.forall_mem_cons.mpr ⟨lw_p66, List.forall_mem_cons.mpr ⟨lw_p67, List.forall_mem_cons.mpr ⟨lw_p68, List.forall_mem_cons.mpr ⟨lw_p69, List.forall_mem_cons.mpr ⟨lw_p70, List.forall_mem_cons.mpr ⟨lw_p71, List.forall_mem_cons.mpr ⟨lw_p72, List.forall_mem_cons.mpr ⟨lw_p73, List.forall_mem_cons.mpr ⟨lw_p74, List.forall_mem_cons.mpr ⟨lw_p75, List.forall_mem_cons.mpr ⟨lw_p76, List.forall_mem_cons.mpr ⟨lw_p77, List.forall_mem_cons.mpr ⟨lw_p78, List.forall_mem_cons.mpr ⟨lw_p79, fun _ h => absurd h List.not_mem_nil⟩⟩⟩⟩⟩⟩⟩⟩⟩⟩⟩⟩⟩⟩⟩⟩
theorem lw_p80 : lw_okq (⟨"TannerBuntingModel", "keepsAct", "()V"⟩, 36) := ⟨⟨by decide +kernel, by decide +kernel⟩, List.mem_of_getElem? (i := 1149) (by decide +kernel), List.mem_of_getElem? (i := 1500) (by decide +kernel), List.mem_of_getElem? (i := 1501) (by decide +kernel)⟩
theorem lw_p81 : lw_okq (⟨"TannerBuntingModel", "passes", "()I"⟩, 36) := ⟨⟨by decide +kernel, by decide +kernel⟩, List.mem_of_getElem? (i := 1149) (by decide +kernel), List.mem_of_getElem? (i := 1504) (by decide +kernel), List.mem_of_getElem? (i := 1505) (by decide +kernel)⟩
theorem lw_p82 : lw_okq (⟨"TannerBuntingModel", "letGo", "()I"⟩, 36) := ⟨⟨by decide +kernel, by decide +kernel⟩, List.mem_of_getElem? (i := 1149) (by decide +kernel), List.mem_of_getElem? (i := 1508) (by decide +kernel), List.mem_of_getElem? (i := 1509) (by decide +kernel)⟩
theorem lw_p83 : lw_okq (⟨"TannerBuntingModel", "isKept", "(I)Z"⟩, 36) := ⟨⟨by decide +kernel, by decide +kernel⟩, List.mem_of_getElem? (i := 1149) (by decide +kernel), List.mem_of_getElem? (i := 1512) (by decide +kernel), List.mem_of_getElem? (i := 1513) (by decide +kernel)⟩
theorem lw_p84 : lw_okq (⟨"TannerBuntingModel", "pullOf", "(I)I"⟩, 36) := ⟨⟨by decide +kernel, by decide +kernel⟩, List.mem_of_getElem? (i := 1149) (by decide +kernel), List.mem_of_getElem? (i := 1516) (by decide +kernel), List.mem_of_getElem? (i := 1517) (by decide +kernel)⟩
theorem lw_p85 : lw_okq (⟨"TannerBuntingModel", "linesUp", "()I"⟩, 36) := ⟨⟨by decide +kernel, by decide +kernel⟩, List.mem_of_getElem? (i := 1149) (by decide +kernel), List.mem_of_getElem? (i := 1520) (by decide +kernel), List.mem_of_getElem? (i := 1521) (by decide +kernel)⟩
theorem lw_p86 : lw_okq (⟨"TannerBuntingModel", "standingOnes", "()I"⟩, 36) := ⟨⟨by decide +kernel, by decide +kernel⟩, List.mem_of_getElem? (i := 1149) (by decide +kernel), List.mem_of_getElem? (i := 1527) (by decide +kernel), List.mem_of_getElem? (i := 1528) (by decide +kernel)⟩
theorem lw_p87 : lw_okq (⟨"TannerBuntingModel", "isStanding", "(I)Z"⟩, 36) := ⟨⟨by decide +kernel, by decide +kernel⟩, List.mem_of_getElem? (i := 1149) (by decide +kernel), List.mem_of_getElem? (i := 1531) (by decide +kernel), List.mem_of_getElem? (i := 1532) (by decide +kernel)⟩
theorem lw_p88 : lw_okq (⟨"TannerBuntingModel", "summedBy", "(I)J"⟩, 36) := ⟨⟨by decide +kernel, by decide +kernel⟩, List.mem_of_getElem? (i := 1149) (by decide +kernel), List.mem_of_getElem? (i := 1535) (by decide +kernel), List.mem_of_getElem? (i := 1536) (by decide +kernel)⟩
theorem lw_p89 : lw_okq (⟨"TannerBuntingModel", "reckons", "(III)J"⟩, 36) := ⟨⟨by decide +kernel, by decide +kernel⟩, List.mem_of_getElem? (i := 1149) (by decide +kernel), List.mem_of_getElem? (i := 1539) (by decide +kernel), List.mem_of_getElem? (i := 1540) (by decide +kernel)⟩
theorem lw_p90 : lw_okq (⟨"TannerBuntingModel", "push", "(J)V"⟩, 36) := ⟨⟨by decide +kernel, by decide +kernel⟩, List.mem_of_getElem? (i := 1149) (by decide +kernel), List.mem_of_getElem? (i := 1543) (by decide +kernel), List.mem_of_getElem? (i := 1544) (by decide +kernel)⟩
theorem lw_p91 : lw_okq (⟨"TannerBuntingModel", "pop", "()J"⟩, 36) := ⟨⟨by decide +kernel, by decide +kernel⟩, List.mem_of_getElem? (i := 1149) (by decide +kernel), List.mem_of_getElem? (i := 1547) (by decide +kernel), List.mem_of_getElem? (i := 1548) (by decide +kernel)⟩
theorem lw_p92 : lw_okq (⟨"TannerBuntingModel", "downsAll", "(I)V"⟩, 36) := ⟨⟨by decide +kernel, by decide +kernel⟩, List.mem_of_getElem? (i := 1149) (by decide +kernel), List.mem_of_getElem? (i := 1554) (by decide +kernel), List.mem_of_getElem? (i := 1555) (by decide +kernel)⟩
theorem lw_p93 : lw_okq (⟨"TannerBuntingModel", "downs", "(I)V"⟩, 36) := ⟨⟨by decide +kernel, by decide +kernel⟩, List.mem_of_getElem? (i := 1149) (by decide +kernel), List.mem_of_getElem? (i := 1561) (by decide +kernel), List.mem_of_getElem? (i := 1562) (by decide +kernel)⟩
theorem lw_p94 : lw_okq (⟨"TannerBuntingModel", "fade", "()V"⟩, 36) := ⟨⟨by decide +kernel, by decide +kernel⟩, List.mem_of_getElem? (i := 1149) (by decide +kernel), List.mem_of_getElem? (i := 1565) (by decide +kernel), List.mem_of_getElem? (i := 1566) (by decide +kernel)⟩
theorem lw_p95 : lw_okq (⟨"TannerBuntingModel", "givesWay", "()I"⟩, 36) := ⟨⟨by decide +kernel, by decide +kernel⟩, List.mem_of_getElem? (i := 1149) (by decide +kernel), List.mem_of_getElem? (i := 1569) (by decide +kernel), List.mem_of_getElem? (i := 1570) (by decide +kernel)⟩
def lw_privs_6 : List (MethodName × Nat) := [(⟨"TannerBuntingModel", "keepsAct", "()V"⟩, 36), (⟨"TannerBuntingModel", "passes", "()I"⟩, 36), (⟨"TannerBuntingModel", "letGo", "()I"⟩, 36), (⟨"TannerBuntingModel", "isKept", "(I)Z"⟩, 36), (⟨"TannerBuntingModel", "pullOf", "(I)I"⟩, 36), (⟨"TannerBuntingModel", "linesUp", "()I"⟩, 36), (⟨"TannerBuntingModel", "standingOnes", "()I"⟩, 36), (⟨"TannerBuntingModel", "isStanding", "(I)Z"⟩, 36), (⟨"TannerBuntingModel", "summedBy", "(I)J"⟩, 36), (⟨"TannerBuntingModel", "reckons", "(III)J"⟩, 36), (⟨"TannerBuntingModel", "push", "(J)V"⟩, 36), (⟨"TannerBuntingModel", "pop", "()J"⟩, 36), (⟨"TannerBuntingModel", "downsAll", "(I)V"⟩, 36), (⟨"TannerBuntingModel", "downs", "(I)V"⟩, 36), (⟨"TannerBuntingModel", "fade", "()V"⟩, 36), (⟨"TannerBuntingModel", "givesWay", "()I"⟩, 36)]
theorem lw_r6 : ∀ q ∈ lw_privs_6, lw_okq q := List.forall_mem_cons.mpr ⟨lw_p80, List.forall_mem_cons.mpr ⟨lw_p81, List.forall_mem_cons.mpr ⟨lw_p82, List.forall_mem_cons.mpr ⟨lw_p83, List.forall_mem_cons.mpr ⟨lw_p84, List.forall_mem_cons.mpr ⟨lw_p85, List.forall_mem_cons.mpr ⟨lw_p86, List.forall_mem_cons.mpr ⟨lw_p87, List.forall_mem_cons.mpr ⟨lw_p88, List.forall_mem_cons.mpr ⟨lw_p89, List.forall_mem_cons.mpr ⟨lw_p90, List.forall_mem_cons.mpr ⟨lw_p91, List.forall_mem_cons.mpr ⟨lw_p92, List.forall_mem_cons.mpr ⟨lw_p93, List.forall_mem_cons.mpr ⟨lw_p94, List.forall_mem_cons.mpr ⟨lw_p95, fun _ h => absurd h List.not_mem_nil⟩⟩⟩⟩⟩⟩⟩⟩⟩⟩⟩⟩⟩⟩⟩⟩
theorem lw_p96 : lw_okq (⟨"TannerBuntingModel", "looseOnes", "()I"⟩, 36) := ⟨⟨by decide +kernel, by decide +kernel⟩, List.mem_of_getElem? (i := 1149) (by decide +kernel), List.mem_of_getElem? (i := 1573) (by decide +kernel), List.mem_of_getElem? (i := 1574) (by decide +kernel)⟩
theorem lw_p97 : lw_okq (⟨"TannerBuntingModel", "spareOf", "(I)I"⟩, 36) := ⟨⟨by decide +kernel, by decide +kernel⟩, List.mem_of_getElem? (i := 1149) (by decide +kernel), List.mem_of_getElem? (i := 1577) (by decide +kernel), List.mem_of_getElem? (i := 1578) (by decide +kernel)⟩
theorem lw_p98 : lw_okq (⟨"TannerBuntingModel", "canHang", "(II)Z"⟩, 36) := ⟨⟨by decide +kernel, by decide +kernel⟩, List.mem_of_getElem? (i := 1149) (by decide +kernel), List.mem_of_getElem? (i := 1594) (by decide +kernel), List.mem_of_getElem? (i := 1595) (by decide +kernel)⟩
theorem lw_p99 : lw_okq (⟨"TannerBuntingModel", "hangs", "(III)I"⟩, 36) := ⟨⟨by decide +kernel, by decide +kernel⟩, List.mem_of_getElem? (i := 1149) (by decide +kernel), List.mem_of_getElem? (i := 1599) (by decide +kernel), List.mem_of_getElem? (i := 1600) (by decide +kernel)⟩
theorem lw_p100 : lw_okq (⟨"TannerBuntingModel", "keeps", "()V"⟩, 36) := ⟨⟨by decide +kernel, by decide +kernel⟩, List.mem_of_getElem? (i := 1149) (by decide +kernel), List.mem_of_getElem? (i := 1613) (by decide +kernel), List.mem_of_getElem? (i := 1614) (by decide +kernel)⟩
theorem lw_p101 : lw_okq (⟨"TannerBuntingModel", "passesAll", "(I)V"⟩, 36) := ⟨⟨by decide +kernel, by decide +kernel⟩, List.mem_of_getElem? (i := 1149) (by decide +kernel), List.mem_of_getElem? (i := 1617) (by decide +kernel), List.mem_of_getElem? (i := 1618) (by decide +kernel)⟩
theorem lw_p102 : lw_okq (⟨"TannerBuntingModel", "pullAll", "()I"⟩, 36) := ⟨⟨by decide +kernel, by decide +kernel⟩, List.mem_of_getElem? (i := 1149) (by decide +kernel), List.mem_of_getElem? (i := 1621) (by decide +kernel), List.mem_of_getElem? (i := 1622) (by decide +kernel)⟩
theorem lw_p103 : lw_okq (⟨"TannerBuntingModel", "laysBack", "()V"⟩, 36) := ⟨⟨by decide +kernel, by decide +kernel⟩, List.mem_of_getElem? (i := 1149) (by decide +kernel), List.mem_of_getElem? (i := 1625) (by decide +kernel), List.mem_of_getElem? (i := 1626) (by decide +kernel)⟩
theorem lw_p104 : lw_okq (⟨"TannerBuntingModel", "fallBy", "(I)I"⟩, 36) := ⟨⟨by decide +kernel, by decide +kernel⟩, List.mem_of_getElem? (i := 1149) (by decide +kernel), List.mem_of_getElem? (i := 1648) (by decide +kernel), List.mem_of_getElem? (i := 1649) (by decide +kernel)⟩
theorem lw_p105 : lw_okq (⟨"TannerBuntingModel", "fewestSoThat", "(I)I"⟩, 36) := ⟨⟨by decide +kernel, by decide +kernel⟩, List.mem_of_getElem? (i := 1149) (by decide +kernel), List.mem_of_getElem? (i := 1656) (by decide +kernel), List.mem_of_getElem? (i := 1657) (by decide +kernel)⟩
theorem lw_p106 : lw_okq (⟨"TannerBuntingModel", "joined", "(I)I"⟩, 36) := ⟨⟨by decide +kernel, by decide +kernel⟩, List.mem_of_getElem? (i := 1149) (by decide +kernel), List.mem_of_getElem? (i := 1675) (by decide +kernel), List.mem_of_getElem? (i := 1676) (by decide +kernel)⟩
theorem lw_p107 : lw_okq (⟨"TannerBuntingModel", "blockOf", "(I)I"⟩, 36) := ⟨⟨by decide +kernel, by decide +kernel⟩, List.mem_of_getElem? (i := 1149) (by decide +kernel), List.mem_of_getElem? (i := 1683) (by decide +kernel), List.mem_of_getElem? (i := 1684) (by decide +kernel)⟩
theorem lw_p108 : lw_okq (⟨"TannerBuntingModel", "findsPairs", "()I"⟩, 36) := ⟨⟨by decide +kernel, by decide +kernel⟩, List.mem_of_getElem? (i := 1149) (by decide +kernel), List.mem_of_getElem? (i := 1697) (by decide +kernel), List.mem_of_getElem? (i := 1698) (by decide +kernel)⟩
theorem lw_p109 : lw_okq (⟨"TannerBuntingModel", "nextPairs", "()Z"⟩, 36) := ⟨⟨by decide +kernel, by decide +kernel⟩, List.mem_of_getElem? (i := 1149) (by decide +kernel), List.mem_of_getElem? (i := 1701) (by decide +kernel), List.mem_of_getElem? (i := 1702) (by decide +kernel)⟩
theorem lw_p110 : lw_okq (⟨"TannerBuntingModel", "pairsNow", "()I"⟩, 36) := ⟨⟨by decide +kernel, by decide +kernel⟩, List.mem_of_getElem? (i := 1149) (by decide +kernel), List.mem_of_getElem? (i := 1705) (by decide +kernel), List.mem_of_getElem? (i := 1706) (by decide +kernel)⟩
theorem lw_p111 : lw_okq (⟨"TannerBuntingModel", "isJoined", "(II)Z"⟩, 36) := ⟨⟨by decide +kernel, by decide +kernel⟩, List.mem_of_getElem? (i := 1149) (by decide +kernel), List.mem_of_getElem? (i := 1709) (by decide +kernel), List.mem_of_getElem? (i := 1710) (by decide +kernel)⟩
def lw_privs_7 : List (MethodName × Nat) := [(⟨"TannerBuntingModel", "looseOnes", "()I"⟩, 36), (⟨"TannerBuntingModel", "spareOf", "(I)I"⟩, 36), (⟨"TannerBuntingModel", "canHang", "(II)Z"⟩, 36), (⟨"TannerBuntingModel", "hangs", "(III)I"⟩, 36), (⟨"TannerBuntingModel", "keeps", "()V"⟩, 36), (⟨"TannerBuntingModel", "passesAll", "(I)V"⟩, 36), (⟨"TannerBuntingModel", "pullAll", "()I"⟩, 36), (⟨"TannerBuntingModel", "laysBack", "()V"⟩, 36), (⟨"TannerBuntingModel", "fallBy", "(I)I"⟩, 36), (⟨"TannerBuntingModel", "fewestSoThat", "(I)I"⟩, 36), (⟨"TannerBuntingModel", "joined", "(I)I"⟩, 36), (⟨"TannerBuntingModel", "blockOf", "(I)I"⟩, 36), (⟨"TannerBuntingModel", "findsPairs", "()I"⟩, 36), (⟨"TannerBuntingModel", "nextPairs", "()Z"⟩, 36), (⟨"TannerBuntingModel", "pairsNow", "()I"⟩, 36), (⟨"TannerBuntingModel", "isJoined", "(II)Z"⟩, 36)]
theorem lw_r7 : ∀ q ∈ lw_privs_7, lw_okq q := List.forall_mem_cons.mpr ⟨lw_p96, List.forall_mem_cons.mpr ⟨lw_p97, List.forall_mem_cons.mpr ⟨lw_p98, List.forall_mem_cons.mpr ⟨lw_p99, List.forall_mem_cons.mpr ⟨lw_p100, List.forall_mem_cons.mpr ⟨lw_p101, List.forall_mem_cons.mpr ⟨lw_p102, List.forall_mem_cons.mpr ⟨lw_p103, List.forall_mem_cons.mpr ⟨lw_p104, List.forall_mem_cons.mpr ⟨lw_p105, List.forall_mem_cons.mpr ⟨lw_p106, List.forall_mem_cons.mpr ⟨lw_p107, List.forall_mem_cons.mpr ⟨lw_p108, List.forall_mem_cons.mpr ⟨lw_p109, List.forall_mem_cons.mpr ⟨lw_p110, List.forall_mem_cons.mpr ⟨lw_p111, fun _ h => absurd h List.not_mem_nil⟩⟩⟩⟩⟩⟩⟩⟩⟩⟩⟩⟩⟩⟩⟩⟩
theorem lw_p112 : lw_okq (⟨"TannerBuntingModel", "standIn", "(I)I"⟩, 36) := ⟨⟨by decide +kernel, by decide +kernel⟩, List.mem_of_getElem? (i := 1149) (by decide +kernel), List.mem_of_getElem? (i := 1717) (by decide +kernel), List.mem_of_getElem? (i := 1718) (by decide +kernel)⟩
theorem lw_p113 : lw_okq (⟨"TannerBuntingModel", "fillsRest", "(IIII)V"⟩, 36) := ⟨⟨by decide +kernel, by decide +kernel⟩, List.mem_of_getElem? (i := 1149) (by decide +kernel), List.mem_of_getElem? (i := 1726) (by decide +kernel), List.mem_of_getElem? (i := 1727) (by decide +kernel)⟩
theorem lw_p114 : lw_okq (⟨"TannerBuntingModel", "isRest", "(II)Z"⟩, 36) := ⟨⟨by decide +kernel, by decide +kernel⟩, List.mem_of_getElem? (i := 1149) (by decide +kernel), List.mem_of_getElem? (i := 1730) (by decide +kernel), List.mem_of_getElem? (i := 1731) (by decide +kernel)⟩
theorem lw_p115 : lw_okq (⟨"TannerBuntingModel", "leanAll", "()I"⟩, 36) := ⟨⟨by decide +kernel, by decide +kernel⟩, List.mem_of_getElem? (i := 1149) (by decide +kernel), List.mem_of_getElem? (i := 1739) (by decide +kernel), List.mem_of_getElem? (i := 1740) (by decide +kernel)⟩
theorem lw_p116 : lw_okq (⟨"TannerBuntingModel", "fillsFits", "(I)V"⟩, 36) := ⟨⟨by decide +kernel, by decide +kernel⟩, List.mem_of_getElem? (i := 1149) (by decide +kernel), List.mem_of_getElem? (i := 1752) (by decide +kernel), List.mem_of_getElem? (i := 1753) (by decide +kernel)⟩
theorem lw_p117 : lw_okq (⟨"TannerBuntingModel", "areAllSo", "(II)Z"⟩, 36) := ⟨⟨by decide +kernel, by decide +kernel⟩, List.mem_of_getElem? (i := 1149) (by decide +kernel), List.mem_of_getElem? (i := 1756) (by decide +kernel), List.mem_of_getElem? (i := 1757) (by decide +kernel)⟩
theorem lw_p118 : lw_okq (⟨"TannerBuntingModel", "areNotesSo", "(I)Z"⟩, 36) := ⟨⟨by decide +kernel, by decide +kernel⟩, List.mem_of_getElem? (i := 1149) (by decide +kernel), List.mem_of_getElem? (i := 1760) (by decide +kernel), List.mem_of_getElem? (i := 1761) (by decide +kernel)⟩
theorem lw_p119 : lw_okq (⟨"TannerBuntingModel", "alikeAt", "(I)I"⟩, 36) := ⟨⟨by decide +kernel, by decide +kernel⟩, List.mem_of_getElem? (i := 1149) (by decide +kernel), List.mem_of_getElem? (i := 1768) (by decide +kernel), List.mem_of_getElem? (i := 1769) (by decide +kernel)⟩
theorem lw_p120 : lw_okq (⟨"TannerBuntingModel", "draw", "(I)I"⟩, 36) := ⟨⟨by decide +kernel, by decide +kernel⟩, List.mem_of_getElem? (i := 1149) (by decide +kernel), List.mem_of_getElem? (i := 1785) (by decide +kernel), List.mem_of_getElem? (i := 1786) (by decide +kernel)⟩
def lw_privs_8 : List (MethodName × Nat) := [(⟨"TannerBuntingModel", "standIn", "(I)I"⟩, 36), (⟨"TannerBuntingModel", "fillsRest", "(IIII)V"⟩, 36), (⟨"TannerBuntingModel", "isRest", "(II)Z"⟩, 36), (⟨"TannerBuntingModel", "leanAll", "()I"⟩, 36), (⟨"TannerBuntingModel", "fillsFits", "(I)V"⟩, 36), (⟨"TannerBuntingModel", "areAllSo", "(II)Z"⟩, 36), (⟨"TannerBuntingModel", "areNotesSo", "(I)Z"⟩, 36), (⟨"TannerBuntingModel", "alikeAt", "(I)I"⟩, 36), (⟨"TannerBuntingModel", "draw", "(I)I"⟩, 36)]
theorem lw_r8 : ∀ q ∈ lw_privs_8, lw_okq q := List.forall_mem_cons.mpr ⟨lw_p112, List.forall_mem_cons.mpr ⟨lw_p113, List.forall_mem_cons.mpr ⟨lw_p114, List.forall_mem_cons.mpr ⟨lw_p115, List.forall_mem_cons.mpr ⟨lw_p116, List.forall_mem_cons.mpr ⟨lw_p117, List.forall_mem_cons.mpr ⟨lw_p118, List.forall_mem_cons.mpr ⟨lw_p119, List.forall_mem_cons.mpr ⟨lw_p120, fun _ h => absurd h List.not_mem_nil⟩⟩⟩⟩⟩⟩⟩⟩⟩
def lw_privs : List (MethodName × Nat) := lw_privs_1 ++ (lw_privs_2 ++ (lw_privs_3 ++ (lw_privs_4 ++ (lw_privs_5 ++ (lw_privs_6 ++ (lw_privs_7 ++ (lw_privs_8)))))))
def lw_tbl : List Cond := k2_sels lw_privs ++ tables_1
theorem lw_privs_ok : ∀ q ∈ lw_privs, lw_okq q := by
  show ∀ q ∈ lw_privs_1 ++ (lw_privs_2 ++ (lw_privs_3 ++ (lw_privs_4 ++ (lw_privs_5 ++ (lw_privs_6 ++ (lw_privs_7 ++ (lw_privs_8))))))), lw_okq q
  exact List.forall_mem_append.mpr ⟨lw_r1, List.forall_mem_append.mpr ⟨lw_r2, List.forall_mem_append.mpr ⟨lw_r3, List.forall_mem_append.mpr ⟨lw_r4, List.forall_mem_append.mpr ⟨lw_r5, List.forall_mem_append.mpr ⟨lw_r6, List.forall_mem_append.mpr ⟨lw_r7, lw_r8⟩⟩⟩⟩⟩⟩⟩

theorem tb_goodIn_r {big : List Cond} (ws : List Cond) (ps : List Nat) (hp : ws = ps.filterMap (fun i => big[i]?)) (h : ws.all goodWord = true) : ∀ w ∈ ws, w ∈ big ∧ goodWord w = true := by
  intro w hw
  have h1 := List.all_eq_true.mp h w hw
  rw [hp] at hw
  obtain ⟨i, -, hi⟩ := List.mem_filterMap.mp hw
  exact ⟨List.mem_of_getElem? hi, h1⟩
def RX0 : String := "TannerBunting$Hands"
def TX0 : u_T := fun k => match k with
  | 0 => ("TannerBunting$Hands", "trial", "LTannerBunting$Street;", true)
  | 1 => ("TannerBunting$Hands", "pairs", "[I", true)
  | _ => ("TannerBunting$Hands", "partners", "[I", true)
def tyX0 : Nat → FieldType := fun k => match k with
  | 0 => .object "TannerBunting$Street"
  | 1 => .array .int
  | _ => .array .int
theorem nmX0 : ∀ a, a < 3 → ∀ b, b < 3 → a ≠ b → (TX0 a).2.1 ≠ (TX0 b).2.1 := by decide +kernel
theorem tyX0_ok : ∀ k, k < 3 → parseFieldDescriptor (TX0 k).2.2.1 = some (tyX0 k) := by decide +kernel
theorem tb_uX0 : ∀ w ∈ u_ws RX0 TX0 3, w ∈ lw_tbl ∧ goodWord w = true := tb_goodIn_r _ [396, 398, 400] (by decide +kernel) (by decide +kernel)
def RX1 : String := "TannerBunting$Judge"
def TX1 : u_T := fun k => match k with
  | 0 => ("TannerBunting$Judge", "heap", "[J", true)
  | _ => ("TannerBunting$Judge", "top", "I", false)
def tyX1 : Nat → FieldType := fun k => match k with
  | 0 => .array .long
  | _ => .int
theorem nmX1 : ∀ a, a < 2 → ∀ b, b < 2 → a ≠ b → (TX1 a).2.1 ≠ (TX1 b).2.1 := by decide +kernel
theorem tyX1_ok : ∀ k, k < 2 → parseFieldDescriptor (TX1 k).2.2.1 = some (tyX1 k) := by decide +kernel
theorem tb_uX1 : ∀ w ∈ u_ws RX1 TX1 2, w ∈ lw_tbl ∧ goodWord w = true := tb_goodIn_r _ [379, 381] (by decide +kernel) (by decide +kernel)
def RX2 : String := "TannerBunting$Notes"
def TX2 : u_T := fun k => match k with
  | 0 => ("TannerBunting$Notes", "size", "I", false)
  | 1 => ("TannerBunting$Notes", "when", "[I", true)
  | 2 => ("TannerBunting$Notes", "which", "[I", true)
  | _ => ("TannerBunting$Notes", "stood", "[I", true)
def tyX2 : Nat → FieldType := fun k => match k with
  | 0 => .int
  | 1 => .array .int
  | 2 => .array .int
  | _ => .array .int
theorem nmX2 : ∀ a, a < 4 → ∀ b, b < 4 → a ≠ b → (TX2 a).2.1 ≠ (TX2 b).2.1 := by decide +kernel
theorem tyX2_ok : ∀ k, k < 4 → parseFieldDescriptor (TX2 k).2.2.1 = some (tyX2 k) := by decide +kernel
theorem tb_uX2 : ∀ w ∈ u_ws RX2 TX2 4, w ∈ lw_tbl ∧ goodWord w = true := tb_goodIn_r _ [317, 319, 321, 323] (by decide +kernel) (by decide +kernel)
def RX3 : String := "TannerBunting$Past"
def TX3 : u_T := fun k => match k with
  | 0 => ("TannerBunting$Past", "size", "I", false)
  | 1 => ("TannerBunting$Past", "next", "I", false)
  | _ => ("TannerBunting$Past", "kept", "[LTannerBunting$Street;", true)
def tyX3 : Nat → FieldType := fun k => match k with
  | 0 => .int
  | 1 => .int
  | _ => .array (.object "TannerBunting$Street")
theorem nmX3 : ∀ a, a < 3 → ∀ b, b < 3 → a ≠ b → (TX3 a).2.1 ≠ (TX3 b).2.1 := by decide +kernel
theorem tyX3_ok : ∀ k, k < 3 → parseFieldDescriptor (TX3 k).2.2.1 = some (tyX3 k) := by decide +kernel
theorem tb_uX3 : ∀ w ∈ u_ws RX3 TX3 3, w ∈ lw_tbl ∧ goodWord w = true := tb_goodIn_r _ [364, 366, 368] (by decide +kernel) (by decide +kernel)
def RX4 : String := "TannerBunting$RuleReader"
def TX4 : u_T := fun k => match k with
  | 0 => ("TannerBunting$RuleReader", "text", "LTannerBunting$Text;", true)
  | 1 => ("TannerBunting$RuleReader", "code", "[I", true)
  | 2 => ("TannerBunting$RuleReader", "length", "I", false)
  | _ => ("TannerBunting$RuleReader", "parts", "I", false)
def tyX4 : Nat → FieldType := fun k => match k with
  | 0 => .object "TannerBunting$Text"
  | 1 => .array .int
  | 2 => .int
  | _ => .int
theorem nmX4 : ∀ a, a < 4 → ∀ b, b < 4 → a ≠ b → (TX4 a).2.1 ≠ (TX4 b).2.1 := by decide +kernel
theorem tyX4_ok : ∀ k, k < 4 → parseFieldDescriptor (TX4 k).2.2.1 = some (tyX4 k) := by decide +kernel
theorem tb_uX4 : ∀ w ∈ u_ws RX4 TX4 4, w ∈ lw_tbl ∧ goodWord w = true := tb_goodIn_r _ [286, 288, 290, 292] (by decide +kernel) (by decide +kernel)
def RX5 : String := "TannerBunting$Scene"
def TX5 : u_T := fun k => match k with
  | 0 => ("TannerBunting$Scene", "now", "LTannerBunting$Street;", true)
  | 1 => ("TannerBunting$Scene", "told", "LTannerBunting$Street;", true)
  | 2 => ("TannerBunting$Scene", "notes", "LTannerBunting$Notes;", true)
  | 3 => ("TannerBunting$Scene", "force", "I", false)
  | _ => ("TannerBunting$Scene", "x", "I", false)
def tyX5 : Nat → FieldType := fun k => match k with
  | 0 => .object "TannerBunting$Street"
  | 1 => .object "TannerBunting$Street"
  | 2 => .object "TannerBunting$Notes"
  | 3 => .int
  | _ => .int
theorem nmX5 : ∀ a, a < 5 → ∀ b, b < 5 → a ≠ b → (TX5 a).2.1 ≠ (TX5 b).2.1 := by decide +kernel
theorem tyX5_ok : ∀ k, k < 5 → parseFieldDescriptor (TX5 k).2.2.1 = some (tyX5 k) := by decide +kernel
theorem tb_uX5 : ∀ w ∈ u_ws RX5 TX5 5, w ∈ lw_tbl ∧ goodWord w = true := tb_goodIn_r _ [340, 342, 344, 346, 348] (by decide +kernel) (by decide +kernel)
def RX6 : String := "TannerBunting$Story"
def TX6 : u_T := fun k => match k with
  | 0 => ("TannerBunting$Story", "fitting", "I", false)
  | 1 => ("TannerBunting$Story", "firstFitting", "I", false)
  | 2 => ("TannerBunting$Story", "judge", "LTannerBunting$Judge;", true)
  | 3 => ("TannerBunting$Story", "trial", "LTannerBunting$Street;", true)
  | _ => ("TannerBunting$Story", "standIn", "[I", true)
def tyX6 : Nat → FieldType := fun k => match k with
  | 0 => .int
  | 1 => .int
  | 2 => .object "TannerBunting$Judge"
  | 3 => .object "TannerBunting$Street"
  | _ => .array .int
theorem nmX6 : ∀ a, a < 5 → ∀ b, b < 5 → a ≠ b → (TX6 a).2.1 ≠ (TX6 b).2.1 := by decide +kernel
theorem tyX6_ok : ∀ k, k < 5 → parseFieldDescriptor (TX6 k).2.2.1 = some (tyX6 k) := by decide +kernel
theorem tb_uX6 : ∀ w ∈ u_ws RX6 TX6 5, w ∈ lw_tbl ∧ goodWord w = true := tb_goodIn_r _ [456, 458, 460, 462, 464] (by decide +kernel) (by decide +kernel)
def RX7 : String := "TannerBunting$Street"
def TX7 : u_T := fun k => match k with
  | 0 => ("TannerBunting$Street", "size", "I", false)
  | 1 => ("TannerBunting$Street", "fades", "I", false)
  | 2 => ("TannerBunting$Street", "year", "I", false)
  | 3 => ("TannerBunting$Street", "lines", "I", false)
  | 4 => ("TannerBunting$Street", "up", "I", false)
  | 5 => ("TannerBunting$Street", "standing", "I", false)
  | 6 => ("TannerBunting$Street", "lean", "[I", true)
  | 7 => ("TannerBunting$Street", "foot", "[I", true)
  | 8 => ("TannerBunting$Street", "odd", "[I", true)
  | 9 => ("TannerBunting$Street", "even", "[I", true)
  | 10 => ("TannerBunting$Street", "pull", "[I", true)
  | _ => ("TannerBunting$Street", "hold", "[I", true)
def tyX7 : Nat → FieldType := fun k => match k with
  | 0 => .int
  | 1 => .int
  | 2 => .int
  | 3 => .int
  | 4 => .int
  | 5 => .int
  | 6 => .array .int
  | 7 => .array .int
  | 8 => .array .int
  | 9 => .array .int
  | 10 => .array .int
  | _ => .array .int
theorem nmX7 : ∀ a, a < 12 → ∀ b, b < 12 → a ≠ b → (TX7 a).2.1 ≠ (TX7 b).2.1 := by decide +kernel
theorem tyX7_ok : ∀ k, k < 12 → parseFieldDescriptor (TX7 k).2.2.1 = some (tyX7 k) := by decide +kernel
theorem tb_uX7 : ∀ w ∈ u_ws RX7 TX7 12, w ∈ lw_tbl ∧ goodWord w = true := tb_goodIn_r _ [243, 245, 247, 249, 251, 253, 255, 257, 259, 261, 263, 265] (by decide +kernel) (by decide +kernel)
def RX8 : String := "TannerBunting$StreetReader"
def TX8 : u_T := fun k => match k with
  | 0 => ("TannerBunting$StreetReader", "fresh", "LTannerBunting$Street;", true)
  | _ => ("TannerBunting$StreetReader", "text", "LTannerBunting$Text;", true)
def tyX8 : Nat → FieldType := fun k => match k with
  | 0 => .object "TannerBunting$Street"
  | _ => .object "TannerBunting$Text"
theorem nmX8 : ∀ a, a < 2 → ∀ b, b < 2 → a ≠ b → (TX8 a).2.1 ≠ (TX8 b).2.1 := by decide +kernel
theorem tyX8_ok : ∀ k, k < 2 → parseFieldDescriptor (TX8 k).2.2.1 = some (tyX8 k) := by decide +kernel
theorem tb_uX8 : ∀ w ∈ u_ws RX8 TX8 2, w ∈ lw_tbl ∧ goodWord w = true := tb_goodIn_r _ [271, 273] (by decide +kernel) (by decide +kernel)
def RX9 : String := "TannerBunting$Text"
def TX9 : u_T := fun k => match k with
  | 0 => ("TannerBunting$Text", "length", "I", false)
  | 1 => ("TannerBunting$Text", "kind", "I", false)
  | 2 => ("TannerBunting$Text", "number", "I", false)
  | 3 => ("TannerBunting$Text", "fault", "I", false)
  | 4 => ("TannerBunting$Text", "bytes", "[I", true)
  | 5 => ("TannerBunting$Text", "kinds", "[I", true)
  | 6 => ("TannerBunting$Text", "places", "[I", true)
  | 7 => ("TannerBunting$Text", "numbers", "[I", true)
  | 8 => ("TannerBunting$Text", "tokens", "I", false)
  | _ => ("TannerBunting$Text", "at", "I", false)
def tyX9 : Nat → FieldType := fun k => match k with
  | 0 => .int
  | 1 => .int
  | 2 => .int
  | 3 => .int
  | 4 => .array .int
  | 5 => .array .int
  | 6 => .array .int
  | 7 => .array .int
  | 8 => .int
  | _ => .int
theorem nmX9 : ∀ a, a < 10 → ∀ b, b < 10 → a ≠ b → (TX9 a).2.1 ≠ (TX9 b).2.1 := by decide +kernel
theorem tyX9_ok : ∀ k, k < 10 → parseFieldDescriptor (TX9 k).2.2.1 = some (tyX9 k) := by decide +kernel
theorem tb_uX9 : ∀ w ∈ u_ws RX9 TX9 10, w ∈ lw_tbl ∧ goodWord w = true := tb_goodIn_r _ [174, 176, 178, 180, 182, 184, 186, 188, 190, 192] (by decide +kernel) (by decide +kernel)
def RX10 : String := "TannerBunting$Years"
def TX10 : u_T := fun k => match k with
  | 0 => ("TannerBunting$Years", "trial", "LTannerBunting$Street;", true)
  | 1 => ("TannerBunting$Years", "fallen", "I", false)
  | 2 => ("TannerBunting$Years", "most", "I", false)
  | 3 => ("TannerBunting$Years", "first", "I", false)
  | 4 => ("TannerBunting$Years", "second", "I", false)
  | 5 => ("TannerBunting$Years", "judge", "LTannerBunting$Judge;", true)
  | 6 => ("TannerBunting$Years", "gains", "[I", true)
  | _ => ("TannerBunting$Years", "x", "I", false)
def tyX10 : Nat → FieldType := fun k => match k with
  | 0 => .object "TannerBunting$Street"
  | 1 => .int
  | 2 => .int
  | 3 => .int
  | 4 => .int
  | 5 => .object "TannerBunting$Judge"
  | 6 => .array .int
  | _ => .int
theorem nmX10 : ∀ a, a < 8 → ∀ b, b < 8 → a ≠ b → (TX10 a).2.1 ≠ (TX10 b).2.1 := by decide +kernel
theorem tyX10_ok : ∀ k, k < 8 → parseFieldDescriptor (TX10 k).2.2.1 = some (tyX10 k) := by decide +kernel
theorem tb_uX10 : ∀ w ∈ u_ws RX10 TX10 8, w ∈ lw_tbl ∧ goodWord w = true := tb_goodIn_r _ [424, 426, 428, 430, 432, 434, 436, 438] (by decide +kernel) (by decide +kernel)
def RX11 : String := "TannerBunting"
def TX11 : u_T := fun k => match k with
  | 0 => ("TannerBunting", "text", "LTannerBunting$Text;", true)
  | 1 => ("TannerBunting", "streetReader", "LTannerBunting$StreetReader;", true)
  | 2 => ("TannerBunting", "ruleReader", "LTannerBunting$RuleReader;", true)
  | 3 => ("TannerBunting", "rules", "[[I", true)
  | 4 => ("TannerBunting", "ruleCount", "I", false)
  | 5 => ("TannerBunting", "scene", "LTannerBunting$Scene;", true)
  | 6 => ("TannerBunting", "images", "[LTannerBunting$Scene;", true)
  | 7 => ("TannerBunting", "past", "LTannerBunting$Past;", true)
  | 8 => ("TannerBunting", "judge", "LTannerBunting$Judge;", true)
  | 9 => ("TannerBunting", "hands", "LTannerBunting$Hands;", true)
  | 10 => ("TannerBunting", "years", "LTannerBunting$Years;", true)
  | _ => ("TannerBunting", "story", "LTannerBunting$Story;", true)
def tyX11 : Nat → FieldType := fun k => match k with
  | 0 => .object "TannerBunting$Text"
  | 1 => .object "TannerBunting$StreetReader"
  | 2 => .object "TannerBunting$RuleReader"
  | 3 => .array (.array .int)
  | 4 => .int
  | 5 => .object "TannerBunting$Scene"
  | 6 => .array (.object "TannerBunting$Scene")
  | 7 => .object "TannerBunting$Past"
  | 8 => .object "TannerBunting$Judge"
  | 9 => .object "TannerBunting$Hands"
  | 10 => .object "TannerBunting$Years"
  | _ => .object "TannerBunting$Story"
theorem nmX11 : ∀ a, a < 12 → ∀ b, b < 12 → a ≠ b → (TX11 a).2.1 ≠ (TX11 b).2.1 := by decide +kernel
theorem tyX11_ok : ∀ k, k < 12 → parseFieldDescriptor (TX11 k).2.2.1 = some (tyX11 k) := by decide +kernel
theorem tb_uX11 : ∀ w ∈ u_ws RX11 TX11 12, w ∈ lw_tbl ∧ goodWord w = true := tb_goodIn_r _ [479, 481, 483, 485, 487, 489, 491, 493, 495, 497, 499, 501] (by decide +kernel) (by decide +kernel)
def RX12 : String := "TannerBuntingModel"
def TX12 : u_T := fun k => match k with
  | 0 => ("TannerBuntingModel", "tape", "[B", true)
  | 1 => ("TannerBuntingModel", "taped", "I", false)
  | 2 => ("TannerBuntingModel", "rules", "I", false)
  | 3 => ("TannerBuntingModel", "sign", "[I", true)
  | 4 => ("TannerBuntingModel", "length", "[I", true)
  | 5 => ("TannerBuntingModel", "clause", "[I", true)
  | 6 => ("TannerBuntingModel", "clauses", "[I", true)
  | 7 => ("TannerBuntingModel", "read", "[I", true)
  | 8 => ("TannerBuntingModel", "next", "I", false)
  | 9 => ("TannerBuntingModel", "wrong", "I", false)
  | 10 => ("TannerBuntingModel", "number", "I", false)
  | 11 => ("TannerBuntingModel", "text", "I", false)
  | 12 => ("TannerBuntingModel", "made", "I", false)
  | 13 => ("TannerBuntingModel", "deep", "I", false)
  | 14 => ("TannerBuntingModel", "lines", "I", false)
  | 15 => ("TannerBuntingModel", "open", "[I", true)
  | 16 => ("TannerBuntingModel", "opened", "I", false)
  | 17 => ("TannerBuntingModel", "stack", "[J", true)
  | 18 => ("TannerBuntingModel", "top", "I", false)
  | 19 => ("TannerBuntingModel", "word", "[J", true)
  | 20 => ("TannerBuntingModel", "said", "[I", true)
  | 21 => ("TannerBuntingModel", "force", "I", false)
  | 22 => ("TannerBuntingModel", "x", "I", false)
  | 23 => ("TannerBuntingModel", "wasSaid", "[I", true)
  | 24 => ("TannerBuntingModel", "undone", "I", false)
  | 25 => ("TannerBuntingModel", "kept", "[I", true)
  | 26 => ("TannerBuntingModel", "withNow", "[I", true)
  | 27 => ("TannerBuntingModel", "withBest", "[I", true)
  | 28 => ("TannerBuntingModel", "hasBy", "[I", true)
  | 29 => ("TannerBuntingModel", "isFit", "[Z", true)
  | 30 => ("TannerBuntingModel", "standThen", "[I", true)
  | 31 => ("TannerBuntingModel", "drawX", "J", false)
  | 32 => ("TannerBuntingModel", "images", "[I", true)
  | 33 => ("TannerBuntingModel", "imageForce", "[I", true)
  | 34 => ("TannerBuntingModel", "imageX", "[I", true)
  | _ => ("TannerBuntingModel", "isMade", "[Z", true)
def tyX12 : Nat → FieldType := fun k => match k with
  | 0 => .array .byte
  | 1 => .int
  | 2 => .int
  | 3 => .array .int
  | 4 => .array .int
  | 5 => .array .int
  | 6 => .array .int
  | 7 => .array .int
  | 8 => .int
  | 9 => .int
  | 10 => .int
  | 11 => .int
  | 12 => .int
  | 13 => .int
  | 14 => .int
  | 15 => .array .int
  | 16 => .int
  | 17 => .array .long
  | 18 => .int
  | 19 => .array .long
  | 20 => .array .int
  | 21 => .int
  | 22 => .int
  | 23 => .array .int
  | 24 => .int
  | 25 => .array .int
  | 26 => .array .int
  | 27 => .array .int
  | 28 => .array .int
  | 29 => .array .boolean
  | 30 => .array .int
  | 31 => .long
  | 32 => .array .int
  | 33 => .array .int
  | 34 => .array .int
  | _ => .array .boolean
theorem nmX12 : ∀ a, a < 36 → ∀ b, b < 36 → a ≠ b → (TX12 a).2.1 ≠ (TX12 b).2.1 := by decide +kernel
theorem tyX12_ok : ∀ k, k < 36 → parseFieldDescriptor (TX12 k).2.2.1 = some (tyX12 k) := by decide +kernel
theorem tb_uX12 : ∀ w ∈ u_ws RX12 TX12 36, w ∈ lw_tbl ∧ goodWord w = true := tb_goodIn_r _ [1311, 1313, 1315, 1317, 1319, 1321, 1323, 1325, 1327, 1329, 1331, 1333, 1335, 1337, 1339, 1341, 1343, 1345, 1347, 1349, 1351, 1353, 1355, 1357, 1359, 1361, 1363, 1365, 1367, 1369, 1371, 1373, 1375, 1377, 1379, 1381] (by decide +kernel) (by decide +kernel)
def tb_cl : List vw_C := [(RX0, TX0, 3), (RX1, TX1, 2), (RX2, TX2, 4), (RX3, TX3, 3), (RX4, TX4, 4), (RX5, TX5, 5), (RX6, TX6, 5), (RX7, TX7, 12), (RX8, TX8, 2), (RX9, TX9, 10), (RX10, TX10, 8), (RX11, TX11, 12), (RX12, TX12, 36)]
def tb_Tw : List Cond := lw_tbl.filter goodWord
theorem tb_inTw {w : Cond} (h : w ∈ lw_tbl ∧ goodWord w = true) : w ∈ tb_Tw := List.mem_filter.mpr h
def tb_tyk : Nat → Nat → FieldType := fun k => match k with
  | 0 => tyX0
  | 1 => tyX1
  | 2 => tyX2
  | 3 => tyX3
  | 4 => tyX4
  | 5 => tyX5
  | 6 => tyX6
  | 7 => tyX7
  | 8 => tyX8
  | 9 => tyX9
  | 10 => tyX10
  | 11 => tyX11
  | _ => tyX12
theorem tb_clok : ∀ (k : Nat) (r : vw_C), tb_cl[k]? = some r → (∀ w ∈ u_ws r.1 r.2.1 r.2.2, w ∈ tb_Tw) ∧ (∀ j, j < r.2.2 → parseFieldDescriptor (r.2.1 j).2.2.1 = some (tb_tyk k j)) ∧ (∀ a, a < r.2.2 → ∀ b, b < r.2.2 → a ≠ b → (r.2.1 a).2.1 ≠ (r.2.1 b).2.1) ∧ (∀ j, j < r.2.2 → (r.2.1 j).1 = r.1) := by
  intro k r h
  match k, h with
  | 0, h => cases h; exact ⟨fun w hw => tb_inTw (tb_uX0 w hw), tyX0_ok, nmX0, by decide +kernel⟩
  | 1, h => cases h; exact ⟨fun w hw => tb_inTw (tb_uX1 w hw), tyX1_ok, nmX1, by decide +kernel⟩
  | 2, h => cases h; exact ⟨fun w hw => tb_inTw (tb_uX2 w hw), tyX2_ok, nmX2, by decide +kernel⟩
  | 3, h => cases h; exact ⟨fun w hw => tb_inTw (tb_uX3 w hw), tyX3_ok, nmX3, by decide +kernel⟩
  | 4, h => cases h; exact ⟨fun w hw => tb_inTw (tb_uX4 w hw), tyX4_ok, nmX4, by decide +kernel⟩
  | 5, h => cases h; exact ⟨fun w hw => tb_inTw (tb_uX5 w hw), tyX5_ok, nmX5, by decide +kernel⟩
  | 6, h => cases h; exact ⟨fun w hw => tb_inTw (tb_uX6 w hw), tyX6_ok, nmX6, by decide +kernel⟩
  | 7, h => cases h; exact ⟨fun w hw => tb_inTw (tb_uX7 w hw), tyX7_ok, nmX7, by decide +kernel⟩
  | 8, h => cases h; exact ⟨fun w hw => tb_inTw (tb_uX8 w hw), tyX8_ok, nmX8, by decide +kernel⟩
  | 9, h => cases h; exact ⟨fun w hw => tb_inTw (tb_uX9 w hw), tyX9_ok, nmX9, by decide +kernel⟩
  | 10, h => cases h; exact ⟨fun w hw => tb_inTw (tb_uX10 w hw), tyX10_ok, nmX10, by decide +kernel⟩
  | 11, h => cases h; exact ⟨fun w hw => tb_inTw (tb_uX11 w hw), tyX11_ok, nmX11, by decide +kernel⟩
  | 12, h => cases h; exact ⟨fun w hw => tb_inTw (tb_uX12 w hw), tyX12_ok, nmX12, by decide +kernel⟩
  | k + 13, h => exact absurd h (by simp [tb_cl])
