-- ===== PART A: goes FIRST, ahead of the names: the tables' words, and 'selects' of the private methods out of them =====
/-- a private method of a class that the tables say can be made, by its rows of tables_1 -/
def lw_okq (q : MethodName × Nat) : Prop := (q.1.cls ≠ "java/lang/invoke/MethodHandle" ∧ q.1.cls ≠ "java/lang/invoke/VarHandle") ∧ Cond.instantiable q.1.cls q.2 ∈ tables_1 ∧ Cond.privateMethod q.1 ∈ tables_1 ∧ Cond.instanceMethod q.1 ∈ tables_1
theorem lw_p0 : lw_okq (⟨"PhrasePool$State", "members", "()I"⟩, 5) := ⟨⟨by decide +kernel, by decide +kernel⟩, List.mem_of_getElem? (i := 19) (by decide +kernel), List.mem_of_getElem? (i := 152) (by decide +kernel), List.mem_of_getElem? (i := 153) (by decide +kernel)⟩
theorem lw_p1 : lw_okq (⟨"PhrasePool$State", "at", "(I)I"⟩, 5) := ⟨⟨by decide +kernel, by decide +kernel⟩, List.mem_of_getElem? (i := 19) (by decide +kernel), List.mem_of_getElem? (i := 156) (by decide +kernel), List.mem_of_getElem? (i := 157) (by decide +kernel)⟩
theorem lw_p2 : lw_okq (⟨"PhrasePool$History", "keep", "(LPhrasePool$State;)V"⟩, 3) := ⟨⟨by decide +kernel, by decide +kernel⟩, List.mem_of_getElem? (i := 76) (by decide +kernel), List.mem_of_getElem? (i := 161) (by decide +kernel), List.mem_of_getElem? (i := 162) (by decide +kernel)⟩
theorem lw_p3 : lw_okq (⟨"PhrasePool$State", "copyTo", "([I)V"⟩, 5) := ⟨⟨by decide +kernel, by decide +kernel⟩, List.mem_of_getElem? (i := 19) (by decide +kernel), List.mem_of_getElem? (i := 165) (by decide +kernel), List.mem_of_getElem? (i := 166) (by decide +kernel)⟩
theorem lw_p4 : lw_okq (⟨"PhrasePool$State", "startMember", "()I"⟩, 5) := ⟨⟨by decide +kernel, by decide +kernel⟩, List.mem_of_getElem? (i := 19) (by decide +kernel), List.mem_of_getElem? (i := 172) (by decide +kernel), List.mem_of_getElem? (i := 173) (by decide +kernel)⟩
theorem lw_p5 : lw_okq (⟨"PhrasePool$State", "increase", "(II)V"⟩, 5) := ⟨⟨by decide +kernel, by decide +kernel⟩, List.mem_of_getElem? (i := 19) (by decide +kernel), List.mem_of_getElem? (i := 176) (by decide +kernel), List.mem_of_getElem? (i := 177) (by decide +kernel)⟩
theorem lw_p6 : lw_okq (⟨"PhrasePool$State", "put", "(II)V"⟩, 5) := ⟨⟨by decide +kernel, by decide +kernel⟩, List.mem_of_getElem? (i := 19) (by decide +kernel), List.mem_of_getElem? (i := 180) (by decide +kernel), List.mem_of_getElem? (i := 181) (by decide +kernel)⟩
theorem lw_p7 : lw_okq (⟨"PhrasePool$State", "hasMember", "(I)Z"⟩, 5) := ⟨⟨by decide +kernel, by decide +kernel⟩, List.mem_of_getElem? (i := 19) (by decide +kernel), List.mem_of_getElem? (i := 191) (by decide +kernel), List.mem_of_getElem? (i := 192) (by decide +kernel)⟩
theorem lw_p8 : lw_okq (⟨"PhrasePool$State", "priceOf", "(I)I"⟩, 5) := ⟨⟨by decide +kernel, by decide +kernel⟩, List.mem_of_getElem? (i := 19) (by decide +kernel), List.mem_of_getElem? (i := 198) (by decide +kernel), List.mem_of_getElem? (i := 199) (by decide +kernel)⟩
theorem lw_p9 : lw_okq (⟨"PhrasePool$State", "changePrice", "(II)V"⟩, 5) := ⟨⟨by decide +kernel, by decide +kernel⟩, List.mem_of_getElem? (i := 19) (by decide +kernel), List.mem_of_getElem? (i := 202) (by decide +kernel), List.mem_of_getElem? (i := 203) (by decide +kernel)⟩
theorem lw_p10 : lw_okq (⟨"PhrasePool$State", "settingOf", "(I)I"⟩, 5) := ⟨⟨by decide +kernel, by decide +kernel⟩, List.mem_of_getElem? (i := 19) (by decide +kernel), List.mem_of_getElem? (i := 214) (by decide +kernel), List.mem_of_getElem? (i := 215) (by decide +kernel)⟩
theorem lw_p11 : lw_okq (⟨"PhrasePool$State", "changeSetting", "(II)V"⟩, 5) := ⟨⟨by decide +kernel, by decide +kernel⟩, List.mem_of_getElem? (i := 19) (by decide +kernel), List.mem_of_getElem? (i := 218) (by decide +kernel), List.mem_of_getElem? (i := 219) (by decide +kernel)⟩
theorem lw_p12 : lw_okq (⟨"PhrasePool$State", "countOf", "(I)I"⟩, 5) := ⟨⟨by decide +kernel, by decide +kernel⟩, List.mem_of_getElem? (i := 19) (by decide +kernel), List.mem_of_getElem? (i := 226) (by decide +kernel), List.mem_of_getElem? (i := 227) (by decide +kernel)⟩
theorem lw_p13 : lw_okq (⟨"PhrasePool$State", "phrases", "()I"⟩, 5) := ⟨⟨by decide +kernel, by decide +kernel⟩, List.mem_of_getElem? (i := 19) (by decide +kernel), List.mem_of_getElem? (i := 230) (by decide +kernel), List.mem_of_getElem? (i := 231) (by decide +kernel)⟩
theorem lw_p14 : lw_okq (⟨"PhrasePool$State", "countLive", "()I"⟩, 5) := ⟨⟨by decide +kernel, by decide +kernel⟩, List.mem_of_getElem? (i := 19) (by decide +kernel), List.mem_of_getElem? (i := 234) (by decide +kernel), List.mem_of_getElem? (i := 235) (by decide +kernel)⟩
theorem lw_p15 : lw_okq (⟨"PhrasePool$State", "isLive", "(I)Z"⟩, 5) := ⟨⟨by decide +kernel, by decide +kernel⟩, List.mem_of_getElem? (i := 19) (by decide +kernel), List.mem_of_getElem? (i := 238) (by decide +kernel), List.mem_of_getElem? (i := 239) (by decide +kernel)⟩
def lw_privs_1 : List (MethodName × Nat) := [(⟨"PhrasePool$State", "members", "()I"⟩, 5), (⟨"PhrasePool$State", "at", "(I)I"⟩, 5), (⟨"PhrasePool$History", "keep", "(LPhrasePool$State;)V"⟩, 3), (⟨"PhrasePool$State", "copyTo", "([I)V"⟩, 5), (⟨"PhrasePool$State", "startMember", "()I"⟩, 5), (⟨"PhrasePool$State", "increase", "(II)V"⟩, 5), (⟨"PhrasePool$State", "put", "(II)V"⟩, 5), (⟨"PhrasePool$State", "hasMember", "(I)Z"⟩, 5), (⟨"PhrasePool$State", "priceOf", "(I)I"⟩, 5), (⟨"PhrasePool$State", "changePrice", "(II)V"⟩, 5), (⟨"PhrasePool$State", "settingOf", "(I)I"⟩, 5), (⟨"PhrasePool$State", "changeSetting", "(II)V"⟩, 5), (⟨"PhrasePool$State", "countOf", "(I)I"⟩, 5), (⟨"PhrasePool$State", "phrases", "()I"⟩, 5), (⟨"PhrasePool$State", "countLive", "()I"⟩, 5), (⟨"PhrasePool$State", "isLive", "(I)Z"⟩, 5)]
theorem lw_r1 : ∀ q ∈ lw_privs_1, lw_okq q := List.forall_mem_cons.mpr ⟨lw_p0, List.forall_mem_cons.mpr ⟨lw_p1, List.forall_mem_cons.mpr ⟨lw_p2, List.forall_mem_cons.mpr ⟨lw_p3, List.forall_mem_cons.mpr ⟨lw_p4, List.forall_mem_cons.mpr ⟨lw_p5, List.forall_mem_cons.mpr ⟨lw_p6, List.forall_mem_cons.mpr ⟨lw_p7, List.forall_mem_cons.mpr ⟨lw_p8, List.forall_mem_cons.mpr ⟨lw_p9, List.forall_mem_cons.mpr ⟨lw_p10, List.forall_mem_cons.mpr ⟨lw_p11, List.forall_mem_cons.mpr ⟨lw_p12, List.forall_mem_cons.mpr ⟨lw_p13, List.forall_mem_cons.mpr ⟨lw_p14, List.forall_mem_cons.mpr ⟨lw_p15, fun _ h => absurd h List.not_mem_nil⟩⟩⟩⟩⟩⟩⟩⟩⟩⟩⟩⟩⟩⟩⟩⟩
theorem lw_p16 : lw_okq (⟨"PhrasePool$State", "notes", "()I"⟩, 5) := ⟨⟨by decide +kernel, by decide +kernel⟩, List.mem_of_getElem? (i := 19) (by decide +kernel), List.mem_of_getElem? (i := 245) (by decide +kernel), List.mem_of_getElem? (i := 246) (by decide +kernel)⟩
theorem lw_p17 : lw_okq (⟨"PhrasePool$State", "countPaidBack", "()I"⟩, 5) := ⟨⟨by decide +kernel, by decide +kernel⟩, List.mem_of_getElem? (i := 19) (by decide +kernel), List.mem_of_getElem? (i := 249) (by decide +kernel), List.mem_of_getElem? (i := 250) (by decide +kernel)⟩
theorem lw_p18 : lw_okq (⟨"PhrasePool$State", "isPaidBack", "(I)Z"⟩, 5) := ⟨⟨by decide +kernel, by decide +kernel⟩, List.mem_of_getElem? (i := 19) (by decide +kernel), List.mem_of_getElem? (i := 253) (by decide +kernel), List.mem_of_getElem? (i := 254) (by decide +kernel)⟩
theorem lw_p19 : lw_okq (⟨"PhrasePool$State", "tick", "()I"⟩, 5) := ⟨⟨by decide +kernel, by decide +kernel⟩, List.mem_of_getElem? (i := 19) (by decide +kernel), List.mem_of_getElem? (i := 260) (by decide +kernel), List.mem_of_getElem? (i := 261) (by decide +kernel)⟩
theorem lw_p20 : lw_okq (⟨"PhrasePool$State", "countConflicts", "()I"⟩, 5) := ⟨⟨by decide +kernel, by decide +kernel⟩, List.mem_of_getElem? (i := 19) (by decide +kernel), List.mem_of_getElem? (i := 264) (by decide +kernel), List.mem_of_getElem? (i := 265) (by decide +kernel)⟩
theorem lw_p21 : lw_okq (⟨"PhrasePool$State", "conflictsOf", "(I)I"⟩, 5) := ⟨⟨by decide +kernel, by decide +kernel⟩, List.mem_of_getElem? (i := 19) (by decide +kernel), List.mem_of_getElem? (i := 268) (by decide +kernel), List.mem_of_getElem? (i := 269) (by decide +kernel)⟩
theorem lw_p22 : lw_okq (⟨"PhrasePool$State", "readInto", "(LPhrasePool$Sentence;I)V"⟩, 5) := ⟨⟨by decide +kernel, by decide +kernel⟩, List.mem_of_getElem? (i := 19) (by decide +kernel), List.mem_of_getElem? (i := 272) (by decide +kernel), List.mem_of_getElem? (i := 273) (by decide +kernel)⟩
theorem lw_p23 : lw_okq (⟨"PhrasePool$Sentence", "clear", "()V"⟩, 2) := ⟨⟨by decide +kernel, by decide +kernel⟩, List.mem_of_getElem? (i := 25) (by decide +kernel), List.mem_of_getElem? (i := 276) (by decide +kernel), List.mem_of_getElem? (i := 277) (by decide +kernel)⟩
theorem lw_p24 : lw_okq (⟨"PhrasePool$State", "lengthOf", "(I)I"⟩, 5) := ⟨⟨by decide +kernel, by decide +kernel⟩, List.mem_of_getElem? (i := 19) (by decide +kernel), List.mem_of_getElem? (i := 280) (by decide +kernel), List.mem_of_getElem? (i := 281) (by decide +kernel)⟩
theorem lw_p25 : lw_okq (⟨"PhrasePool$State", "wordOf", "(II)I"⟩, 5) := ⟨⟨by decide +kernel, by decide +kernel⟩, List.mem_of_getElem? (i := 19) (by decide +kernel), List.mem_of_getElem? (i := 284) (by decide +kernel), List.mem_of_getElem? (i := 285) (by decide +kernel)⟩
theorem lw_p26 : lw_okq (⟨"PhrasePool$Sentence", "append", "(I)V"⟩, 2) := ⟨⟨by decide +kernel, by decide +kernel⟩, List.mem_of_getElem? (i := 25) (by decide +kernel), List.mem_of_getElem? (i := 288) (by decide +kernel), List.mem_of_getElem? (i := 289) (by decide +kernel)⟩
theorem lw_p27 : lw_okq (⟨"PhrasePool$State", "isLiveAs", "(ILPhrasePool$Sentence;)Z"⟩, 5) := ⟨⟨by decide +kernel, by decide +kernel⟩, List.mem_of_getElem? (i := 19) (by decide +kernel), List.mem_of_getElem? (i := 292) (by decide +kernel), List.mem_of_getElem? (i := 293) (by decide +kernel)⟩
theorem lw_p28 : lw_okq (⟨"PhrasePool$State", "standsAt", "(ILPhrasePool$Sentence;I)Z"⟩, 5) := ⟨⟨by decide +kernel, by decide +kernel⟩, List.mem_of_getElem? (i := 19) (by decide +kernel), List.mem_of_getElem? (i := 296) (by decide +kernel), List.mem_of_getElem? (i := 297) (by decide +kernel)⟩
theorem lw_p29 : lw_okq (⟨"PhrasePool$Sentence", "wordAt", "(I)I"⟩, 2) := ⟨⟨by decide +kernel, by decide +kernel⟩, List.mem_of_getElem? (i := 25) (by decide +kernel), List.mem_of_getElem? (i := 300) (by decide +kernel), List.mem_of_getElem? (i := 301) (by decide +kernel)⟩
theorem lw_p30 : lw_okq (⟨"PhrasePool$State", "targetOf", "(I)I"⟩, 5) := ⟨⟨by decide +kernel, by decide +kernel⟩, List.mem_of_getElem? (i := 19) (by decide +kernel), List.mem_of_getElem? (i := 305) (by decide +kernel), List.mem_of_getElem? (i := 306) (by decide +kernel)⟩
theorem lw_p31 : lw_okq (⟨"PhrasePool$State", "memberProperty", "(II)I"⟩, 5) := ⟨⟨by decide +kernel, by decide +kernel⟩, List.mem_of_getElem? (i := 19) (by decide +kernel), List.mem_of_getElem? (i := 314) (by decide +kernel), List.mem_of_getElem? (i := 315) (by decide +kernel)⟩
def lw_privs_2 : List (MethodName × Nat) := [(⟨"PhrasePool$State", "notes", "()I"⟩, 5), (⟨"PhrasePool$State", "countPaidBack", "()I"⟩, 5), (⟨"PhrasePool$State", "isPaidBack", "(I)Z"⟩, 5), (⟨"PhrasePool$State", "tick", "()I"⟩, 5), (⟨"PhrasePool$State", "countConflicts", "()I"⟩, 5), (⟨"PhrasePool$State", "conflictsOf", "(I)I"⟩, 5), (⟨"PhrasePool$State", "readInto", "(LPhrasePool$Sentence;I)V"⟩, 5), (⟨"PhrasePool$Sentence", "clear", "()V"⟩, 2), (⟨"PhrasePool$State", "lengthOf", "(I)I"⟩, 5), (⟨"PhrasePool$State", "wordOf", "(II)I"⟩, 5), (⟨"PhrasePool$Sentence", "append", "(I)V"⟩, 2), (⟨"PhrasePool$State", "isLiveAs", "(ILPhrasePool$Sentence;)Z"⟩, 5), (⟨"PhrasePool$State", "standsAt", "(ILPhrasePool$Sentence;I)Z"⟩, 5), (⟨"PhrasePool$Sentence", "wordAt", "(I)I"⟩, 2), (⟨"PhrasePool$State", "targetOf", "(I)I"⟩, 5), (⟨"PhrasePool$State", "memberProperty", "(II)I"⟩, 5)]
theorem lw_r2 : ∀ q ∈ lw_privs_2, lw_okq q := List.forall_mem_cons.mpr ⟨lw_p16, List.forall_mem_cons.mpr ⟨lw_p17, List.forall_mem_cons.mpr ⟨lw_p18, List.forall_mem_cons.mpr ⟨lw_p19, List.forall_mem_cons.mpr ⟨lw_p20, List.forall_mem_cons.mpr ⟨lw_p21, List.forall_mem_cons.mpr ⟨lw_p22, List.forall_mem_cons.mpr ⟨lw_p23, List.forall_mem_cons.mpr ⟨lw_p24, List.forall_mem_cons.mpr ⟨lw_p25, List.forall_mem_cons.mpr ⟨lw_p26, List.forall_mem_cons.mpr ⟨lw_p27, List.forall_mem_cons.mpr ⟨lw_p28, List.forall_mem_cons.mpr ⟨lw_p29, List.forall_mem_cons.mpr ⟨lw_p30, List.forall_mem_cons.mpr ⟨lw_p31, fun _ h => absurd h List.not_mem_nil⟩⟩⟩⟩⟩⟩⟩⟩⟩⟩⟩⟩⟩⟩⟩⟩
theorem lw_p32 : lw_okq (⟨"PhrasePool$State", "countOwned", "(I)I"⟩, 5) := ⟨⟨by decide +kernel, by decide +kernel⟩, List.mem_of_getElem? (i := 19) (by decide +kernel), List.mem_of_getElem? (i := 318) (by decide +kernel), List.mem_of_getElem? (i := 319) (by decide +kernel)⟩
theorem lw_p33 : lw_okq (⟨"PhrasePool$State", "ownerOf", "(I)I"⟩, 5) := ⟨⟨by decide +kernel, by decide +kernel⟩, List.mem_of_getElem? (i := 19) (by decide +kernel), List.mem_of_getElem? (i := 322) (by decide +kernel), List.mem_of_getElem? (i := 323) (by decide +kernel)⟩
theorem lw_p34 : lw_okq (⟨"PhrasePool$State", "countUsesNoted", "(I)I"⟩, 5) := ⟨⟨by decide +kernel, by decide +kernel⟩, List.mem_of_getElem? (i := 19) (by decide +kernel), List.mem_of_getElem? (i := 326) (by decide +kernel), List.mem_of_getElem? (i := 327) (by decide +kernel)⟩
theorem lw_p35 : lw_okq (⟨"PhrasePool$State", "noteProperty", "(II)I"⟩, 5) := ⟨⟨by decide +kernel, by decide +kernel⟩, List.mem_of_getElem? (i := 19) (by decide +kernel), List.mem_of_getElem? (i := 330) (by decide +kernel), List.mem_of_getElem? (i := 331) (by decide +kernel)⟩
theorem lw_p36 : lw_okq (⟨"PhrasePool$State", "sumGot", "(I)I"⟩, 5) := ⟨⟨by decide +kernel, by decide +kernel⟩, List.mem_of_getElem? (i := 19) (by decide +kernel), List.mem_of_getElem? (i := 334) (by decide +kernel), List.mem_of_getElem? (i := 335) (by decide +kernel)⟩
theorem lw_p37 : lw_okq (⟨"PhrasePool$State", "hasPhrase", "(I)Z"⟩, 5) := ⟨⟨by decide +kernel, by decide +kernel⟩, List.mem_of_getElem? (i := 19) (by decide +kernel), List.mem_of_getElem? (i := 343) (by decide +kernel), List.mem_of_getElem? (i := 344) (by decide +kernel)⟩
theorem lw_p38 : lw_okq (⟨"PhrasePool$Text", "isFaulty", "()Z"⟩, 2) := ⟨⟨by decide +kernel, by decide +kernel⟩, List.mem_of_getElem? (i := 94) (by decide +kernel), List.mem_of_getElem? (i := 347) (by decide +kernel), List.mem_of_getElem? (i := 348) (by decide +kernel)⟩
theorem lw_p39 : lw_okq (⟨"PhrasePool$Text", "fault", "()I"⟩, 2) := ⟨⟨by decide +kernel, by decide +kernel⟩, List.mem_of_getElem? (i := 94) (by decide +kernel), List.mem_of_getElem? (i := 351) (by decide +kernel), List.mem_of_getElem? (i := 352) (by decide +kernel)⟩
theorem lw_p40 : lw_okq (⟨"PhrasePool$Text", "readInto", "(LPhrasePool$Sentence;)V"⟩, 2) := ⟨⟨by decide +kernel, by decide +kernel⟩, List.mem_of_getElem? (i := 94) (by decide +kernel), List.mem_of_getElem? (i := 362) (by decide +kernel), List.mem_of_getElem? (i := 363) (by decide +kernel)⟩
theorem lw_p41 : lw_okq (⟨"PhrasePool$State", "startPhrase", "(IIILPhrasePool$Sentence;)I"⟩, 5) := ⟨⟨by decide +kernel, by decide +kernel⟩, List.mem_of_getElem? (i := 19) (by decide +kernel), List.mem_of_getElem? (i := 368) (by decide +kernel), List.mem_of_getElem? (i := 369) (by decide +kernel)⟩
theorem lw_p42 : lw_okq (⟨"PhrasePool$State", "phraseProperty", "(II)I"⟩, 5) := ⟨⟨by decide +kernel, by decide +kernel⟩, List.mem_of_getElem? (i := 19) (by decide +kernel), List.mem_of_getElem? (i := 376) (by decide +kernel), List.mem_of_getElem? (i := 377) (by decide +kernel)⟩
theorem lw_p43 : lw_okq (⟨"PhrasePool", "findMatch", "()I"⟩, 5) := ⟨⟨by decide +kernel, by decide +kernel⟩, List.mem_of_getElem? (i := 11) (by decide +kernel), List.mem_of_getElem? (i := 390) (by decide +kernel), List.mem_of_getElem? (i := 391) (by decide +kernel)⟩
theorem lw_p44 : lw_okq (⟨"PhrasePool$State", "likenessTo", "(LPhrasePool$Sentence;I)I"⟩, 5) := ⟨⟨by decide +kernel, by decide +kernel⟩, List.mem_of_getElem? (i := 19) (by decide +kernel), List.mem_of_getElem? (i := 394) (by decide +kernel), List.mem_of_getElem? (i := 395) (by decide +kernel)⟩
theorem lw_p45 : lw_okq (⟨"PhrasePool$Yardstick", "measure", "(LPhrasePool$Sentence;LPhrasePool$Sentence;)I"⟩, 1) := ⟨⟨by decide +kernel, by decide +kernel⟩, List.mem_of_getElem? (i := 43) (by decide +kernel), List.mem_of_getElem? (i := 398) (by decide +kernel), List.mem_of_getElem? (i := 399) (by decide +kernel)⟩
theorem lw_p46 : lw_okq (⟨"PhrasePool$Yardstick", "distance", "(LPhrasePool$Sentence;LPhrasePool$Sentence;)I"⟩, 1) := ⟨⟨by decide +kernel, by decide +kernel⟩, List.mem_of_getElem? (i := 43) (by decide +kernel), List.mem_of_getElem? (i := 405) (by decide +kernel), List.mem_of_getElem? (i := 406) (by decide +kernel)⟩
theorem lw_p47 : lw_okq (⟨"PhrasePool$State", "usesOf", "(I)I"⟩, 5) := ⟨⟨by decide +kernel, by decide +kernel⟩, List.mem_of_getElem? (i := 19) (by decide +kernel), List.mem_of_getElem? (i := 411) (by decide +kernel), List.mem_of_getElem? (i := 412) (by decide +kernel)⟩
def lw_privs_3 : List (MethodName × Nat) := [(⟨"PhrasePool$State", "countOwned", "(I)I"⟩, 5), (⟨"PhrasePool$State", "ownerOf", "(I)I"⟩, 5), (⟨"PhrasePool$State", "countUsesNoted", "(I)I"⟩, 5), (⟨"PhrasePool$State", "noteProperty", "(II)I"⟩, 5), (⟨"PhrasePool$State", "sumGot", "(I)I"⟩, 5), (⟨"PhrasePool$State", "hasPhrase", "(I)Z"⟩, 5), (⟨"PhrasePool$Text", "isFaulty", "()Z"⟩, 2), (⟨"PhrasePool$Text", "fault", "()I"⟩, 2), (⟨"PhrasePool$Text", "readInto", "(LPhrasePool$Sentence;)V"⟩, 2), (⟨"PhrasePool$State", "startPhrase", "(IIILPhrasePool$Sentence;)I"⟩, 5), (⟨"PhrasePool$State", "phraseProperty", "(II)I"⟩, 5), (⟨"PhrasePool", "findMatch", "()I"⟩, 5), (⟨"PhrasePool$State", "likenessTo", "(LPhrasePool$Sentence;I)I"⟩, 5), (⟨"PhrasePool$Yardstick", "measure", "(LPhrasePool$Sentence;LPhrasePool$Sentence;)I"⟩, 1), (⟨"PhrasePool$Yardstick", "distance", "(LPhrasePool$Sentence;LPhrasePool$Sentence;)I"⟩, 1), (⟨"PhrasePool$State", "usesOf", "(I)I"⟩, 5)]
theorem lw_r3 : ∀ q ∈ lw_privs_3, lw_okq q := List.forall_mem_cons.mpr ⟨lw_p32, List.forall_mem_cons.mpr ⟨lw_p33, List.forall_mem_cons.mpr ⟨lw_p34, List.forall_mem_cons.mpr ⟨lw_p35, List.forall_mem_cons.mpr ⟨lw_p36, List.forall_mem_cons.mpr ⟨lw_p37, List.forall_mem_cons.mpr ⟨lw_p38, List.forall_mem_cons.mpr ⟨lw_p39, List.forall_mem_cons.mpr ⟨lw_p40, List.forall_mem_cons.mpr ⟨lw_p41, List.forall_mem_cons.mpr ⟨lw_p42, List.forall_mem_cons.mpr ⟨lw_p43, List.forall_mem_cons.mpr ⟨lw_p44, List.forall_mem_cons.mpr ⟨lw_p45, List.forall_mem_cons.mpr ⟨lw_p46, List.forall_mem_cons.mpr ⟨lw_p47, fun _ h => absurd h List.not_mem_nil⟩⟩⟩⟩⟩⟩⟩⟩⟩⟩⟩⟩⟩⟩⟩⟩
theorem lw_p48 : lw_okq (⟨"PhrasePool$State", "feeFor", "(III)I"⟩, 5) := ⟨⟨by decide +kernel, by decide +kernel⟩, List.mem_of_getElem? (i := 19) (by decide +kernel), List.mem_of_getElem? (i := 423) (by decide +kernel), List.mem_of_getElem? (i := 424) (by decide +kernel)⟩
theorem lw_p49 : lw_okq (⟨"PhrasePool$State", "startNote", "(III)I"⟩, 5) := ⟨⟨by decide +kernel, by decide +kernel⟩, List.mem_of_getElem? (i := 19) (by decide +kernel), List.mem_of_getElem? (i := 433) (by decide +kernel), List.mem_of_getElem? (i := 434) (by decide +kernel)⟩
theorem lw_p50 : lw_okq (⟨"PhrasePool$State", "splitFee", "(I)V"⟩, 5) := ⟨⟨by decide +kernel, by decide +kernel⟩, List.mem_of_getElem? (i := 19) (by decide +kernel), List.mem_of_getElem? (i := 438) (by decide +kernel), List.mem_of_getElem? (i := 439) (by decide +kernel)⟩
theorem lw_p51 : lw_okq (⟨"PhrasePool$State", "parentOf", "(I)I"⟩, 5) := ⟨⟨by decide +kernel, by decide +kernel⟩, List.mem_of_getElem? (i := 19) (by decide +kernel), List.mem_of_getElem? (i := 443) (by decide +kernel), List.mem_of_getElem? (i := 444) (by decide +kernel)⟩
theorem lw_p52 : lw_okq (⟨"PhrasePool$State", "moveMoney", "(II)V"⟩, 5) := ⟨⟨by decide +kernel, by decide +kernel⟩, List.mem_of_getElem? (i := 19) (by decide +kernel), List.mem_of_getElem? (i := 447) (by decide +kernel), List.mem_of_getElem? (i := 448) (by decide +kernel)⟩
theorem lw_p53 : lw_okq (⟨"PhrasePool$State", "hasNote", "(I)Z"⟩, 5) := ⟨⟨by decide +kernel, by decide +kernel⟩, List.mem_of_getElem? (i := 19) (by decide +kernel), List.mem_of_getElem? (i := 455) (by decide +kernel), List.mem_of_getElem? (i := 456) (by decide +kernel)⟩
theorem lw_p54 : lw_okq (⟨"PhrasePool$State", "markEndings", "(I)V"⟩, 5) := ⟨⟨by decide +kernel, by decide +kernel⟩, List.mem_of_getElem? (i := 19) (by decide +kernel), List.mem_of_getElem? (i := 464) (by decide +kernel), List.mem_of_getElem? (i := 465) (by decide +kernel)⟩
theorem lw_p55 : lw_okq (⟨"PhrasePool$State", "hasMarkedParent", "(I)Z"⟩, 5) := ⟨⟨by decide +kernel, by decide +kernel⟩, List.mem_of_getElem? (i := 19) (by decide +kernel), List.mem_of_getElem? (i := 468) (by decide +kernel), List.mem_of_getElem? (i := 469) (by decide +kernel)⟩
theorem lw_p56 : lw_okq (⟨"PhrasePool$State", "isMarked", "(I)Z"⟩, 5) := ⟨⟨by decide +kernel, by decide +kernel⟩, List.mem_of_getElem? (i := 19) (by decide +kernel), List.mem_of_getElem? (i := 472) (by decide +kernel), List.mem_of_getElem? (i := 473) (by decide +kernel)⟩
theorem lw_p57 : lw_okq (⟨"PhrasePool$State", "likenessOf", "(II)I"⟩, 5) := ⟨⟨by decide +kernel, by decide +kernel⟩, List.mem_of_getElem? (i := 19) (by decide +kernel), List.mem_of_getElem? (i := 476) (by decide +kernel), List.mem_of_getElem? (i := 477) (by decide +kernel)⟩
theorem lw_p58 : lw_okq (⟨"PhrasePool$State", "payBackMarked", "()V"⟩, 5) := ⟨⟨by decide +kernel, by decide +kernel⟩, List.mem_of_getElem? (i := 19) (by decide +kernel), List.mem_of_getElem? (i := 481) (by decide +kernel), List.mem_of_getElem? (i := 482) (by decide +kernel)⟩
theorem lw_p59 : lw_okq (⟨"PhrasePool$State", "isOwed", "(I)Z"⟩, 5) := ⟨⟨by decide +kernel, by decide +kernel⟩, List.mem_of_getElem? (i := 19) (by decide +kernel), List.mem_of_getElem? (i := 485) (by decide +kernel), List.mem_of_getElem? (i := 486) (by decide +kernel)⟩
theorem lw_p60 : lw_okq (⟨"PhrasePool$State", "endMarked", "()I"⟩, 5) := ⟨⟨by decide +kernel, by decide +kernel⟩, List.mem_of_getElem? (i := 19) (by decide +kernel), List.mem_of_getElem? (i := 489) (by decide +kernel), List.mem_of_getElem? (i := 490) (by decide +kernel)⟩
theorem lw_p61 : lw_okq (⟨"PhrasePool$State", "owedForMarked", "()I"⟩, 5) := ⟨⟨by decide +kernel, by decide +kernel⟩, List.mem_of_getElem? (i := 19) (by decide +kernel), List.mem_of_getElem? (i := 497) (by decide +kernel), List.mem_of_getElem? (i := 498) (by decide +kernel)⟩
theorem lw_p62 : lw_okq (⟨"PhrasePool$State", "moveTick", "(I)I"⟩, 5) := ⟨⟨by decide +kernel, by decide +kernel⟩, List.mem_of_getElem? (i := 19) (by decide +kernel), List.mem_of_getElem? (i := 506) (by decide +kernel), List.mem_of_getElem? (i := 507) (by decide +kernel)⟩
theorem lw_p63 : lw_okq (⟨"PhrasePool", "findWays", "(I)V"⟩, 5) := ⟨⟨by decide +kernel, by decide +kernel⟩, List.mem_of_getElem? (i := 11) (by decide +kernel), List.mem_of_getElem? (i := 514) (by decide +kernel), List.mem_of_getElem? (i := 515) (by decide +kernel)⟩
def lw_privs_4 : List (MethodName × Nat) := [(⟨"PhrasePool$State", "feeFor", "(III)I"⟩, 5), (⟨"PhrasePool$State", "startNote", "(III)I"⟩, 5), (⟨"PhrasePool$State", "splitFee", "(I)V"⟩, 5), (⟨"PhrasePool$State", "parentOf", "(I)I"⟩, 5), (⟨"PhrasePool$State", "moveMoney", "(II)V"⟩, 5), (⟨"PhrasePool$State", "hasNote", "(I)Z"⟩, 5), (⟨"PhrasePool$State", "markEndings", "(I)V"⟩, 5), (⟨"PhrasePool$State", "hasMarkedParent", "(I)Z"⟩, 5), (⟨"PhrasePool$State", "isMarked", "(I)Z"⟩, 5), (⟨"PhrasePool$State", "likenessOf", "(II)I"⟩, 5), (⟨"PhrasePool$State", "payBackMarked", "()V"⟩, 5), (⟨"PhrasePool$State", "isOwed", "(I)Z"⟩, 5), (⟨"PhrasePool$State", "endMarked", "()I"⟩, 5), (⟨"PhrasePool$State", "owedForMarked", "()I"⟩, 5), (⟨"PhrasePool$State", "moveTick", "(I)I"⟩, 5), (⟨"PhrasePool", "findWays", "(I)V"⟩, 5)]
theorem lw_r4 : ∀ q ∈ lw_privs_4, lw_okq q := List.forall_mem_cons.mpr ⟨lw_p48, List.forall_mem_cons.mpr ⟨lw_p49, List.forall_mem_cons.mpr ⟨lw_p50, List.forall_mem_cons.mpr ⟨lw_p51, List.forall_mem_cons.mpr ⟨lw_p52, List.forall_mem_cons.mpr ⟨lw_p53, List.forall_mem_cons.mpr ⟨lw_p54, List.forall_mem_cons.mpr ⟨lw_p55, List.forall_mem_cons.mpr ⟨lw_p56, List.forall_mem_cons.mpr ⟨lw_p57, List.forall_mem_cons.mpr ⟨lw_p58, List.forall_mem_cons.mpr ⟨lw_p59, List.forall_mem_cons.mpr ⟨lw_p60, List.forall_mem_cons.mpr ⟨lw_p61, List.forall_mem_cons.mpr ⟨lw_p62, List.forall_mem_cons.mpr ⟨lw_p63, fun _ h => absurd h List.not_mem_nil⟩⟩⟩⟩⟩⟩⟩⟩⟩⟩⟩⟩⟩⟩⟩⟩
theorem lw_p64 : lw_okq (⟨"PhrasePool$Ways", "start", "(I)V"⟩, 5) := ⟨⟨by decide +kernel, by decide +kernel⟩, List.mem_of_getElem? (i := 110) (by decide +kernel), List.mem_of_getElem? (i := 518) (by decide +kernel), List.mem_of_getElem? (i := 519) (by decide +kernel)⟩
theorem lw_p65 : lw_okq (⟨"PhrasePool$Ways", "open", "(I)V"⟩, 5) := ⟨⟨by decide +kernel, by decide +kernel⟩, List.mem_of_getElem? (i := 110) (by decide +kernel), List.mem_of_getElem? (i := 524) (by decide +kernel), List.mem_of_getElem? (i := 525) (by decide +kernel)⟩
theorem lw_p66 : lw_okq (⟨"PhrasePool$Ways", "isPlace", "(I)Z"⟩, 5) := ⟨⟨by decide +kernel, by decide +kernel⟩, List.mem_of_getElem? (i := 110) (by decide +kernel), List.mem_of_getElem? (i := 528) (by decide +kernel), List.mem_of_getElem? (i := 529) (by decide +kernel)⟩
theorem lw_p67 : lw_okq (⟨"PhrasePool$Ways", "offer", "(IIII)V"⟩, 5) := ⟨⟨by decide +kernel, by decide +kernel⟩, List.mem_of_getElem? (i := 110) (by decide +kernel), List.mem_of_getElem? (i := 535) (by decide +kernel), List.mem_of_getElem? (i := 536) (by decide +kernel)⟩
theorem lw_p68 : lw_okq (⟨"PhrasePool$Ways", "bestCost", "()I"⟩, 5) := ⟨⟨by decide +kernel, by decide +kernel⟩, List.mem_of_getElem? (i := 110) (by decide +kernel), List.mem_of_getElem? (i := 539) (by decide +kernel), List.mem_of_getElem? (i := 540) (by decide +kernel)⟩
theorem lw_p69 : lw_okq (⟨"PhrasePool$Ways", "pieceAt", "(I)I"⟩, 5) := ⟨⟨by decide +kernel, by decide +kernel⟩, List.mem_of_getElem? (i := 110) (by decide +kernel), List.mem_of_getElem? (i := 547) (by decide +kernel), List.mem_of_getElem? (i := 548) (by decide +kernel)⟩
theorem lw_p70 : lw_okq (⟨"PhrasePool$History", "restoreInto", "(LPhrasePool$State;)I"⟩, 3) := ⟨⟨by decide +kernel, by decide +kernel⟩, List.mem_of_getElem? (i := 76) (by decide +kernel), List.mem_of_getElem? (i := 560) (by decide +kernel), List.mem_of_getElem? (i := 561) (by decide +kernel)⟩
theorem lw_p71 : lw_okq (⟨"PhrasePool$State", "copyFrom", "([I)V"⟩, 5) := ⟨⟨by decide +kernel, by decide +kernel⟩, List.mem_of_getElem? (i := 19) (by decide +kernel), List.mem_of_getElem? (i := 564) (by decide +kernel), List.mem_of_getElem? (i := 565) (by decide +kernel)⟩
theorem lw_p72 : lw_okq (⟨"PhrasePool", "hashPhrase", "(JI)J"⟩, 5) := ⟨⟨by decide +kernel, by decide +kernel⟩, List.mem_of_getElem? (i := 11) (by decide +kernel), List.mem_of_getElem? (i := 574) (by decide +kernel), List.mem_of_getElem? (i := 575) (by decide +kernel)⟩
theorem lw_p73 : lw_okq (⟨"PhrasePool$Text", "empty", "()I"⟩, 2) := ⟨⟨by decide +kernel, by decide +kernel⟩, List.mem_of_getElem? (i := 94) (by decide +kernel), List.mem_of_getElem? (i := 592) (by decide +kernel), List.mem_of_getElem? (i := 593) (by decide +kernel)⟩
theorem lw_p74 : lw_okq (⟨"PhrasePool$Text", "append", "(I)I"⟩, 2) := ⟨⟨by decide +kernel, by decide +kernel⟩, List.mem_of_getElem? (i := 94) (by decide +kernel), List.mem_of_getElem? (i := 600) (by decide +kernel), List.mem_of_getElem? (i := 601) (by decide +kernel)⟩
def lw_privs_5 : List (MethodName × Nat) := [(⟨"PhrasePool$Ways", "start", "(I)V"⟩, 5), (⟨"PhrasePool$Ways", "open", "(I)V"⟩, 5), (⟨"PhrasePool$Ways", "isPlace", "(I)Z"⟩, 5), (⟨"PhrasePool$Ways", "offer", "(IIII)V"⟩, 5), (⟨"PhrasePool$Ways", "bestCost", "()I"⟩, 5), (⟨"PhrasePool$Ways", "pieceAt", "(I)I"⟩, 5), (⟨"PhrasePool$History", "restoreInto", "(LPhrasePool$State;)I"⟩, 3), (⟨"PhrasePool$State", "copyFrom", "([I)V"⟩, 5), (⟨"PhrasePool", "hashPhrase", "(JI)J"⟩, 5), (⟨"PhrasePool$Text", "empty", "()I"⟩, 2), (⟨"PhrasePool$Text", "append", "(I)I"⟩, 2)]
theorem lw_r5 : ∀ q ∈ lw_privs_5, lw_okq q := List.forall_mem_cons.mpr ⟨lw_p64, List.forall_mem_cons.mpr ⟨lw_p65, List.forall_mem_cons.mpr ⟨lw_p66, List.forall_mem_cons.mpr ⟨lw_p67, List.forall_mem_cons.mpr ⟨lw_p68, List.forall_mem_cons.mpr ⟨lw_p69, List.forall_mem_cons.mpr ⟨lw_p70, List.forall_mem_cons.mpr ⟨lw_p71, List.forall_mem_cons.mpr ⟨lw_p72, List.forall_mem_cons.mpr ⟨lw_p73, List.forall_mem_cons.mpr ⟨lw_p74, fun _ h => absurd h List.not_mem_nil⟩⟩⟩⟩⟩⟩⟩⟩⟩⟩⟩
def lw_privs : List (MethodName × Nat) := lw_privs_1 ++ (lw_privs_2 ++ (lw_privs_3 ++ (lw_privs_4 ++ (lw_privs_5))))
def lw_tbl : List Cond := k2_sels lw_privs ++ tables_1
theorem lw_privs_ok : ∀ q ∈ lw_privs, lw_okq q := by
  show ∀ q ∈ lw_privs_1 ++ (lw_privs_2 ++ (lw_privs_3 ++ (lw_privs_4 ++ (lw_privs_5)))), lw_okq q
  exact List.forall_mem_append.mpr ⟨lw_r1, List.forall_mem_append.mpr ⟨lw_r2, List.forall_mem_append.mpr ⟨lw_r3, List.forall_mem_append.mpr ⟨lw_r4, lw_r5⟩⟩⟩⟩
-- ===== end of PART A; names: by program out of claim/NAMES.whole.lean.txt =====
/-! ===== BEGIN new T[n][m]: the outer array a place, the inner ones among the pooled ===== -/
/-- f, but v at every address of l -/
def vr_up {α : Type} (f : Nat → α) (l : List Nat) (v : α) : Nat → α := fun a => if a ∈ l then v else f a
theorem vr_up_in {α : Type} {f : Nat → α} {l : List Nat} {v : α} {a : Nat} (h : a ∈ l) : vr_up f l v a = v := if_pos h
theorem vr_up_ne {α : Type} {f : Nat → α} {l : List Nat} {v : α} {a : Nat} (h : a ∉ l) : vr_up f l v a = f a := if_neg h
theorem vr_rows {L l : List Nat} {f : Nat → va_E} {e : va_E} (h : ∀ a, a ∈ l → a ∉ L) : va_pl L f ++ l.map (fun a => (a, e)) = va_pl (L ++ l) (vr_up f l e) := by
  unfold va_pl
  rw [List.map_append]
  congr 1
  · apply List.map_congr_left
    intro a ha
    rw [vr_up_ne (fun q => h a q ha)]
  · apply List.map_congr_left
    intro a ha
    rw [vr_up_in ha]
theorem vr_lay {X rows : va_W} {x : Nat × va_E} {pl : va_W} {D : va_G} {cl : List vw_C} {H : Heap} (hP : va_P D cl (((X ++ pl) ++ [x]) ++ rows) H) : va_P D cl ((X ++ [x]) ++ (pl ++ rows)) H := by
  rw [List.append_assoc (X ++ pl)] at hP
  have h := va_P.swap hP
  rw [← List.append_assoc X] at h
  have h2 := va_P.swap h
  rw [List.append_assoc (X ++ [x])] at h2
  exact h2
theorem vr_layD {X rows : va_W} {x : Nat × va_E} {pl : va_W} {A : Nat → Prop} (hD : va_D A (((X ++ pl) ++ [x]) ++ rows)) : va_D A ((X ++ [x]) ++ (pl ++ rows)) := by
  rw [List.append_assoc (X ++ pl)] at hD
  have h := va_D.swap hD
  rw [← List.append_assoc X] at h
  have h2 := va_D.swap h
  rw [List.append_assoc (X ++ [x])] at h2
  exact h2
theorem vr_outer (c : ClassId) (N h0 : Nat) : ∀ i : Nat, Jvm.Free.Multi.outerC c N h0 i = arrV c N (fun j => va_rf (if j < i then some (h0 + 1 + j) else none))
  | 0 => by
    show ({ cls := c, slots := Array.replicate N .null, vm := .none } : Cell) = _
    rw [arrV_new]
    refine congrArg (arrV c N) (funext fun j => ?_)
    simp [va_rf]
  | i + 1 => by
    show (Jvm.Free.Multi.outerC c N h0 i).setSlot i (.ref (h0 + 1 + i)) = _
    rw [vr_outer c N h0 i, arrV_store]
    refine congrArg (arrV c N) (funext fun j => ?_)
    by_cases e : j = i
    · subst e
      simp [updV, va_rf]
    · by_cases h : j < i
      · simp [updV, e, h, Nat.lt_succ_of_lt h]
      · simp [updV, e, h, show ¬ j < i + 1 by omega]
section VGM
variable {p : Program} {l : Launch} {e : Env} {R : Room} {s : State} {m : MethodId} {args : Array Value} {below : List Frame} {meth : Method} {c : Code} {H : Heap} {locs : List Loc} {cells slots : Nat} {Q : State → Prop}
variable {cc : ByteArray} {pc : Nat} {ls : Array Slot} {rest : List Value} {D : va_G} {cl : List vw_C} {A : Nat → Prop} {a : Nat} {tys : List (ClassId × FieldType)} {ws : va_W} {H0 : Heap}
theorem va_mna {X : va_W} {L : List Nat} {f : Nat → va_E} {cc : ByteArray} (hexec : p.tables.exec = Jvm.exec) (hb : c.code = cc) {own : String} {index : Nat} {ty : FieldType} {cy : ClassId} (hown : s.vm.findClass own = some m.cls) (hclink : (Cond.classLink own index ("[" ++ (FieldType.array ty).toString)).before args s = true) (hover : (Cond.arrayOver (.array ty)).before args s = true) (harr : (Cond.arrayClass ty).before args s = true) (hcy : s.vm.findClass (FieldType.array ty).toString = some cy)
    (hK : va_K D cl tys s) (hP : va_P D cl (X ++ va_pl L f) H) (hD : va_D A (X ++ va_pl L f)) (hS : va_S A H0 H locs) (hA : ∀ q, H0.size ≤ q → A q) {n k : Int32} {N' K' : Nat} {z : vp_A} (hn : ¬ n < 0) (hk : ¬ k < 0) (hN : n.toNatClampNeg = N') (hM : k.toNatClampNeg = K')
    (hb1 : N' * 4 ≤ 536870912) (hb2 : K' * componentBytes ty ≤ 536870912) (hb3 : K' ≤ 536870912) (hdf : fits ty (defaultValue ty) = true) (hdd : (defaultValue ty).isDefault = true) (hcells : cells + (1 + N') ≤ R.cells) (hslots : slots + (N' + N' * K') ≤ R.slots) (hz : ∀ c : ClassId, Jvm.Free.Multi.innerC c K' (defaultValue ty) = vp_cell c z) (hdg : decode cc pc = .ok (.multianewarray index 2, 4))
    (kk : ∀ (q : Nat) (r : Nat → Nat) (cA : ClassId) (H1 : Heap), (∀ i j : Nat, i < N' → j < N' → r i = r j → i = j) → (∀ i : Nat, i < N' → r i ∉ L) → va_K D cl (tys ++ [(cA, .array ty)]) s →
      va_P D cl ((X ++ [(q, .inl (cA, N', .inr (.inr (.inr (.inr (fun i => if i < N' then some (r i) else none))))))]) ++ va_pl (L ++ (List.range N').map r) (vr_up f ((List.range N').map r) (.inl (cy, z)))) H1 → va_D A ((X ++ [(q, .inl (cA, N', .inr (.inr (.inr (.inr (fun i => if i < N' then some (r i) else none))))))]) ++ va_pl (L ++ (List.range N').map r) (vr_up f ((List.range N').map r) (.inl (cy, z)))) → va_S A H0 H1 locs →
      W p l e R s m args below meth c H1 locs (cells + 1 + N') (slots + N' + N' * K') Q (F0 m (pc + 4) ls (.ref q :: rest))) : W p l e R s m args below meth c H locs cells slots Q (F0 m pc ls (.int k :: .int n :: rest)) := by
  subst hN
  subst hM
  intro T hT Xs
  obtain ⟨vm₁, cA, comp, -, fA, fC, hO, -, X', step⟩ := Xs.multianewarray2F hexec hown hclink hover harr (g := F0 m pc ls (.int k :: .int n :: rest)) rfl (by rw [hb]; exact hdg) rfl hn hk hb1 hb2 hb3 hdf hdd hcells hslots
  have ec : some cy = some comp := hcy.symm.trans fC
  cases ec
  generalize hF : Jvm.Free.Multi.fill (T.setVm vm₁) cA cy n.toNatClampNeg k.toNatClampNeg (defaultValue ty) n.toNatClampNeg = F at X' step
  have hTh : (T.setVm vm₁).heap = H := hT
  obtain ⟨f1, f2, -, -⟩ := Jvm.Free.Multi.fill_facts (T.setVm vm₁) cA cy n.toNatClampNeg k.toNatClampNeg (defaultValue ty) n.toNatClampNeg
  rw [hF, hTh] at f1 f2
  have hold : ∀ x : Nat, x < H.size → F.heap[x]? = H[x]? := fun x hx => by
    have := Jvm.Free.Multi.fill_old (T.setVm vm₁) cA cy n.toNatClampNeg k.toNatClampNeg (defaultValue ty) (a := x) (by rw [hTh]; exact hx) n.toNatClampNeg
    rw [hF, hTh] at this
    exact this
  have hrow : ∀ j : Nat, j < n.toNatClampNeg → F.heap[H.size + 1 + j]? = some (vp_cell cy z) := fun j hj => by
    have := Jvm.Free.Multi.fill_inner (T.setVm vm₁) cA cy n.toNatClampNeg k.toNatClampNeg (defaultValue ty) n.toNatClampNeg j hj
    rw [hF, hTh, hz] at this
    exact this
  have hout : Jvm.Free.Multi.outerC cA n.toNatClampNeg H.size n.toNatClampNeg = vp_cell cA (n.toNatClampNeg, .inr (.inr (.inr (.inr (fun i => if i < n.toNatClampNeg then some (H.size + 1 + i) else none))))) := by
    rw [vp_cell_q]
    exact vr_outer cA n.toNatClampNeg H.size n.toNatClampNeg
  rw [hout] at f2
  have hlt : ∀ a, a ∈ L → a < H.size := fun a ha => by
    obtain ⟨k9, hk9⟩ := va_pl_get (X := X) (f := f) ha
    exact (hP k9 _ hk9).lt
  have hnl : ∀ i : Nat, i < n.toNatClampNeg → H.size + 1 + i ∉ L := fun i _ h => by
    have := hlt _ h
    omega
  have hnm : ∀ a, a ∈ (List.range n.toNatClampNeg).map (fun i => H.size + 1 + i) → a ∉ L := fun a ha h => by
    obtain ⟨i, -, rfl⟩ := List.mem_map.mp ha
    have := hlt _ h
    omega
  have hP0 : va_P D cl (X ++ va_pl L f) F.heap := hP.kept (fun k9 x hx => hold x.1 ((hP k9 x hx).lt))
  have hP1 : va_P D cl ((X ++ va_pl L f) ++ [(H.size, .inl (cA, n.toNatClampNeg, .inr (.inr (.inr (.inr (fun i => if i < n.toNatClampNeg then some (H.size + 1 + i) else none))))))]) F.heap := hP0.app (fun k9 x hx => by
    have h0 : k9 < 1 := (List.getElem?_eq_some_iff.mp hx).1
    rw [show k9 = 0 by omega] at hx
    cases hx
    exact f2)
  have hP2 : va_P D cl (((X ++ va_pl L f) ++ [(H.size, .inl (cA, n.toNatClampNeg, .inr (.inr (.inr (.inr (fun i => if i < n.toNatClampNeg then some (H.size + 1 + i) else none))))))]) ++ ((List.range n.toNatClampNeg).map (fun i => H.size + 1 + i)).map (fun a => (a, .inl (cy, z)))) F.heap := hP1.app (fun k9 x hx => by
    obtain ⟨a, ha, rfl⟩ := List.mem_map.mp (List.mem_of_getElem? hx)
    obtain ⟨i, hi, rfl⟩ := List.mem_map.mp ha
    exact hrow i (List.mem_range.mp hi))
  have hD2 : va_D A (((X ++ va_pl L f) ++ [(H.size, .inl (cA, n.toNatClampNeg, .inr (.inr (.inr (.inr (fun i => if i < n.toNatClampNeg then some (H.size + 1 + i) else none))))))]) ++ ((List.range n.toNatClampNeg).map (fun i => H.size + 1 + i)).map (fun a => (a, .inl (cy, z)))) := by
    have hD1 := hD.push (e := .inl (cA, n.toNatClampNeg, .inr (.inr (.inr (.inr (fun i => if i < n.toNatClampNeg then some (H.size + 1 + i) else none)))))) hP rfl (hA _ hS.1)
    generalize hW1 : (X ++ va_pl L f) ++ [(H.size, .inl (cA, n.toNatClampNeg, .inr (.inr (.inr (.inr (fun i => if i < n.toNatClampNeg then some (H.size + 1 + i) else none))))))] = W1 at hD1 hP1 ⊢
    have hle : ∀ (k9 : Nat) (x : Nat × va_E), W1[k9]? = some x → x.1 ≤ H.size := fun k9 x hx => by
      rw [← hW1] at hx
      by_cases hl : k9 < (X ++ va_pl L f).length
      · rw [List.getElem?_append_left hl] at hx
        exact Nat.le_of_lt ((hP k9 x hx).lt)
      · rw [List.getElem?_append_right (by omega)] at hx
        have h0 : k9 - (X ++ va_pl L f).length < 1 := (List.getElem?_eq_some_iff.mp hx).1
        rw [show k9 - (X ++ va_pl L f).length = 0 by omega] at hx
        cases hx
        exact Nat.le_refl _
    have hr : ∀ (k9 : Nat) (x : Nat × va_E), (((List.range n.toNatClampNeg).map (fun i => H.size + 1 + i)).map (fun a => ((a, .inl (cy, z)) : Nat × va_E)))[k9]? = some x → x.1 = H.size + 1 + k9 := fun k9 x hx => by
      rw [List.getElem?_map, List.getElem?_map] at hx
      by_cases h9 : k9 < n.toNatClampNeg
      · rw [List.getElem?_range h9] at hx
        cases hx
        rfl
      · have hn0 : (List.range n.toNatClampNeg)[k9]? = none := List.getElem?_eq_none (by rw [List.length_range]; omega)
        rw [hn0] at hx
        cases hx
    refine ⟨fun i j x y hi hj hxy => ?_, fun k9 x hx => ?_⟩
    · by_cases h1 : i < W1.length <;> by_cases h2 : j < W1.length
      · rw [List.getElem?_append_left h1] at hi
        rw [List.getElem?_append_left h2] at hj
        exact hD1.1 i j x y hi hj hxy
      · rw [List.getElem?_append_left h1] at hi
        rw [List.getElem?_append_right (by omega)] at hj
        have := hle _ _ hi
        have := hr _ _ hj
        omega
      · rw [List.getElem?_append_right (by omega)] at hi
        rw [List.getElem?_append_left h2] at hj
        have := hle _ _ hj
        have := hr _ _ hi
        omega
      · rw [List.getElem?_append_right (by omega)] at hi hj
        have := hr _ _ hi
        have := hr _ _ hj
        omega
    · by_cases h1 : k9 < W1.length
      · rw [List.getElem?_append_left h1] at hx
        exact hD1.2 k9 x hx
      · rw [List.getElem?_append_right (by omega)] at hx
        have := hr _ _ hx
        exact hA _ (by have := hS.1; omega)
  have hAr : ArrOfT s cA (.array ty) := fun N9 z9 => by
    obtain ⟨-, k9, hk9, cm9, hkk9⟩ := (hO 0 0 0).1
    exact ⟨(fun q hq => by cases hq), k9, hk9, cm9, hkk9⟩
  have hK2 : va_K D cl (tys ++ [(cA, .array ty)]) s := ⟨hK.1, fun k9 x hx => by
    by_cases hl : k9 < tys.length
    · rw [List.getElem?_append_left hl] at hx
      exact hK.2 k9 x hx
    · rw [List.getElem?_append_right (by omega)] at hx
      have h0 : k9 - tys.length < 1 := (List.getElem?_eq_some_iff.mp hx).1
      rw [show k9 - tys.length = 0 by omega] at hx
      cases hx
      exact ⟨hAr, fA⟩⟩
  obtain ⟨t, a1, b1⟩ := kk H.size (fun i => H.size + 1 + i) cA F.heap (fun i j _ _ h => by have h9 : H.size + 1 + i = H.size + 1 + j := h; omega) hnl hK2 (by rw [← vr_rows hnm]; exact vr_lay hP2) (by rw [← vr_rows hnm]; exact vr_layD hD2) ⟨by rw [f1]; have := hS.1; omega, fun x h1 h2 => (hold x (Nat.lt_of_lt_of_le h1 hS.1)).trans (hS.2.1 x h1 h2), hS.2.2⟩ F rfl X'
  refine ⟨t, step t ?_, b1⟩
  have e : T.heap.size = H.size := by rw [hT]
  rw [e]
  exact a1
end VGM
def RX0 : String := "PhrasePool$History"
def TX0 : u_T := fun k => match k with
  | 0 => ("PhrasePool$History", "rows", "[[I", true)
  | 1 => ("PhrasePool$History", "next", "I", false)
  | _ => ("PhrasePool$History", "size", "I", false)
def tyX0 : Nat → FieldType := fun k => match k with
  | 0 => .array (.array .int)
  | 1 => .int
  | _ => .int
abbrev wsX00 : List Cond := u_ws RX0 TX0 3
theorem nmX0 : ∀ a, a < 3 → ∀ b, b < 3 → a ≠ b → (TX0 a).2.1 ≠ (TX0 b).2.1 := by decide +kernel
theorem tyX0_ok : ∀ k, k < 3 → parseFieldDescriptor (TX0 k).2.2.1 = some (tyX0 k) := by decide +kernel
abbrev cX0_init : ByteArray := prog_2_method_1_code
def yX0_init : MethodName := ⟨RX0, "<init>", "()V"⟩
abbrev cX0_keep : ByteArray := prog_2_method_2_code
def yX0_keep : MethodName := ⟨RX0, "keep", "(LPhrasePool$State;)V"⟩
abbrev cX0_restoreInto : ByteArray := prog_2_method_3_code
def yX0_restoreInto : MethodName := ⟨RX0, "restoreInto", "(LPhrasePool$State;)I"⟩
def RX1 : String := "PhrasePool$Sentence"
def TX1 : u_T := fun k => match k with
  | 0 => ("PhrasePool$Sentence", "words", "[I", true)
  | _ => ("PhrasePool$Sentence", "length", "I", false)
def tyX1 : Nat → FieldType := fun k => match k with
  | 0 => .array .int
  | _ => .int
abbrev wsX10 : List Cond := u_ws RX1 TX1 2
theorem nmX1 : ∀ a, a < 2 → ∀ b, b < 2 → a ≠ b → (TX1 a).2.1 ≠ (TX1 b).2.1 := by decide +kernel
theorem tyX1_ok : ∀ k, k < 2 → parseFieldDescriptor (TX1 k).2.2.1 = some (tyX1 k) := by decide +kernel
abbrev cX1_init : ByteArray := prog_3_method_1_code
def yX1_init : MethodName := ⟨RX1, "<init>", "()V"⟩
abbrev cX1_clear : ByteArray := prog_3_method_2_code
def yX1_clear : MethodName := ⟨RX1, "clear", "()V"⟩
abbrev cX1_append : ByteArray := prog_3_method_3_code
def yX1_append : MethodName := ⟨RX1, "append", "(I)V"⟩
abbrev cX1_wordAt : ByteArray := prog_3_method_4_code
def yX1_wordAt : MethodName := ⟨RX1, "wordAt", "(I)I"⟩
def RX2 : String := "PhrasePool$State"
def TX2 : u_T := fun k => match k with
  | 0 => ("PhrasePool$State", "cells", "[I", true)
  | 1 => ("PhrasePool$State", "marked", "[Z", true)
  | 2 => ("PhrasePool$State", "one", "LPhrasePool$Sentence;", true)
  | 3 => ("PhrasePool$State", "other", "LPhrasePool$Sentence;", true)
  | _ => ("PhrasePool$State", "yardstick", "LPhrasePool$Yardstick;", true)
def tyX2 : Nat → FieldType := fun k => match k with
  | 0 => .array .int
  | 1 => .array .boolean
  | 2 => .object "PhrasePool$Sentence"
  | 3 => .object "PhrasePool$Sentence"
  | _ => .object "PhrasePool$Yardstick"
abbrev wsX20 : List Cond := u_ws RX2 TX2 5
theorem nmX2 : ∀ a, a < 5 → ∀ b, b < 5 → a ≠ b → (TX2 a).2.1 ≠ (TX2 b).2.1 := by decide +kernel
theorem tyX2_ok : ∀ k, k < 5 → parseFieldDescriptor (TX2 k).2.2.1 = some (tyX2 k) := by decide +kernel
abbrev cX2_init : ByteArray := prog_4_method_1_code
def yX2_init : MethodName := ⟨RX2, "<init>", "()V"⟩
abbrev cX2_copyTo : ByteArray := prog_4_method_2_code
def yX2_copyTo : MethodName := ⟨RX2, "copyTo", "([I)V"⟩
abbrev cX2_copyFrom : ByteArray := prog_4_method_3_code
def yX2_copyFrom : MethodName := ⟨RX2, "copyFrom", "([I)V"⟩
abbrev cX2_memberCell : ByteArray := prog_4_method_4_code
def yX2_memberCell : MethodName := ⟨RX2, "memberCell", "(II)I"⟩
abbrev cX2_phraseCell : ByteArray := prog_4_method_5_code
def yX2_phraseCell : MethodName := ⟨RX2, "phraseCell", "(II)I"⟩
abbrev cX2_noteCell : ByteArray := prog_4_method_6_code
def yX2_noteCell : MethodName := ⟨RX2, "noteCell", "(II)I"⟩
abbrev cX2_at : ByteArray := prog_4_method_7_code
def yX2_at : MethodName := ⟨RX2, "at", "(I)I"⟩
abbrev cX2_put : ByteArray := prog_4_method_8_code
def yX2_put : MethodName := ⟨RX2, "put", "(II)V"⟩
abbrev cX2_increase : ByteArray := prog_4_method_9_code
def yX2_increase : MethodName := ⟨RX2, "increase", "(II)V"⟩
abbrev cX2_members : ByteArray := prog_4_method_10_code
def yX2_members : MethodName := ⟨RX2, "members", "()I"⟩
abbrev cX2_phrases : ByteArray := prog_4_method_11_code
def yX2_phrases : MethodName := ⟨RX2, "phrases", "()I"⟩
abbrev cX2_notes : ByteArray := prog_4_method_12_code
def yX2_notes : MethodName := ⟨RX2, "notes", "()I"⟩
abbrev cX2_tick : ByteArray := prog_4_method_13_code
def yX2_tick : MethodName := ⟨RX2, "tick", "()I"⟩
abbrev cX2_hasMember : ByteArray := prog_4_method_14_code
def yX2_hasMember : MethodName := ⟨RX2, "hasMember", "(I)Z"⟩
abbrev cX2_hasPhrase : ByteArray := prog_4_method_15_code
def yX2_hasPhrase : MethodName := ⟨RX2, "hasPhrase", "(I)Z"⟩
abbrev cX2_hasNote : ByteArray := prog_4_method_16_code
def yX2_hasNote : MethodName := ⟨RX2, "hasNote", "(I)Z"⟩
abbrev cX2_settingOf : ByteArray := prog_4_method_17_code
def yX2_settingOf : MethodName := ⟨RX2, "settingOf", "(I)I"⟩
abbrev cX2_changeSetting : ByteArray := prog_4_method_18_code
def yX2_changeSetting : MethodName := ⟨RX2, "changeSetting", "(II)V"⟩
abbrev cX2_moveTick : ByteArray := prog_4_method_19_code
def yX2_moveTick : MethodName := ⟨RX2, "moveTick", "(I)I"⟩
abbrev cX2_startMember : ByteArray := prog_4_method_20_code
def yX2_startMember : MethodName := ⟨RX2, "startMember", "()I"⟩
abbrev cX2_priceOf : ByteArray := prog_4_method_21_code
def yX2_priceOf : MethodName := ⟨RX2, "priceOf", "(I)I"⟩
abbrev cX2_changePrice : ByteArray := prog_4_method_22_code
def yX2_changePrice : MethodName := ⟨RX2, "changePrice", "(II)V"⟩
abbrev cX2_memberProperty : ByteArray := prog_4_method_23_code
def yX2_memberProperty : MethodName := ⟨RX2, "memberProperty", "(II)I"⟩
abbrev cX2_countOwned : ByteArray := prog_4_method_24_code
def yX2_countOwned : MethodName := ⟨RX2, "countOwned", "(I)I"⟩
abbrev cX2_countUsesNoted : ByteArray := prog_4_method_25_code
def yX2_countUsesNoted : MethodName := ⟨RX2, "countUsesNoted", "(I)I"⟩
abbrev cX2_sumGot : ByteArray := prog_4_method_26_code
def yX2_sumGot : MethodName := ⟨RX2, "sumGot", "(I)I"⟩
abbrev cX2_countOf : ByteArray := prog_4_method_27_code
def yX2_countOf : MethodName := ⟨RX2, "countOf", "(I)I"⟩
abbrev cX2_countLive : ByteArray := prog_4_method_28_code
def yX2_countLive : MethodName := ⟨RX2, "countLive", "()I"⟩
abbrev cX2_countPaidBack : ByteArray := prog_4_method_29_code
def yX2_countPaidBack : MethodName := ⟨RX2, "countPaidBack", "()I"⟩
abbrev cX2_countConflicts : ByteArray := prog_4_method_30_code
def yX2_countConflicts : MethodName := ⟨RX2, "countConflicts", "()I"⟩
abbrev cX2_startPhrase : ByteArray := prog_4_method_31_code
def yX2_startPhrase : MethodName := ⟨RX2, "startPhrase", "(IIILPhrasePool$Sentence;)I"⟩
abbrev cX2_phraseProperty : ByteArray := prog_4_method_32_code
def yX2_phraseProperty : MethodName := ⟨RX2, "phraseProperty", "(II)I"⟩
abbrev cX2_ownerOf : ByteArray := prog_4_method_33_code
def yX2_ownerOf : MethodName := ⟨RX2, "ownerOf", "(I)I"⟩
abbrev cX2_lengthOf : ByteArray := prog_4_method_34_code
def yX2_lengthOf : MethodName := ⟨RX2, "lengthOf", "(I)I"⟩
abbrev cX2_targetOf : ByteArray := prog_4_method_35_code
def yX2_targetOf : MethodName := ⟨RX2, "targetOf", "(I)I"⟩
abbrev cX2_parentOf : ByteArray := prog_4_method_36_code
def yX2_parentOf : MethodName := ⟨RX2, "parentOf", "(I)I"⟩
abbrev cX2_isLive : ByteArray := prog_4_method_37_code
def yX2_isLive : MethodName := ⟨RX2, "isLive", "(I)Z"⟩
abbrev cX2_usesOf : ByteArray := prog_4_method_38_code
def yX2_usesOf : MethodName := ⟨RX2, "usesOf", "(I)I"⟩
abbrev cX2_wordOf : ByteArray := prog_4_method_39_code
def yX2_wordOf : MethodName := ⟨RX2, "wordOf", "(II)I"⟩
abbrev cX2_readInto : ByteArray := prog_4_method_40_code
def yX2_readInto : MethodName := ⟨RX2, "readInto", "(LPhrasePool$Sentence;I)V"⟩
abbrev cX2_likenessOf : ByteArray := prog_4_method_41_code
def yX2_likenessOf : MethodName := ⟨RX2, "likenessOf", "(II)I"⟩
abbrev cX2_likenessTo : ByteArray := prog_4_method_42_code
def yX2_likenessTo : MethodName := ⟨RX2, "likenessTo", "(LPhrasePool$Sentence;I)I"⟩
abbrev cX2_conflictsOf : ByteArray := prog_4_method_43_code
def yX2_conflictsOf : MethodName := ⟨RX2, "conflictsOf", "(I)I"⟩
abbrev cX2_standsAt : ByteArray := prog_4_method_44_code
def yX2_standsAt : MethodName := ⟨RX2, "standsAt", "(ILPhrasePool$Sentence;I)Z"⟩
abbrev cX2_isLiveAs : ByteArray := prog_4_method_45_code
def yX2_isLiveAs : MethodName := ⟨RX2, "isLiveAs", "(ILPhrasePool$Sentence;)Z"⟩
abbrev cX2_feeFor : ByteArray := prog_4_method_48_code
def yX2_feeFor : MethodName := ⟨RX2, "feeFor", "(III)I"⟩
abbrev cX2_noteProperty : ByteArray := prog_4_method_49_code
def yX2_noteProperty : MethodName := ⟨RX2, "noteProperty", "(II)I"⟩
abbrev cX2_isPaidBack : ByteArray := prog_4_method_50_code
def yX2_isPaidBack : MethodName := ⟨RX2, "isPaidBack", "(I)Z"⟩
abbrev cX2_startNote : ByteArray := prog_4_method_51_code
def yX2_startNote : MethodName := ⟨RX2, "startNote", "(III)I"⟩
abbrev cX2_splitFee : ByteArray := prog_4_method_52_code
def yX2_splitFee : MethodName := ⟨RX2, "splitFee", "(I)V"⟩
abbrev cX2_moveMoney : ByteArray := prog_4_method_53_code
def yX2_moveMoney : MethodName := ⟨RX2, "moveMoney", "(II)V"⟩
abbrev cX2_markEndings : ByteArray := prog_4_method_54_code
def yX2_markEndings : MethodName := ⟨RX2, "markEndings", "(I)V"⟩
abbrev cX2_isMarked : ByteArray := prog_4_method_55_code
def yX2_isMarked : MethodName := ⟨RX2, "isMarked", "(I)Z"⟩
abbrev cX2_hasMarkedParent : ByteArray := prog_4_method_56_code
def yX2_hasMarkedParent : MethodName := ⟨RX2, "hasMarkedParent", "(I)Z"⟩
abbrev cX2_endMarked : ByteArray := prog_4_method_57_code
def yX2_endMarked : MethodName := ⟨RX2, "endMarked", "()I"⟩
abbrev cX2_isOwed : ByteArray := prog_4_method_58_code
def yX2_isOwed : MethodName := ⟨RX2, "isOwed", "(I)Z"⟩
abbrev cX2_owedForMarked : ByteArray := prog_4_method_59_code
def yX2_owedForMarked : MethodName := ⟨RX2, "owedForMarked", "()I"⟩
abbrev cX2_payBackMarked : ByteArray := prog_4_method_60_code
def yX2_payBackMarked : MethodName := ⟨RX2, "payBackMarked", "()V"⟩
def RX3 : String := "PhrasePool$Text"
def TX3 : u_T := fun k => match k with
  | 0 => ("PhrasePool$Text", "bytes", "[I", true)
  | _ => ("PhrasePool$Text", "length", "I", false)
def tyX3 : Nat → FieldType := fun k => match k with
  | 0 => .array .int
  | _ => .int
abbrev wsX30 : List Cond := u_ws RX3 TX3 2
theorem nmX3 : ∀ a, a < 2 → ∀ b, b < 2 → a ≠ b → (TX3 a).2.1 ≠ (TX3 b).2.1 := by decide +kernel
theorem tyX3_ok : ∀ k, k < 2 → parseFieldDescriptor (TX3 k).2.2.1 = some (tyX3 k) := by decide +kernel
abbrev cX3_init : ByteArray := prog_5_method_1_code
def yX3_init : MethodName := ⟨RX3, "<init>", "()V"⟩
abbrev cX3_isLetter : ByteArray := prog_5_method_2_code
def yX3_isLetter : MethodName := ⟨RX3, "isLetter", "(I)Z"⟩
abbrev cX3_append : ByteArray := prog_5_method_3_code
def yX3_append : MethodName := ⟨RX3, "append", "(I)I"⟩
abbrev cX3_empty : ByteArray := prog_5_method_4_code
def yX3_empty : MethodName := ⟨RX3, "empty", "()I"⟩
abbrev cX3_fault : ByteArray := prog_5_method_5_code
def yX3_fault : MethodName := ⟨RX3, "fault", "()I"⟩
abbrev cX3_isFaulty : ByteArray := prog_5_method_6_code
def yX3_isFaulty : MethodName := ⟨RX3, "isFaulty", "()Z"⟩
abbrev cX3_readInto : ByteArray := prog_5_method_7_code
def yX3_readInto : MethodName := ⟨RX3, "readInto", "(LPhrasePool$Sentence;)V"⟩
def RX4 : String := "PhrasePool$Ways"
def TX4 : u_T := fun k => match k with
  | 0 => ("PhrasePool$Ways", "costs", "[I", true)
  | 1 => ("PhrasePool$Ways", "lengths", "[I", true)
  | 2 => ("PhrasePool$Ways", "firsts", "[I", true)
  | 3 => ("PhrasePool$Ways", "nexts", "[I", true)
  | _ => ("PhrasePool$Ways", "end", "I", false)
def tyX4 : Nat → FieldType := fun k => match k with
  | 0 => .array .int
  | 1 => .array .int
  | 2 => .array .int
  | 3 => .array .int
  | _ => .int
abbrev wsX40 : List Cond := u_ws RX4 TX4 5
theorem nmX4 : ∀ a, a < 5 → ∀ b, b < 5 → a ≠ b → (TX4 a).2.1 ≠ (TX4 b).2.1 := by decide +kernel
theorem tyX4_ok : ∀ k, k < 5 → parseFieldDescriptor (TX4 k).2.2.1 = some (tyX4 k) := by decide +kernel
abbrev cX4_init : ByteArray := prog_6_method_1_code
def yX4_init : MethodName := ⟨RX4, "<init>", "()V"⟩
abbrev cX4_start : ByteArray := prog_6_method_2_code
def yX4_start : MethodName := ⟨RX4, "start", "(I)V"⟩
abbrev cX4_isPlace : ByteArray := prog_6_method_3_code
def yX4_isPlace : MethodName := ⟨RX4, "isPlace", "(I)Z"⟩
abbrev cX4_open : ByteArray := prog_6_method_4_code
def yX4_open : MethodName := ⟨RX4, "open", "(I)V"⟩
abbrev cX4_offer : ByteArray := prog_6_method_5_code
def yX4_offer : MethodName := ⟨RX4, "offer", "(IIII)V"⟩
abbrev cX4_bestCost : ByteArray := prog_6_method_6_code
def yX4_bestCost : MethodName := ⟨RX4, "bestCost", "()I"⟩
abbrev cX4_pieceAt : ByteArray := prog_6_method_7_code
def yX4_pieceAt : MethodName := ⟨RX4, "pieceAt", "(I)I"⟩
def RX5 : String := "PhrasePool$Yardstick"
def TX5 : u_T := fun k => match k with
  | _ => ("PhrasePool$Yardstick", "steps", "[[I", true)
def tyX5 : Nat → FieldType := fun k => match k with
  | _ => .array (.array .int)
abbrev wsX50 : List Cond := u_ws RX5 TX5 1
theorem nmX5 : ∀ a, a < 1 → ∀ b, b < 1 → a ≠ b → (TX5 a).2.1 ≠ (TX5 b).2.1 := by decide +kernel
theorem tyX5_ok : ∀ k, k < 1 → parseFieldDescriptor (TX5 k).2.2.1 = some (tyX5 k) := by decide +kernel
abbrev cX5_init : ByteArray := prog_7_method_1_code
def yX5_init : MethodName := ⟨RX5, "<init>", "()V"⟩
abbrev cX5_measure : ByteArray := prog_7_method_2_code
def yX5_measure : MethodName := ⟨RX5, "measure", "(LPhrasePool$Sentence;LPhrasePool$Sentence;)I"⟩
abbrev cX5_distance : ByteArray := prog_7_method_3_code
def yX5_distance : MethodName := ⟨RX5, "distance", "(LPhrasePool$Sentence;LPhrasePool$Sentence;)I"⟩
def RX6 : String := "PhrasePool"
def TX6 : u_T := fun k => match k with
  | 0 => ("PhrasePool", "state", "LPhrasePool$State;", true)
  | 1 => ("PhrasePool", "history", "LPhrasePool$History;", true)
  | 2 => ("PhrasePool", "text", "LPhrasePool$Text;", true)
  | 3 => ("PhrasePool", "typed", "LPhrasePool$Sentence;", true)
  | _ => ("PhrasePool", "ways", "LPhrasePool$Ways;", true)
def tyX6 : Nat → FieldType := fun k => match k with
  | 0 => .object "PhrasePool$State"
  | 1 => .object "PhrasePool$History"
  | 2 => .object "PhrasePool$Text"
  | 3 => .object "PhrasePool$Sentence"
  | _ => .object "PhrasePool$Ways"
abbrev wsX60 : List Cond := u_ws RX6 TX6 5
theorem nmX6 : ∀ a, a < 5 → ∀ b, b < 5 → a ≠ b → (TX6 a).2.1 ≠ (TX6 b).2.1 := by decide +kernel
theorem tyX6_ok : ∀ k, k < 5 → parseFieldDescriptor (TX6 k).2.2.1 = some (tyX6 k) := by decide +kernel
abbrev cX6_init : ByteArray := prog_1_method_1_code
def yX6_init : MethodName := ⟨RX6, "<init>", "()V"⟩
abbrev cX6_addMember : ByteArray := prog_1_method_2_code
def yX6_addMember : MethodName := ⟨RX6, "addMember", "()I"⟩
abbrev cX6_setPrice : ByteArray := prog_1_method_3_code
def yX6_setPrice : MethodName := ⟨RX6, "setPrice", "(II)I"⟩
abbrev cX6_set : ByteArray := prog_1_method_4_code
def yX6_set : MethodName := ⟨RX6, "set", "(II)I"⟩
abbrev cX6_count : ByteArray := prog_1_method_5_code
def yX6_count : MethodName := ⟨RX6, "count", "(I)I"⟩
abbrev cX6_member : ByteArray := prog_1_method_6_code
def yX6_member : MethodName := ⟨RX6, "member", "(II)I"⟩
abbrev cX6_addPhrase : ByteArray := prog_1_method_7_code
def yX6_addPhrase : MethodName := ⟨RX6, "addPhrase", "(III)I"⟩
abbrev cX6_phrase : ByteArray := prog_1_method_8_code
def yX6_phrase : MethodName := ⟨RX6, "phrase", "(II)I"⟩
abbrev cX6_word : ByteArray := prog_1_method_9_code
def yX6_word : MethodName := ⟨RX6, "word", "(II)I"⟩
abbrev cX6_score : ByteArray := prog_1_method_10_code
def yX6_score : MethodName := ⟨RX6, "score", "(II)I"⟩
abbrev cX6_match : ByteArray := prog_1_method_12_code
def yX6_match : MethodName := ⟨RX6, "match", "()I"⟩
abbrev cX6_alike : ByteArray := prog_1_method_13_code
def yX6_alike : MethodName := ⟨RX6, "alike", "(I)I"⟩
abbrev cX6_fee : ByteArray := prog_1_method_14_code
def yX6_fee : MethodName := ⟨RX6, "fee", "(I)I"⟩
abbrev cX6_use : ByteArray := prog_1_method_15_code
def yX6_use : MethodName := ⟨RX6, "use", "(I)I"⟩
abbrev cX6_note : ByteArray := prog_1_method_16_code
def yX6_note : MethodName := ⟨RX6, "note", "(II)I"⟩
abbrev cX6_retract : ByteArray := prog_1_method_17_code
def yX6_retract : MethodName := ⟨RX6, "retract", "(I)I"⟩
abbrev cX6_wouldPayBack : ByteArray := prog_1_method_18_code
def yX6_wouldPayBack : MethodName := ⟨RX6, "wouldPayBack", "(I)I"⟩
abbrev cX6_pass : ByteArray := prog_1_method_19_code
def yX6_pass : MethodName := ⟨RX6, "pass", "(I)I"⟩
abbrev cX6_cheapest : ByteArray := prog_1_method_20_code
def yX6_cheapest : MethodName := ⟨RX6, "cheapest", "(I)I"⟩
abbrev cX6_piece : ByteArray := prog_1_method_21_code
def yX6_piece : MethodName := ⟨RX6, "piece", "(II)I"⟩
abbrev cX6_type : ByteArray := prog_1_method_22_code
def yX6_type : MethodName := ⟨RX6, "type", "(I)I"⟩
abbrev cX6_clearText : ByteArray := prog_1_method_23_code
def yX6_clearText : MethodName := ⟨RX6, "clearText", "()I"⟩
abbrev cX6_textFault : ByteArray := prog_1_method_24_code
def yX6_textFault : MethodName := ⟨RX6, "textFault", "()I"⟩
abbrev cX6_undo : ByteArray := prog_1_method_25_code
def yX6_undo : MethodName := ⟨RX6, "undo", "()I"⟩
abbrev cX6_digest : ByteArray := prog_1_method_26_code
def yX6_digest : MethodName := ⟨RX6, "digest", "()J"⟩
abbrev cX6_hashPhrase : ByteArray := prog_1_method_27_code
def yX6_hashPhrase : MethodName := ⟨RX6, "hashPhrase", "(JI)J"⟩
abbrev cX6_findMatch : ByteArray := prog_1_method_28_code
def yX6_findMatch : MethodName := ⟨RX6, "findMatch", "()I"⟩
abbrev cX6_findWays : ByteArray := prog_1_method_29_code
def yX6_findWays : MethodName := ⟨RX6, "findWays", "(I)V"⟩
def RX7 : String := "PhrasePoolModel"
def TX7 : u_T := fun k => match k with
  | _ => ("", "", "", false)
def tyX7 : Nat → FieldType := fun k => match k with
  | _ => .int
abbrev wsX70 : List Cond := u_ws RX7 TX7 0
theorem nmX7 : ∀ a, a < 0 → ∀ b, b < 0 → a ≠ b → (TX7 a).2.1 ≠ (TX7 b).2.1 := by decide +kernel
theorem tyX7_ok : ∀ k, k < 0 → parseFieldDescriptor (TX7 k).2.2.1 = some (tyX7 k) := by decide +kernel
def RJ9 : String := "java/lang/Math"
def TJ9 : u_T := fun k => match k with
  | _ => ("", "", "", false)
def tyJ9 : Nat → FieldType := fun k => match k with
  | _ => .int
abbrev wsJ90 : List Cond := u_ws RJ9 TJ9 0
theorem nmJ9 : ∀ a, a < 0 → ∀ b, b < 0 → a ≠ b → (TJ9 a).2.1 ≠ (TJ9 b).2.1 := by decide +kernel
theorem tyJ9_ok : ∀ k, k < 0 → parseFieldDescriptor (TJ9 k).2.2.1 = some (tyJ9 k) := by decide +kernel
abbrev cJ9_max_7cf53 : ByteArray := prog_10_method_65_code
def yJ9_max_7cf53 : MethodName := ⟨RJ9, "max", "(II)I"⟩
abbrev cJ9_min_7cf53 : ByteArray := prog_10_method_69_code
def yJ9_min_7cf53 : MethodName := ⟨RJ9, "min", "(II)I"⟩
def RJ10 : String := "java/lang/System"
def TJ10 : u_T := fun k => match k with
  | _ => ("", "", "", false)
def tyJ10 : Nat → FieldType := fun k => match k with
  | _ => .int
abbrev wsJ100 : List Cond := u_ws RJ10 TJ10 0
theorem nmJ10 : ∀ a, a < 0 → ∀ b, b < 0 → a ≠ b → (TJ10 a).2.1 ≠ (TJ10 b).2.1 := by decide +kernel
theorem tyJ10_ok : ∀ k, k < 0 → parseFieldDescriptor (TJ10 k).2.2.1 = some (tyJ10 k) := by decide +kernel
def RL : String := "PhrasePoolLaw"
abbrev cL_cell : ByteArray := method_2_code
def yL_cell : MethodName := ⟨RL, "cell", "([II)I"⟩
abbrev cL_low : ByteArray := method_3_code
def yL_low : MethodName := ⟨RL, "low", "(II)I"⟩
abbrev cL_sentence : ByteArray := method_4_code
def yL_sentence : MethodName := ⟨RL, "sentence", "(LPhrasePool;II)I"⟩
abbrev cL_fits : ByteArray := method_5_code
def yL_fits : MethodName := ⟨RL, "fits", "(LPhrasePool;)Z"⟩
abbrev cL_law : ByteArray := code
def yL_law : MethodName := ⟨RL, "law", "([I)Z"⟩
abbrev vwCl : List vw_C := [(RX0, TX0, 3), (RX1, TX1, 2), (RX2, TX2, 5), (RX3, TX3, 2), (RX4, TX4, 5), (RX5, TX5, 1), (RX6, TX6, 5)]
/-- a method: its class, name, code, locals, answer -/
abbrev MD : Type := Nat × MethodName × ByteArray × Nat × Option FieldType
def mX0_init : MD := (0, yX0_init, cX0_init, 1, none)
def mX0_keep : MD := (0, yX0_keep, cX0_keep, 2, none)
def mX0_restoreInto : MD := (0, yX0_restoreInto, cX0_restoreInto, 2, (some .int))
def mX1_init : MD := (1, yX1_init, cX1_init, 1, none)
def mX1_clear : MD := (1, yX1_clear, cX1_clear, 1, none)
def mX1_append : MD := (1, yX1_append, cX1_append, 2, none)
def mX1_wordAt : MD := (1, yX1_wordAt, cX1_wordAt, 2, (some .int))
def mX2_init : MD := (2, yX2_init, cX2_init, 1, none)
def mX2_copyTo : MD := (2, yX2_copyTo, cX2_copyTo, 2, none)
def mX2_copyFrom : MD := (2, yX2_copyFrom, cX2_copyFrom, 2, none)
def mX2_memberCell : MD := (2, yX2_memberCell, cX2_memberCell, 2, (some .int))
def mX2_phraseCell : MD := (2, yX2_phraseCell, cX2_phraseCell, 2, (some .int))
def mX2_noteCell : MD := (2, yX2_noteCell, cX2_noteCell, 2, (some .int))
def mX2_at : MD := (2, yX2_at, cX2_at, 2, (some .int))
def mX2_put : MD := (2, yX2_put, cX2_put, 3, none)
def mX2_increase : MD := (2, yX2_increase, cX2_increase, 3, none)
def mX2_members : MD := (2, yX2_members, cX2_members, 1, (some .int))
def mX2_phrases : MD := (2, yX2_phrases, cX2_phrases, 1, (some .int))
def mX2_notes : MD := (2, yX2_notes, cX2_notes, 1, (some .int))
def mX2_tick : MD := (2, yX2_tick, cX2_tick, 1, (some .int))
def mX2_hasMember : MD := (2, yX2_hasMember, cX2_hasMember, 2, (some .boolean))
def mX2_hasPhrase : MD := (2, yX2_hasPhrase, cX2_hasPhrase, 2, (some .boolean))
def mX2_hasNote : MD := (2, yX2_hasNote, cX2_hasNote, 2, (some .boolean))
def mX2_settingOf : MD := (2, yX2_settingOf, cX2_settingOf, 2, (some .int))
def mX2_changeSetting : MD := (2, yX2_changeSetting, cX2_changeSetting, 3, none)
def mX2_moveTick : MD := (2, yX2_moveTick, cX2_moveTick, 2, (some .int))
def mX2_startMember : MD := (2, yX2_startMember, cX2_startMember, 2, (some .int))
def mX2_priceOf : MD := (2, yX2_priceOf, cX2_priceOf, 2, (some .int))
def mX2_changePrice : MD := (2, yX2_changePrice, cX2_changePrice, 3, none)
def mX2_memberProperty : MD := (2, yX2_memberProperty, cX2_memberProperty, 3, (some .int))
def mX2_countOwned : MD := (2, yX2_countOwned, cX2_countOwned, 4, (some .int))
def mX2_countUsesNoted : MD := (2, yX2_countUsesNoted, cX2_countUsesNoted, 4, (some .int))
def mX2_sumGot : MD := (2, yX2_sumGot, cX2_sumGot, 4, (some .int))
def mX2_countOf : MD := (2, yX2_countOf, cX2_countOf, 2, (some .int))
def mX2_countLive : MD := (2, yX2_countLive, cX2_countLive, 3, (some .int))
def mX2_countPaidBack : MD := (2, yX2_countPaidBack, cX2_countPaidBack, 3, (some .int))
def mX2_countConflicts : MD := (2, yX2_countConflicts, cX2_countConflicts, 3, (some .int))
def mX2_startPhrase : MD := (2, yX2_startPhrase, cX2_startPhrase, 7, (some .int))
def mX2_phraseProperty : MD := (2, yX2_phraseProperty, cX2_phraseProperty, 3, (some .int))
def mX2_ownerOf : MD := (2, yX2_ownerOf, cX2_ownerOf, 2, (some .int))
def mX2_lengthOf : MD := (2, yX2_lengthOf, cX2_lengthOf, 2, (some .int))
def mX2_targetOf : MD := (2, yX2_targetOf, cX2_targetOf, 2, (some .int))
def mX2_parentOf : MD := (2, yX2_parentOf, cX2_parentOf, 2, (some .int))
def mX2_isLive : MD := (2, yX2_isLive, cX2_isLive, 2, (some .boolean))
def mX2_usesOf : MD := (2, yX2_usesOf, cX2_usesOf, 2, (some .int))
def mX2_wordOf : MD := (2, yX2_wordOf, cX2_wordOf, 3, (some .int))
def mX2_readInto : MD := (2, yX2_readInto, cX2_readInto, 4, none)
def mX2_likenessOf : MD := (2, yX2_likenessOf, cX2_likenessOf, 3, (some .int))
def mX2_likenessTo : MD := (2, yX2_likenessTo, cX2_likenessTo, 3, (some .int))
def mX2_conflictsOf : MD := (2, yX2_conflictsOf, cX2_conflictsOf, 4, (some .int))
def mX2_standsAt : MD := (2, yX2_standsAt, cX2_standsAt, 7, (some .boolean))
def mX2_isLiveAs : MD := (2, yX2_isLiveAs, cX2_isLiveAs, 3, (some .boolean))
def mX2_feeFor : MD := (2, yX2_feeFor, cX2_feeFor, 5, (some .int))
def mX2_noteProperty : MD := (2, yX2_noteProperty, cX2_noteProperty, 3, (some .int))
def mX2_isPaidBack : MD := (2, yX2_isPaidBack, cX2_isPaidBack, 2, (some .boolean))
def mX2_startNote : MD := (2, yX2_startNote, cX2_startNote, 5, (some .int))
def mX2_splitFee : MD := (2, yX2_splitFee, cX2_splitFee, 8, none)
def mX2_moveMoney : MD := (2, yX2_moveMoney, cX2_moveMoney, 4, none)
def mX2_markEndings : MD := (2, yX2_markEndings, cX2_markEndings, 3, none)
def mX2_isMarked : MD := (2, yX2_isMarked, cX2_isMarked, 2, (some .boolean))
def mX2_hasMarkedParent : MD := (2, yX2_hasMarkedParent, cX2_hasMarkedParent, 2, (some .boolean))
def mX2_endMarked : MD := (2, yX2_endMarked, cX2_endMarked, 3, (some .int))
def mX2_isOwed : MD := (2, yX2_isOwed, cX2_isOwed, 2, (some .boolean))
def mX2_owedForMarked : MD := (2, yX2_owedForMarked, cX2_owedForMarked, 3, (some .int))
def mX2_payBackMarked : MD := (2, yX2_payBackMarked, cX2_payBackMarked, 2, none)
def mX3_init : MD := (3, yX3_init, cX3_init, 1, none)
def mX3_isLetter : MD := (3, yX3_isLetter, cX3_isLetter, 1, (some .boolean))
def mX3_append : MD := (3, yX3_append, cX3_append, 2, (some .int))
def mX3_empty : MD := (3, yX3_empty, cX3_empty, 2, (some .int))
def mX3_fault : MD := (3, yX3_fault, cX3_fault, 3, (some .int))
def mX3_isFaulty : MD := (3, yX3_isFaulty, cX3_isFaulty, 1, (some .boolean))
def mX3_readInto : MD := (3, yX3_readInto, cX3_readInto, 3, none)
def mX4_init : MD := (4, yX4_init, cX4_init, 1, none)
def mX4_start : MD := (4, yX4_start, cX4_start, 2, none)
def mX4_isPlace : MD := (4, yX4_isPlace, cX4_isPlace, 2, (some .boolean))
def mX4_open : MD := (4, yX4_open, cX4_open, 2, none)
def mX4_offer : MD := (4, yX4_offer, cX4_offer, 8, none)
def mX4_bestCost : MD := (4, yX4_bestCost, cX4_bestCost, 1, (some .int))
def mX4_pieceAt : MD := (4, yX4_pieceAt, cX4_pieceAt, 4, (some .int))
def mX5_init : MD := (5, yX5_init, cX5_init, 1, none)
def mX5_measure : MD := (5, yX5_measure, cX5_measure, 4, (some .int))
def mX5_distance : MD := (5, yX5_distance, cX5_distance, 7, (some .int))
def mX6_init : MD := (6, yX6_init, cX6_init, 1, none)
def mX6_addMember : MD := (6, yX6_addMember, cX6_addMember, 1, (some .int))
def mX6_setPrice : MD := (6, yX6_setPrice, cX6_setPrice, 4, (some .int))
def mX6_set : MD := (6, yX6_set, cX6_set, 4, (some .int))
def mX6_count : MD := (6, yX6_count, cX6_count, 2, (some .int))
def mX6_member : MD := (6, yX6_member, cX6_member, 3, (some .int))
def mX6_addPhrase : MD := (6, yX6_addPhrase, cX6_addPhrase, 4, (some .int))
def mX6_phrase : MD := (6, yX6_phrase, cX6_phrase, 3, (some .int))
def mX6_word : MD := (6, yX6_word, cX6_word, 3, (some .int))
def mX6_score : MD := (6, yX6_score, cX6_score, 3, (some .int))
def mX6_match : MD := (6, yX6_match, cX6_match, 1, (some .int))
def mX6_alike : MD := (6, yX6_alike, cX6_alike, 2, (some .int))
def mX6_fee : MD := (6, yX6_fee, cX6_fee, 3, (some .int))
def mX6_use : MD := (6, yX6_use, cX6_use, 3, (some .int))
def mX6_note : MD := (6, yX6_note, cX6_note, 3, (some .int))
def mX6_retract : MD := (6, yX6_retract, cX6_retract, 2, (some .int))
def mX6_wouldPayBack : MD := (6, yX6_wouldPayBack, cX6_wouldPayBack, 2, (some .int))
def mX6_pass : MD := (6, yX6_pass, cX6_pass, 2, (some .int))
def mX6_cheapest : MD := (6, yX6_cheapest, cX6_cheapest, 2, (some .int))
def mX6_piece : MD := (6, yX6_piece, cX6_piece, 3, (some .int))
def mX6_type : MD := (6, yX6_type, cX6_type, 2, (some .int))
def mX6_clearText : MD := (6, yX6_clearText, cX6_clearText, 1, (some .int))
def mX6_textFault : MD := (6, yX6_textFault, cX6_textFault, 1, (some .int))
def mX6_undo : MD := (6, yX6_undo, cX6_undo, 1, (some .int))
def mX6_digest : MD := (6, yX6_digest, cX6_digest, 5, (some .long))
def mX6_hashPhrase : MD := (6, yX6_hashPhrase, cX6_hashPhrase, 7, (some .long))
def mX6_findMatch : MD := (6, yX6_findMatch, cX6_findMatch, 5, (some .int))
def mX6_findWays : MD := (6, yX6_findWays, cX6_findWays, 4, none)
def mL_cell : MD := (9, yL_cell, cL_cell, 2, (some .int))
def mL_low : MD := (8, yL_low, cL_low, 2, (some .int))
def mL_sentence : MD := (8, yL_sentence, cL_sentence, 4, (some .int))
def mL_fits : MD := (8, yL_fits, cL_fits, 9, (some .boolean))
def mL_law : MD := (9, yL_law, cL_law, maxLocals, ret)
