section
-- ===== PART A: goes FIRST, ahead of the names: the tables' words, and 'selects' of the private methods out of them =====
/-- a private method of a class that the tables say can be made, by its rows of tables_1 -/
def lw_okq (q : MethodName × Nat) : Prop := (q.1.cls ≠ "java/lang/invoke/MethodHandle" ∧ q.1.cls ≠ "java/lang/invoke/VarHandle") ∧ Cond.instantiable q.1.cls q.2 ∈ tables_1 ∧ Cond.privateMethod q.1 ∈ tables_1 ∧ Cond.instanceMethod q.1 ∈ tables_1
theorem lw_p0 : lw_okq (⟨"PhrasePool$State", "members", "()I"⟩, 5) := ⟨⟨by decide +kernel, by decide +kernel⟩, List.mem_of_getElem? (i := 20) (by decide +kernel), List.mem_of_getElem? (i := 155) (by decide +kernel), List.mem_of_getElem? (i := 156) (by decide +kernel)⟩
theorem lw_p1 : lw_okq (⟨"PhrasePool$History", "keep", "(LPhrasePool$State;)V"⟩, 3) := ⟨⟨by decide +kernel, by decide +kernel⟩, List.mem_of_getElem? (i := 79) (by decide +kernel), List.mem_of_getElem? (i := 160) (by decide +kernel), List.mem_of_getElem? (i := 161) (by decide +kernel)⟩
theorem lw_p2 : lw_okq (⟨"PhrasePool$State", "copyTo", "([I)V"⟩, 5) := ⟨⟨by decide +kernel, by decide +kernel⟩, List.mem_of_getElem? (i := 20) (by decide +kernel), List.mem_of_getElem? (i := 164) (by decide +kernel), List.mem_of_getElem? (i := 165) (by decide +kernel)⟩
theorem lw_p3 : lw_okq (⟨"PhrasePool$State", "startMember", "()I"⟩, 5) := ⟨⟨by decide +kernel, by decide +kernel⟩, List.mem_of_getElem? (i := 20) (by decide +kernel), List.mem_of_getElem? (i := 171) (by decide +kernel), List.mem_of_getElem? (i := 172) (by decide +kernel)⟩
theorem lw_p4 : lw_okq (⟨"PhrasePool$State", "hasMember", "(I)Z"⟩, 5) := ⟨⟨by decide +kernel, by decide +kernel⟩, List.mem_of_getElem? (i := 20) (by decide +kernel), List.mem_of_getElem? (i := 182) (by decide +kernel), List.mem_of_getElem? (i := 183) (by decide +kernel)⟩
theorem lw_p5 : lw_okq (⟨"PhrasePool$State", "priceOf", "(I)I"⟩, 5) := ⟨⟨by decide +kernel, by decide +kernel⟩, List.mem_of_getElem? (i := 20) (by decide +kernel), List.mem_of_getElem? (i := 189) (by decide +kernel), List.mem_of_getElem? (i := 190) (by decide +kernel)⟩
theorem lw_p6 : lw_okq (⟨"PhrasePool$State", "changePrice", "(II)V"⟩, 5) := ⟨⟨by decide +kernel, by decide +kernel⟩, List.mem_of_getElem? (i := 20) (by decide +kernel), List.mem_of_getElem? (i := 193) (by decide +kernel), List.mem_of_getElem? (i := 194) (by decide +kernel)⟩
theorem lw_p7 : lw_okq (⟨"PhrasePool$State", "settingOf", "(I)I"⟩, 5) := ⟨⟨by decide +kernel, by decide +kernel⟩, List.mem_of_getElem? (i := 20) (by decide +kernel), List.mem_of_getElem? (i := 205) (by decide +kernel), List.mem_of_getElem? (i := 206) (by decide +kernel)⟩
theorem lw_p8 : lw_okq (⟨"PhrasePool$State", "changeSetting", "(II)V"⟩, 5) := ⟨⟨by decide +kernel, by decide +kernel⟩, List.mem_of_getElem? (i := 20) (by decide +kernel), List.mem_of_getElem? (i := 209) (by decide +kernel), List.mem_of_getElem? (i := 210) (by decide +kernel)⟩
theorem lw_p9 : lw_okq (⟨"PhrasePool$State", "countOf", "(I)I"⟩, 5) := ⟨⟨by decide +kernel, by decide +kernel⟩, List.mem_of_getElem? (i := 20) (by decide +kernel), List.mem_of_getElem? (i := 217) (by decide +kernel), List.mem_of_getElem? (i := 218) (by decide +kernel)⟩
theorem lw_p10 : lw_okq (⟨"PhrasePool$State", "phrases", "()I"⟩, 5) := ⟨⟨by decide +kernel, by decide +kernel⟩, List.mem_of_getElem? (i := 20) (by decide +kernel), List.mem_of_getElem? (i := 221) (by decide +kernel), List.mem_of_getElem? (i := 222) (by decide +kernel)⟩
theorem lw_p11 : lw_okq (⟨"PhrasePool$State", "countLive", "()I"⟩, 5) := ⟨⟨by decide +kernel, by decide +kernel⟩, List.mem_of_getElem? (i := 20) (by decide +kernel), List.mem_of_getElem? (i := 225) (by decide +kernel), List.mem_of_getElem? (i := 226) (by decide +kernel)⟩
theorem lw_p12 : lw_okq (⟨"PhrasePool$State", "isLive", "(I)Z"⟩, 5) := ⟨⟨by decide +kernel, by decide +kernel⟩, List.mem_of_getElem? (i := 20) (by decide +kernel), List.mem_of_getElem? (i := 229) (by decide +kernel), List.mem_of_getElem? (i := 230) (by decide +kernel)⟩
theorem lw_p13 : lw_okq (⟨"PhrasePool$State", "notes", "()I"⟩, 5) := ⟨⟨by decide +kernel, by decide +kernel⟩, List.mem_of_getElem? (i := 20) (by decide +kernel), List.mem_of_getElem? (i := 236) (by decide +kernel), List.mem_of_getElem? (i := 237) (by decide +kernel)⟩
theorem lw_p14 : lw_okq (⟨"PhrasePool$State", "countPaidBack", "()I"⟩, 5) := ⟨⟨by decide +kernel, by decide +kernel⟩, List.mem_of_getElem? (i := 20) (by decide +kernel), List.mem_of_getElem? (i := 240) (by decide +kernel), List.mem_of_getElem? (i := 241) (by decide +kernel)⟩
theorem lw_p15 : lw_okq (⟨"PhrasePool$State", "isPaidBack", "(I)Z"⟩, 5) := ⟨⟨by decide +kernel, by decide +kernel⟩, List.mem_of_getElem? (i := 20) (by decide +kernel), List.mem_of_getElem? (i := 244) (by decide +kernel), List.mem_of_getElem? (i := 245) (by decide +kernel)⟩
def lw_privs_1 : List (MethodName × Nat) := [(⟨"PhrasePool$State", "members", "()I"⟩, 5), (⟨"PhrasePool$History", "keep", "(LPhrasePool$State;)V"⟩, 3), (⟨"PhrasePool$State", "copyTo", "([I)V"⟩, 5), (⟨"PhrasePool$State", "startMember", "()I"⟩, 5), (⟨"PhrasePool$State", "hasMember", "(I)Z"⟩, 5), (⟨"PhrasePool$State", "priceOf", "(I)I"⟩, 5), (⟨"PhrasePool$State", "changePrice", "(II)V"⟩, 5), (⟨"PhrasePool$State", "settingOf", "(I)I"⟩, 5), (⟨"PhrasePool$State", "changeSetting", "(II)V"⟩, 5), (⟨"PhrasePool$State", "countOf", "(I)I"⟩, 5), (⟨"PhrasePool$State", "phrases", "()I"⟩, 5), (⟨"PhrasePool$State", "countLive", "()I"⟩, 5), (⟨"PhrasePool$State", "isLive", "(I)Z"⟩, 5), (⟨"PhrasePool$State", "notes", "()I"⟩, 5), (⟨"PhrasePool$State", "countPaidBack", "()I"⟩, 5), (⟨"PhrasePool$State", "isPaidBack", "(I)Z"⟩, 5)]
theorem lw_r1 : ∀ q ∈ lw_privs_1, lw_okq q := List.forall_mem_cons.mpr ⟨lw_p0, List.forall_mem_cons.mpr ⟨lw_p1, List.forall_mem_cons.mpr ⟨lw_p2, List.forall_mem_cons.mpr ⟨lw_p3, List.forall_mem_cons.mpr ⟨lw_p4, List.forall_mem_cons.mpr ⟨lw_p5, List.forall_mem_cons.mpr ⟨lw_p6, List.forall_mem_cons.mpr ⟨lw_p7, List.forall_mem_cons.mpr ⟨lw_p8, List.forall_mem_cons.mpr ⟨lw_p9, List.forall_mem_cons.mpr ⟨lw_p10, List.forall_mem_cons.mpr ⟨lw_p11, List.forall_mem_cons.mpr ⟨lw_p12, List.forall_mem_cons.mpr ⟨lw_p13, List.forall_mem_cons.mpr ⟨lw_p14, List.forall_mem_cons.mpr ⟨lw_p15, fun _ h => absurd h List.not_mem_nil⟩⟩⟩⟩⟩⟩⟩⟩⟩⟩⟩⟩⟩⟩⟩⟩
theorem lw_p16 : lw_okq (⟨"PhrasePool$State", "tick", "()I"⟩, 5) := ⟨⟨by decide +kernel, by decide +kernel⟩, List.mem_of_getElem? (i := 20) (by decide +kernel), List.mem_of_getElem? (i := 251) (by decide +kernel), List.mem_of_getElem? (i := 252) (by decide +kernel)⟩
theorem lw_p17 : lw_okq (⟨"PhrasePool$State", "countConflicts", "()I"⟩, 5) := ⟨⟨by decide +kernel, by decide +kernel⟩, List.mem_of_getElem? (i := 20) (by decide +kernel), List.mem_of_getElem? (i := 255) (by decide +kernel), List.mem_of_getElem? (i := 256) (by decide +kernel)⟩
theorem lw_p18 : lw_okq (⟨"PhrasePool$State", "conflictsOf", "(I)I"⟩, 5) := ⟨⟨by decide +kernel, by decide +kernel⟩, List.mem_of_getElem? (i := 20) (by decide +kernel), List.mem_of_getElem? (i := 259) (by decide +kernel), List.mem_of_getElem? (i := 260) (by decide +kernel)⟩
theorem lw_p19 : lw_okq (⟨"PhrasePool$State", "readInto", "(LPhrasePool$Sentence;I)V"⟩, 5) := ⟨⟨by decide +kernel, by decide +kernel⟩, List.mem_of_getElem? (i := 20) (by decide +kernel), List.mem_of_getElem? (i := 263) (by decide +kernel), List.mem_of_getElem? (i := 264) (by decide +kernel)⟩
theorem lw_p20 : lw_okq (⟨"PhrasePool$Sentence", "clear", "()V"⟩, 2) := ⟨⟨by decide +kernel, by decide +kernel⟩, List.mem_of_getElem? (i := 26) (by decide +kernel), List.mem_of_getElem? (i := 267) (by decide +kernel), List.mem_of_getElem? (i := 268) (by decide +kernel)⟩
theorem lw_p21 : lw_okq (⟨"PhrasePool$State", "lengthOf", "(I)I"⟩, 5) := ⟨⟨by decide +kernel, by decide +kernel⟩, List.mem_of_getElem? (i := 20) (by decide +kernel), List.mem_of_getElem? (i := 271) (by decide +kernel), List.mem_of_getElem? (i := 272) (by decide +kernel)⟩
theorem lw_p22 : lw_okq (⟨"PhrasePool$State", "wordOf", "(II)I"⟩, 5) := ⟨⟨by decide +kernel, by decide +kernel⟩, List.mem_of_getElem? (i := 20) (by decide +kernel), List.mem_of_getElem? (i := 275) (by decide +kernel), List.mem_of_getElem? (i := 276) (by decide +kernel)⟩
theorem lw_p23 : lw_okq (⟨"PhrasePool$Sentence", "append", "(I)V"⟩, 2) := ⟨⟨by decide +kernel, by decide +kernel⟩, List.mem_of_getElem? (i := 26) (by decide +kernel), List.mem_of_getElem? (i := 279) (by decide +kernel), List.mem_of_getElem? (i := 280) (by decide +kernel)⟩
theorem lw_p24 : lw_okq (⟨"PhrasePool$State", "isLiveAs", "(ILPhrasePool$Sentence;)Z"⟩, 5) := ⟨⟨by decide +kernel, by decide +kernel⟩, List.mem_of_getElem? (i := 20) (by decide +kernel), List.mem_of_getElem? (i := 283) (by decide +kernel), List.mem_of_getElem? (i := 284) (by decide +kernel)⟩
theorem lw_p25 : lw_okq (⟨"PhrasePool$State", "standsAt", "(ILPhrasePool$Sentence;I)Z"⟩, 5) := ⟨⟨by decide +kernel, by decide +kernel⟩, List.mem_of_getElem? (i := 20) (by decide +kernel), List.mem_of_getElem? (i := 287) (by decide +kernel), List.mem_of_getElem? (i := 288) (by decide +kernel)⟩
theorem lw_p26 : lw_okq (⟨"PhrasePool$State", "targetOf", "(I)I"⟩, 5) := ⟨⟨by decide +kernel, by decide +kernel⟩, List.mem_of_getElem? (i := 20) (by decide +kernel), List.mem_of_getElem? (i := 291) (by decide +kernel), List.mem_of_getElem? (i := 292) (by decide +kernel)⟩
theorem lw_p27 : lw_okq (⟨"PhrasePool$State", "memberProperty", "(II)I"⟩, 5) := ⟨⟨by decide +kernel, by decide +kernel⟩, List.mem_of_getElem? (i := 20) (by decide +kernel), List.mem_of_getElem? (i := 300) (by decide +kernel), List.mem_of_getElem? (i := 301) (by decide +kernel)⟩
theorem lw_p28 : lw_okq (⟨"PhrasePool$State", "countOwned", "(I)I"⟩, 5) := ⟨⟨by decide +kernel, by decide +kernel⟩, List.mem_of_getElem? (i := 20) (by decide +kernel), List.mem_of_getElem? (i := 304) (by decide +kernel), List.mem_of_getElem? (i := 305) (by decide +kernel)⟩
theorem lw_p29 : lw_okq (⟨"PhrasePool$State", "ownerOf", "(I)I"⟩, 5) := ⟨⟨by decide +kernel, by decide +kernel⟩, List.mem_of_getElem? (i := 20) (by decide +kernel), List.mem_of_getElem? (i := 308) (by decide +kernel), List.mem_of_getElem? (i := 309) (by decide +kernel)⟩
theorem lw_p30 : lw_okq (⟨"PhrasePool$State", "countUsesNoted", "(I)I"⟩, 5) := ⟨⟨by decide +kernel, by decide +kernel⟩, List.mem_of_getElem? (i := 20) (by decide +kernel), List.mem_of_getElem? (i := 312) (by decide +kernel), List.mem_of_getElem? (i := 313) (by decide +kernel)⟩
theorem lw_p31 : lw_okq (⟨"PhrasePool$State", "noteProperty", "(II)I"⟩, 5) := ⟨⟨by decide +kernel, by decide +kernel⟩, List.mem_of_getElem? (i := 20) (by decide +kernel), List.mem_of_getElem? (i := 316) (by decide +kernel), List.mem_of_getElem? (i := 317) (by decide +kernel)⟩
def lw_privs_2 : List (MethodName × Nat) := [(⟨"PhrasePool$State", "tick", "()I"⟩, 5), (⟨"PhrasePool$State", "countConflicts", "()I"⟩, 5), (⟨"PhrasePool$State", "conflictsOf", "(I)I"⟩, 5), (⟨"PhrasePool$State", "readInto", "(LPhrasePool$Sentence;I)V"⟩, 5), (⟨"PhrasePool$Sentence", "clear", "()V"⟩, 2), (⟨"PhrasePool$State", "lengthOf", "(I)I"⟩, 5), (⟨"PhrasePool$State", "wordOf", "(II)I"⟩, 5), (⟨"PhrasePool$Sentence", "append", "(I)V"⟩, 2), (⟨"PhrasePool$State", "isLiveAs", "(ILPhrasePool$Sentence;)Z"⟩, 5), (⟨"PhrasePool$State", "standsAt", "(ILPhrasePool$Sentence;I)Z"⟩, 5), (⟨"PhrasePool$State", "targetOf", "(I)I"⟩, 5), (⟨"PhrasePool$State", "memberProperty", "(II)I"⟩, 5), (⟨"PhrasePool$State", "countOwned", "(I)I"⟩, 5), (⟨"PhrasePool$State", "ownerOf", "(I)I"⟩, 5), (⟨"PhrasePool$State", "countUsesNoted", "(I)I"⟩, 5), (⟨"PhrasePool$State", "noteProperty", "(II)I"⟩, 5)]
theorem lw_r2 : ∀ q ∈ lw_privs_2, lw_okq q := List.forall_mem_cons.mpr ⟨lw_p16, List.forall_mem_cons.mpr ⟨lw_p17, List.forall_mem_cons.mpr ⟨lw_p18, List.forall_mem_cons.mpr ⟨lw_p19, List.forall_mem_cons.mpr ⟨lw_p20, List.forall_mem_cons.mpr ⟨lw_p21, List.forall_mem_cons.mpr ⟨lw_p22, List.forall_mem_cons.mpr ⟨lw_p23, List.forall_mem_cons.mpr ⟨lw_p24, List.forall_mem_cons.mpr ⟨lw_p25, List.forall_mem_cons.mpr ⟨lw_p26, List.forall_mem_cons.mpr ⟨lw_p27, List.forall_mem_cons.mpr ⟨lw_p28, List.forall_mem_cons.mpr ⟨lw_p29, List.forall_mem_cons.mpr ⟨lw_p30, List.forall_mem_cons.mpr ⟨lw_p31, fun _ h => absurd h List.not_mem_nil⟩⟩⟩⟩⟩⟩⟩⟩⟩⟩⟩⟩⟩⟩⟩⟩
theorem lw_p32 : lw_okq (⟨"PhrasePool$State", "sumGot", "(I)I"⟩, 5) := ⟨⟨by decide +kernel, by decide +kernel⟩, List.mem_of_getElem? (i := 20) (by decide +kernel), List.mem_of_getElem? (i := 320) (by decide +kernel), List.mem_of_getElem? (i := 321) (by decide +kernel)⟩
theorem lw_p33 : lw_okq (⟨"PhrasePool$State", "hasPhrase", "(I)Z"⟩, 5) := ⟨⟨by decide +kernel, by decide +kernel⟩, List.mem_of_getElem? (i := 20) (by decide +kernel), List.mem_of_getElem? (i := 329) (by decide +kernel), List.mem_of_getElem? (i := 330) (by decide +kernel)⟩
theorem lw_p34 : lw_okq (⟨"PhrasePool$Text", "isFaulty", "()Z"⟩, 2) := ⟨⟨by decide +kernel, by decide +kernel⟩, List.mem_of_getElem? (i := 97) (by decide +kernel), List.mem_of_getElem? (i := 333) (by decide +kernel), List.mem_of_getElem? (i := 334) (by decide +kernel)⟩
theorem lw_p35 : lw_okq (⟨"PhrasePool$Text", "fault", "()I"⟩, 2) := ⟨⟨by decide +kernel, by decide +kernel⟩, List.mem_of_getElem? (i := 97) (by decide +kernel), List.mem_of_getElem? (i := 337) (by decide +kernel), List.mem_of_getElem? (i := 338) (by decide +kernel)⟩
theorem lw_p36 : lw_okq (⟨"PhrasePool$Text", "readInto", "(LPhrasePool$Sentence;)V"⟩, 2) := ⟨⟨by decide +kernel, by decide +kernel⟩, List.mem_of_getElem? (i := 97) (by decide +kernel), List.mem_of_getElem? (i := 348) (by decide +kernel), List.mem_of_getElem? (i := 349) (by decide +kernel)⟩
theorem lw_p37 : lw_okq (⟨"PhrasePool$State", "startPhrase", "(IIILPhrasePool$Sentence;)I"⟩, 5) := ⟨⟨by decide +kernel, by decide +kernel⟩, List.mem_of_getElem? (i := 20) (by decide +kernel), List.mem_of_getElem? (i := 354) (by decide +kernel), List.mem_of_getElem? (i := 355) (by decide +kernel)⟩
theorem lw_p38 : lw_okq (⟨"PhrasePool$State", "phraseProperty", "(II)I"⟩, 5) := ⟨⟨by decide +kernel, by decide +kernel⟩, List.mem_of_getElem? (i := 20) (by decide +kernel), List.mem_of_getElem? (i := 362) (by decide +kernel), List.mem_of_getElem? (i := 363) (by decide +kernel)⟩
theorem lw_p39 : lw_okq (⟨"PhrasePool$State", "likenessOf", "(II)I"⟩, 5) := ⟨⟨by decide +kernel, by decide +kernel⟩, List.mem_of_getElem? (i := 20) (by decide +kernel), List.mem_of_getElem? (i := 376) (by decide +kernel), List.mem_of_getElem? (i := 377) (by decide +kernel)⟩
theorem lw_p40 : lw_okq (⟨"PhrasePool$State", "likenessTo", "(LPhrasePool$Sentence;I)I"⟩, 5) := ⟨⟨by decide +kernel, by decide +kernel⟩, List.mem_of_getElem? (i := 20) (by decide +kernel), List.mem_of_getElem? (i := 380) (by decide +kernel), List.mem_of_getElem? (i := 381) (by decide +kernel)⟩
theorem lw_p41 : lw_okq (⟨"PhrasePool$Yardstick", "measure", "(LPhrasePool$Sentence;LPhrasePool$Sentence;)I"⟩, 1) := ⟨⟨by decide +kernel, by decide +kernel⟩, List.mem_of_getElem? (i := 46) (by decide +kernel), List.mem_of_getElem? (i := 384) (by decide +kernel), List.mem_of_getElem? (i := 385) (by decide +kernel)⟩
theorem lw_p42 : lw_okq (⟨"PhrasePool$Yardstick", "distance", "(LPhrasePool$Sentence;LPhrasePool$Sentence;)I"⟩, 1) := ⟨⟨by decide +kernel, by decide +kernel⟩, List.mem_of_getElem? (i := 46) (by decide +kernel), List.mem_of_getElem? (i := 391) (by decide +kernel), List.mem_of_getElem? (i := 392) (by decide +kernel)⟩
theorem lw_p43 : lw_okq (⟨"PhrasePool$State", "giversOf", "(ILPhrasePool$Sentence;)I"⟩, 5) := ⟨⟨by decide +kernel, by decide +kernel⟩, List.mem_of_getElem? (i := 20) (by decide +kernel), List.mem_of_getElem? (i := 402) (by decide +kernel), List.mem_of_getElem? (i := 403) (by decide +kernel)⟩
theorem lw_p44 : lw_okq (⟨"PhrasePool$State", "gives", "(IILPhrasePool$Sentence;)Z"⟩, 5) := ⟨⟨by decide +kernel, by decide +kernel⟩, List.mem_of_getElem? (i := 20) (by decide +kernel), List.mem_of_getElem? (i := 406) (by decide +kernel), List.mem_of_getElem? (i := 407) (by decide +kernel)⟩
theorem lw_p45 : lw_okq (⟨"PhrasePool", "findMatch", "()I"⟩, 5) := ⟨⟨by decide +kernel, by decide +kernel⟩, List.mem_of_getElem? (i := 12) (by decide +kernel), List.mem_of_getElem? (i := 414) (by decide +kernel), List.mem_of_getElem? (i := 415) (by decide +kernel)⟩
theorem lw_p46 : lw_okq (⟨"PhrasePool$State", "usesOf", "(I)I"⟩, 5) := ⟨⟨by decide +kernel, by decide +kernel⟩, List.mem_of_getElem? (i := 20) (by decide +kernel), List.mem_of_getElem? (i := 419) (by decide +kernel), List.mem_of_getElem? (i := 420) (by decide +kernel)⟩
theorem lw_p47 : lw_okq (⟨"PhrasePool$State", "feeFor", "(III)I"⟩, 5) := ⟨⟨by decide +kernel, by decide +kernel⟩, List.mem_of_getElem? (i := 20) (by decide +kernel), List.mem_of_getElem? (i := 431) (by decide +kernel), List.mem_of_getElem? (i := 432) (by decide +kernel)⟩
def lw_privs_3 : List (MethodName × Nat) := [(⟨"PhrasePool$State", "sumGot", "(I)I"⟩, 5), (⟨"PhrasePool$State", "hasPhrase", "(I)Z"⟩, 5), (⟨"PhrasePool$Text", "isFaulty", "()Z"⟩, 2), (⟨"PhrasePool$Text", "fault", "()I"⟩, 2), (⟨"PhrasePool$Text", "readInto", "(LPhrasePool$Sentence;)V"⟩, 2), (⟨"PhrasePool$State", "startPhrase", "(IIILPhrasePool$Sentence;)I"⟩, 5), (⟨"PhrasePool$State", "phraseProperty", "(II)I"⟩, 5), (⟨"PhrasePool$State", "likenessOf", "(II)I"⟩, 5), (⟨"PhrasePool$State", "likenessTo", "(LPhrasePool$Sentence;I)I"⟩, 5), (⟨"PhrasePool$Yardstick", "measure", "(LPhrasePool$Sentence;LPhrasePool$Sentence;)I"⟩, 1), (⟨"PhrasePool$Yardstick", "distance", "(LPhrasePool$Sentence;LPhrasePool$Sentence;)I"⟩, 1), (⟨"PhrasePool$State", "giversOf", "(ILPhrasePool$Sentence;)I"⟩, 5), (⟨"PhrasePool$State", "gives", "(IILPhrasePool$Sentence;)Z"⟩, 5), (⟨"PhrasePool", "findMatch", "()I"⟩, 5), (⟨"PhrasePool$State", "usesOf", "(I)I"⟩, 5), (⟨"PhrasePool$State", "feeFor", "(III)I"⟩, 5)]
theorem lw_r3 : ∀ q ∈ lw_privs_3, lw_okq q := List.forall_mem_cons.mpr ⟨lw_p32, List.forall_mem_cons.mpr ⟨lw_p33, List.forall_mem_cons.mpr ⟨lw_p34, List.forall_mem_cons.mpr ⟨lw_p35, List.forall_mem_cons.mpr ⟨lw_p36, List.forall_mem_cons.mpr ⟨lw_p37, List.forall_mem_cons.mpr ⟨lw_p38, List.forall_mem_cons.mpr ⟨lw_p39, List.forall_mem_cons.mpr ⟨lw_p40, List.forall_mem_cons.mpr ⟨lw_p41, List.forall_mem_cons.mpr ⟨lw_p42, List.forall_mem_cons.mpr ⟨lw_p43, List.forall_mem_cons.mpr ⟨lw_p44, List.forall_mem_cons.mpr ⟨lw_p45, List.forall_mem_cons.mpr ⟨lw_p46, List.forall_mem_cons.mpr ⟨lw_p47, fun _ h => absurd h List.not_mem_nil⟩⟩⟩⟩⟩⟩⟩⟩⟩⟩⟩⟩⟩⟩⟩⟩
theorem lw_p48 : lw_okq (⟨"PhrasePool$State", "startNote", "(III)I"⟩, 5) := ⟨⟨by decide +kernel, by decide +kernel⟩, List.mem_of_getElem? (i := 20) (by decide +kernel), List.mem_of_getElem? (i := 441) (by decide +kernel), List.mem_of_getElem? (i := 442) (by decide +kernel)⟩
theorem lw_p49 : lw_okq (⟨"PhrasePool$State", "splitFee", "(I)V"⟩, 5) := ⟨⟨by decide +kernel, by decide +kernel⟩, List.mem_of_getElem? (i := 20) (by decide +kernel), List.mem_of_getElem? (i := 446) (by decide +kernel), List.mem_of_getElem? (i := 447) (by decide +kernel)⟩
theorem lw_p50 : lw_okq (⟨"PhrasePool$State", "parentOf", "(I)I"⟩, 5) := ⟨⟨by decide +kernel, by decide +kernel⟩, List.mem_of_getElem? (i := 20) (by decide +kernel), List.mem_of_getElem? (i := 451) (by decide +kernel), List.mem_of_getElem? (i := 452) (by decide +kernel)⟩
theorem lw_p51 : lw_okq (⟨"PhrasePool$State", "moveMoney", "(II)V"⟩, 5) := ⟨⟨by decide +kernel, by decide +kernel⟩, List.mem_of_getElem? (i := 20) (by decide +kernel), List.mem_of_getElem? (i := 455) (by decide +kernel), List.mem_of_getElem? (i := 456) (by decide +kernel)⟩
theorem lw_p52 : lw_okq (⟨"PhrasePool$State", "hasNote", "(I)Z"⟩, 5) := ⟨⟨by decide +kernel, by decide +kernel⟩, List.mem_of_getElem? (i := 20) (by decide +kernel), List.mem_of_getElem? (i := 463) (by decide +kernel), List.mem_of_getElem? (i := 464) (by decide +kernel)⟩
theorem lw_p53 : lw_okq (⟨"PhrasePool$State", "markEndings", "(I)V"⟩, 5) := ⟨⟨by decide +kernel, by decide +kernel⟩, List.mem_of_getElem? (i := 20) (by decide +kernel), List.mem_of_getElem? (i := 472) (by decide +kernel), List.mem_of_getElem? (i := 473) (by decide +kernel)⟩
theorem lw_p54 : lw_okq (⟨"PhrasePool$State", "hasMarkedParent", "(I)Z"⟩, 5) := ⟨⟨by decide +kernel, by decide +kernel⟩, List.mem_of_getElem? (i := 20) (by decide +kernel), List.mem_of_getElem? (i := 476) (by decide +kernel), List.mem_of_getElem? (i := 477) (by decide +kernel)⟩
theorem lw_p55 : lw_okq (⟨"PhrasePool$State", "payBackMarked", "()V"⟩, 5) := ⟨⟨by decide +kernel, by decide +kernel⟩, List.mem_of_getElem? (i := 20) (by decide +kernel), List.mem_of_getElem? (i := 481) (by decide +kernel), List.mem_of_getElem? (i := 482) (by decide +kernel)⟩
theorem lw_p56 : lw_okq (⟨"PhrasePool$State", "isOwed", "(I)Z"⟩, 5) := ⟨⟨by decide +kernel, by decide +kernel⟩, List.mem_of_getElem? (i := 20) (by decide +kernel), List.mem_of_getElem? (i := 485) (by decide +kernel), List.mem_of_getElem? (i := 486) (by decide +kernel)⟩
theorem lw_p57 : lw_okq (⟨"PhrasePool$State", "endMarked", "()I"⟩, 5) := ⟨⟨by decide +kernel, by decide +kernel⟩, List.mem_of_getElem? (i := 20) (by decide +kernel), List.mem_of_getElem? (i := 489) (by decide +kernel), List.mem_of_getElem? (i := 490) (by decide +kernel)⟩
theorem lw_p58 : lw_okq (⟨"PhrasePool$State", "owedForMarked", "()I"⟩, 5) := ⟨⟨by decide +kernel, by decide +kernel⟩, List.mem_of_getElem? (i := 20) (by decide +kernel), List.mem_of_getElem? (i := 497) (by decide +kernel), List.mem_of_getElem? (i := 498) (by decide +kernel)⟩
theorem lw_p59 : lw_okq (⟨"PhrasePool$State", "moveTick", "(I)I"⟩, 5) := ⟨⟨by decide +kernel, by decide +kernel⟩, List.mem_of_getElem? (i := 20) (by decide +kernel), List.mem_of_getElem? (i := 506) (by decide +kernel), List.mem_of_getElem? (i := 507) (by decide +kernel)⟩
theorem lw_p60 : lw_okq (⟨"PhrasePool", "findWays", "(I)V"⟩, 5) := ⟨⟨by decide +kernel, by decide +kernel⟩, List.mem_of_getElem? (i := 12) (by decide +kernel), List.mem_of_getElem? (i := 514) (by decide +kernel), List.mem_of_getElem? (i := 515) (by decide +kernel)⟩
theorem lw_p61 : lw_okq (⟨"PhrasePool$Ways", "start", "(I)V"⟩, 5) := ⟨⟨by decide +kernel, by decide +kernel⟩, List.mem_of_getElem? (i := 113) (by decide +kernel), List.mem_of_getElem? (i := 518) (by decide +kernel), List.mem_of_getElem? (i := 519) (by decide +kernel)⟩
theorem lw_p62 : lw_okq (⟨"PhrasePool$Ways", "open", "(I)V"⟩, 5) := ⟨⟨by decide +kernel, by decide +kernel⟩, List.mem_of_getElem? (i := 113) (by decide +kernel), List.mem_of_getElem? (i := 522) (by decide +kernel), List.mem_of_getElem? (i := 523) (by decide +kernel)⟩
theorem lw_p63 : lw_okq (⟨"PhrasePool$Ways", "offer", "(IIII)V"⟩, 5) := ⟨⟨by decide +kernel, by decide +kernel⟩, List.mem_of_getElem? (i := 113) (by decide +kernel), List.mem_of_getElem? (i := 529) (by decide +kernel), List.mem_of_getElem? (i := 530) (by decide +kernel)⟩
def lw_privs_4 : List (MethodName × Nat) := [(⟨"PhrasePool$State", "startNote", "(III)I"⟩, 5), (⟨"PhrasePool$State", "splitFee", "(I)V"⟩, 5), (⟨"PhrasePool$State", "parentOf", "(I)I"⟩, 5), (⟨"PhrasePool$State", "moveMoney", "(II)V"⟩, 5), (⟨"PhrasePool$State", "hasNote", "(I)Z"⟩, 5), (⟨"PhrasePool$State", "markEndings", "(I)V"⟩, 5), (⟨"PhrasePool$State", "hasMarkedParent", "(I)Z"⟩, 5), (⟨"PhrasePool$State", "payBackMarked", "()V"⟩, 5), (⟨"PhrasePool$State", "isOwed", "(I)Z"⟩, 5), (⟨"PhrasePool$State", "endMarked", "()I"⟩, 5), (⟨"PhrasePool$State", "owedForMarked", "()I"⟩, 5), (⟨"PhrasePool$State", "moveTick", "(I)I"⟩, 5), (⟨"PhrasePool", "findWays", "(I)V"⟩, 5), (⟨"PhrasePool$Ways", "start", "(I)V"⟩, 5), (⟨"PhrasePool$Ways", "open", "(I)V"⟩, 5), (⟨"PhrasePool$Ways", "offer", "(IIII)V"⟩, 5)]
theorem lw_r4 : ∀ q ∈ lw_privs_4, lw_okq q := List.forall_mem_cons.mpr ⟨lw_p48, List.forall_mem_cons.mpr ⟨lw_p49, List.forall_mem_cons.mpr ⟨lw_p50, List.forall_mem_cons.mpr ⟨lw_p51, List.forall_mem_cons.mpr ⟨lw_p52, List.forall_mem_cons.mpr ⟨lw_p53, List.forall_mem_cons.mpr ⟨lw_p54, List.forall_mem_cons.mpr ⟨lw_p55, List.forall_mem_cons.mpr ⟨lw_p56, List.forall_mem_cons.mpr ⟨lw_p57, List.forall_mem_cons.mpr ⟨lw_p58, List.forall_mem_cons.mpr ⟨lw_p59, List.forall_mem_cons.mpr ⟨lw_p60, List.forall_mem_cons.mpr ⟨lw_p61, List.forall_mem_cons.mpr ⟨lw_p62, List.forall_mem_cons.mpr ⟨lw_p63, fun _ h => absurd h List.not_mem_nil⟩⟩⟩⟩⟩⟩⟩⟩⟩⟩⟩⟩⟩⟩⟩⟩
theorem lw_p64 : lw_okq (⟨"PhrasePool$Ways", "bestCost", "()I"⟩, 5) := ⟨⟨by decide +kernel, by decide +kernel⟩, List.mem_of_getElem? (i := 113) (by decide +kernel), List.mem_of_getElem? (i := 533) (by decide +kernel), List.mem_of_getElem? (i := 534) (by decide +kernel)⟩
theorem lw_p65 : lw_okq (⟨"PhrasePool$Ways", "pieceAt", "(I)I"⟩, 5) := ⟨⟨by decide +kernel, by decide +kernel⟩, List.mem_of_getElem? (i := 113) (by decide +kernel), List.mem_of_getElem? (i := 541) (by decide +kernel), List.mem_of_getElem? (i := 542) (by decide +kernel)⟩
theorem lw_p66 : lw_okq (⟨"PhrasePool$Text", "append", "(I)I"⟩, 2) := ⟨⟨by decide +kernel, by decide +kernel⟩, List.mem_of_getElem? (i := 97) (by decide +kernel), List.mem_of_getElem? (i := 549) (by decide +kernel), List.mem_of_getElem? (i := 550) (by decide +kernel)⟩
theorem lw_p67 : lw_okq (⟨"PhrasePool$Text", "empty", "()I"⟩, 2) := ⟨⟨by decide +kernel, by decide +kernel⟩, List.mem_of_getElem? (i := 97) (by decide +kernel), List.mem_of_getElem? (i := 557) (by decide +kernel), List.mem_of_getElem? (i := 558) (by decide +kernel)⟩
theorem lw_p68 : lw_okq (⟨"PhrasePool$History", "restoreInto", "(LPhrasePool$State;)I"⟩, 3) := ⟨⟨by decide +kernel, by decide +kernel⟩, List.mem_of_getElem? (i := 79) (by decide +kernel), List.mem_of_getElem? (i := 570) (by decide +kernel), List.mem_of_getElem? (i := 571) (by decide +kernel)⟩
theorem lw_p69 : lw_okq (⟨"PhrasePool$State", "copyFrom", "([I)V"⟩, 5) := ⟨⟨by decide +kernel, by decide +kernel⟩, List.mem_of_getElem? (i := 20) (by decide +kernel), List.mem_of_getElem? (i := 574) (by decide +kernel), List.mem_of_getElem? (i := 575) (by decide +kernel)⟩
theorem lw_p70 : lw_okq (⟨"PhrasePool", "hashPhrase", "(JI)J"⟩, 5) := ⟨⟨by decide +kernel, by decide +kernel⟩, List.mem_of_getElem? (i := 12) (by decide +kernel), List.mem_of_getElem? (i := 584) (by decide +kernel), List.mem_of_getElem? (i := 585) (by decide +kernel)⟩
theorem lw_p71 : lw_okq (⟨"PhrasePoolModel", "records", "()V"⟩, 14) := ⟨⟨by decide +kernel, by decide +kernel⟩, List.mem_of_getElem? (i := 588) (by decide +kernel), List.mem_of_getElem? (i := 642) (by decide +kernel), List.mem_of_getElem? (i := 643) (by decide +kernel)⟩
theorem lw_p72 : lw_okq (⟨"PhrasePoolModel", "copies", "(II)V"⟩, 14) := ⟨⟨by decide +kernel, by decide +kernel⟩, List.mem_of_getElem? (i := 588) (by decide +kernel), List.mem_of_getElem? (i := 646) (by decide +kernel), List.mem_of_getElem? (i := 647) (by decide +kernel)⟩
theorem lw_p73 : lw_okq (⟨"PhrasePoolModel", "isMember", "(I)Z"⟩, 14) := ⟨⟨by decide +kernel, by decide +kernel⟩, List.mem_of_getElem? (i := 588) (by decide +kernel), List.mem_of_getElem? (i := 654) (by decide +kernel), List.mem_of_getElem? (i := 655) (by decide +kernel)⟩
theorem lw_p74 : lw_okq (⟨"PhrasePoolModel", "price", "(I)I"⟩, 14) := ⟨⟨by decide +kernel, by decide +kernel⟩, List.mem_of_getElem? (i := 588) (by decide +kernel), List.mem_of_getElem? (i := 663) (by decide +kernel), List.mem_of_getElem? (i := 664) (by decide +kernel)⟩
theorem lw_p75 : lw_okq (⟨"PhrasePoolModel", "counted", "(I)I"⟩, 14) := ⟨⟨by decide +kernel, by decide +kernel⟩, List.mem_of_getElem? (i := 588) (by decide +kernel), List.mem_of_getElem? (i := 675) (by decide +kernel), List.mem_of_getElem? (i := 676) (by decide +kernel)⟩
theorem lw_p76 : lw_okq (⟨"PhrasePoolModel", "live", "()I"⟩, 14) := ⟨⟨by decide +kernel, by decide +kernel⟩, List.mem_of_getElem? (i := 588) (by decide +kernel), List.mem_of_getElem? (i := 679) (by decide +kernel), List.mem_of_getElem? (i := 680) (by decide +kernel)⟩
theorem lw_p77 : lw_okq (⟨"PhrasePoolModel", "of", "(II)I"⟩, 14) := ⟨⟨by decide +kernel, by decide +kernel⟩, List.mem_of_getElem? (i := 588) (by decide +kernel), List.mem_of_getElem? (i := 683) (by decide +kernel), List.mem_of_getElem? (i := 684) (by decide +kernel)⟩
theorem lw_p78 : lw_okq (⟨"PhrasePoolModel", "paidBack", "()I"⟩, 14) := ⟨⟨by decide +kernel, by decide +kernel⟩, List.mem_of_getElem? (i := 588) (by decide +kernel), List.mem_of_getElem? (i := 687) (by decide +kernel), List.mem_of_getElem? (i := 688) (by decide +kernel)⟩
theorem lw_p79 : lw_okq (⟨"PhrasePoolModel", "ofNote", "(II)I"⟩, 14) := ⟨⟨by decide +kernel, by decide +kernel⟩, List.mem_of_getElem? (i := 588) (by decide +kernel), List.mem_of_getElem? (i := 691) (by decide +kernel), List.mem_of_getElem? (i := 692) (by decide +kernel)⟩
def lw_privs_5 : List (MethodName × Nat) := [(⟨"PhrasePool$Ways", "bestCost", "()I"⟩, 5), (⟨"PhrasePool$Ways", "pieceAt", "(I)I"⟩, 5), (⟨"PhrasePool$Text", "append", "(I)I"⟩, 2), (⟨"PhrasePool$Text", "empty", "()I"⟩, 2), (⟨"PhrasePool$History", "restoreInto", "(LPhrasePool$State;)I"⟩, 3), (⟨"PhrasePool$State", "copyFrom", "([I)V"⟩, 5), (⟨"PhrasePool", "hashPhrase", "(JI)J"⟩, 5), (⟨"PhrasePoolModel", "records", "()V"⟩, 14), (⟨"PhrasePoolModel", "copies", "(II)V"⟩, 14), (⟨"PhrasePoolModel", "isMember", "(I)Z"⟩, 14), (⟨"PhrasePoolModel", "price", "(I)I"⟩, 14), (⟨"PhrasePoolModel", "counted", "(I)I"⟩, 14), (⟨"PhrasePoolModel", "live", "()I"⟩, 14), (⟨"PhrasePoolModel", "of", "(II)I"⟩, 14), (⟨"PhrasePoolModel", "paidBack", "()I"⟩, 14), (⟨"PhrasePoolModel", "ofNote", "(II)I"⟩, 14)]
theorem lw_r5 : ∀ q ∈ lw_privs_5, lw_okq q := List.forall_mem_cons.mpr ⟨lw_p64, List.forall_mem_cons.mpr ⟨lw_p65, List.forall_mem_cons.mpr ⟨lw_p66, List.forall_mem_cons.mpr ⟨lw_p67, List.forall_mem_cons.mpr ⟨lw_p68, List.forall_mem_cons.mpr ⟨lw_p69, List.forall_mem_cons.mpr ⟨lw_p70, List.forall_mem_cons.mpr ⟨lw_p71, List.forall_mem_cons.mpr ⟨lw_p72, List.forall_mem_cons.mpr ⟨lw_p73, List.forall_mem_cons.mpr ⟨lw_p74, List.forall_mem_cons.mpr ⟨lw_p75, List.forall_mem_cons.mpr ⟨lw_p76, List.forall_mem_cons.mpr ⟨lw_p77, List.forall_mem_cons.mpr ⟨lw_p78, List.forall_mem_cons.mpr ⟨lw_p79, fun _ h => absurd h List.not_mem_nil⟩⟩⟩⟩⟩⟩⟩⟩⟩⟩⟩⟩⟩⟩⟩⟩
theorem lw_p80 : lw_okq (⟨"PhrasePoolModel", "allConflicts", "()I"⟩, 14) := ⟨⟨by decide +kernel, by decide +kernel⟩, List.mem_of_getElem? (i := 588) (by decide +kernel), List.mem_of_getElem? (i := 695) (by decide +kernel), List.mem_of_getElem? (i := 696) (by decide +kernel)⟩
theorem lw_p81 : lw_okq (⟨"PhrasePoolModel", "conflicts", "(I)I"⟩, 14) := ⟨⟨by decide +kernel, by decide +kernel⟩, List.mem_of_getElem? (i := 588) (by decide +kernel), List.mem_of_getElem? (i := 699) (by decide +kernel), List.mem_of_getElem? (i := 700) (by decide +kernel)⟩
theorem lw_p82 : lw_okq (⟨"PhrasePoolModel", "areInConflict", "(II)Z"⟩, 14) := ⟨⟨by decide +kernel, by decide +kernel⟩, List.mem_of_getElem? (i := 588) (by decide +kernel), List.mem_of_getElem? (i := 703) (by decide +kernel), List.mem_of_getElem? (i := 704) (by decide +kernel)⟩
theorem lw_p83 : lw_okq (⟨"PhrasePoolModel", "scoreOf", "(II)I"⟩, 14) := ⟨⟨by decide +kernel, by decide +kernel⟩, List.mem_of_getElem? (i := 588) (by decide +kernel), List.mem_of_getElem? (i := 707) (by decide +kernel), List.mem_of_getElem? (i := 708) (by decide +kernel)⟩
theorem lw_p84 : lw_okq (⟨"PhrasePoolModel", "setsOne", "(I)V"⟩, 14) := ⟨⟨by decide +kernel, by decide +kernel⟩, List.mem_of_getElem? (i := 588) (by decide +kernel), List.mem_of_getElem? (i := 711) (by decide +kernel), List.mem_of_getElem? (i := 712) (by decide +kernel)⟩
theorem lw_p85 : lw_okq (⟨"PhrasePoolModel", "setsOther", "(I)V"⟩, 14) := ⟨⟨by decide +kernel, by decide +kernel⟩, List.mem_of_getElem? (i := 588) (by decide +kernel), List.mem_of_getElem? (i := 715) (by decide +kernel), List.mem_of_getElem? (i := 716) (by decide +kernel)⟩
theorem lw_p86 : lw_okq (⟨"PhrasePoolModel", "scoreNow", "()I"⟩, 14) := ⟨⟨by decide +kernel, by decide +kernel⟩, List.mem_of_getElem? (i := 588) (by decide +kernel), List.mem_of_getElem? (i := 719) (by decide +kernel), List.mem_of_getElem? (i := 720) (by decide +kernel)⟩
theorem lw_p87 : lw_okq (⟨"PhrasePoolModel", "memberNow", "(II)I"⟩, 14) := ⟨⟨by decide +kernel, by decide +kernel⟩, List.mem_of_getElem? (i := 588) (by decide +kernel), List.mem_of_getElem? (i := 730) (by decide +kernel), List.mem_of_getElem? (i := 731) (by decide +kernel)⟩
theorem lw_p88 : lw_okq (⟨"PhrasePoolModel", "isPhrase", "(I)Z"⟩, 14) := ⟨⟨by decide +kernel, by decide +kernel⟩, List.mem_of_getElem? (i := 588) (by decide +kernel), List.mem_of_getElem? (i := 739) (by decide +kernel), List.mem_of_getElem? (i := 740) (by decide +kernel)⟩
theorem lw_p89 : lw_okq (⟨"PhrasePoolModel", "setsText", "()V"⟩, 14) := ⟨⟨by decide +kernel, by decide +kernel⟩, List.mem_of_getElem? (i := 588) (by decide +kernel), List.mem_of_getElem? (i := 748) (by decide +kernel), List.mem_of_getElem? (i := 749) (by decide +kernel)⟩
theorem lw_p90 : lw_okq (⟨"PhrasePoolModel", "gives", "(II)Z"⟩, 14) := ⟨⟨by decide +kernel, by decide +kernel⟩, List.mem_of_getElem? (i := 588) (by decide +kernel), List.mem_of_getElem? (i := 768) (by decide +kernel), List.mem_of_getElem? (i := 769) (by decide +kernel)⟩
theorem lw_p91 : lw_okq (⟨"PhrasePoolModel", "textScore", "(I)I"⟩, 14) := ⟨⟨by decide +kernel, by decide +kernel⟩, List.mem_of_getElem? (i := 588) (by decide +kernel), List.mem_of_getElem? (i := 772) (by decide +kernel), List.mem_of_getElem? (i := 773) (by decide +kernel)⟩
theorem lw_p92 : lw_okq (⟨"PhrasePoolModel", "found", "()I"⟩, 14) := ⟨⟨by decide +kernel, by decide +kernel⟩, List.mem_of_getElem? (i := 588) (by decide +kernel), List.mem_of_getElem? (i := 780) (by decide +kernel), List.mem_of_getElem? (i := 781) (by decide +kernel)⟩
theorem lw_p93 : lw_okq (⟨"PhrasePoolModel", "feeOf", "(III)I"⟩, 14) := ⟨⟨by decide +kernel, by decide +kernel⟩, List.mem_of_getElem? (i := 588) (by decide +kernel), List.mem_of_getElem? (i := 792) (by decide +kernel), List.mem_of_getElem? (i := 793) (by decide +kernel)⟩
theorem lw_p94 : lw_okq (⟨"PhrasePoolModel", "pays", "(II)V"⟩, 14) := ⟨⟨by decide +kernel, by decide +kernel⟩, List.mem_of_getElem? (i := 588) (by decide +kernel), List.mem_of_getElem? (i := 800) (by decide +kernel), List.mem_of_getElem? (i := 801) (by decide +kernel)⟩
theorem lw_p95 : lw_okq (⟨"PhrasePoolModel", "ends", "(I)I"⟩, 14) := ⟨⟨by decide +kernel, by decide +kernel⟩, List.mem_of_getElem? (i := 588) (by decide +kernel), List.mem_of_getElem? (i := 812) (by decide +kernel), List.mem_of_getElem? (i := 813) (by decide +kernel)⟩
def lw_privs_6 : List (MethodName × Nat) := [(⟨"PhrasePoolModel", "allConflicts", "()I"⟩, 14), (⟨"PhrasePoolModel", "conflicts", "(I)I"⟩, 14), (⟨"PhrasePoolModel", "areInConflict", "(II)Z"⟩, 14), (⟨"PhrasePoolModel", "scoreOf", "(II)I"⟩, 14), (⟨"PhrasePoolModel", "setsOne", "(I)V"⟩, 14), (⟨"PhrasePoolModel", "setsOther", "(I)V"⟩, 14), (⟨"PhrasePoolModel", "scoreNow", "()I"⟩, 14), (⟨"PhrasePoolModel", "memberNow", "(II)I"⟩, 14), (⟨"PhrasePoolModel", "isPhrase", "(I)Z"⟩, 14), (⟨"PhrasePoolModel", "setsText", "()V"⟩, 14), (⟨"PhrasePoolModel", "gives", "(II)Z"⟩, 14), (⟨"PhrasePoolModel", "textScore", "(I)I"⟩, 14), (⟨"PhrasePoolModel", "found", "()I"⟩, 14), (⟨"PhrasePoolModel", "feeOf", "(III)I"⟩, 14), (⟨"PhrasePoolModel", "pays", "(II)V"⟩, 14), (⟨"PhrasePoolModel", "ends", "(I)I"⟩, 14)]
theorem lw_r6 : ∀ q ∈ lw_privs_6, lw_okq q := List.forall_mem_cons.mpr ⟨lw_p80, List.forall_mem_cons.mpr ⟨lw_p81, List.forall_mem_cons.mpr ⟨lw_p82, List.forall_mem_cons.mpr ⟨lw_p83, List.forall_mem_cons.mpr ⟨lw_p84, List.forall_mem_cons.mpr ⟨lw_p85, List.forall_mem_cons.mpr ⟨lw_p86, List.forall_mem_cons.mpr ⟨lw_p87, List.forall_mem_cons.mpr ⟨lw_p88, List.forall_mem_cons.mpr ⟨lw_p89, List.forall_mem_cons.mpr ⟨lw_p90, List.forall_mem_cons.mpr ⟨lw_p91, List.forall_mem_cons.mpr ⟨lw_p92, List.forall_mem_cons.mpr ⟨lw_p93, List.forall_mem_cons.mpr ⟨lw_p94, List.forall_mem_cons.mpr ⟨lw_p95, fun _ h => absurd h List.not_mem_nil⟩⟩⟩⟩⟩⟩⟩⟩⟩⟩⟩⟩⟩⟩⟩⟩
theorem lw_p96 : lw_okq (⟨"PhrasePoolModel", "goesBack", "(I)Z"⟩, 14) := ⟨⟨by decide +kernel, by decide +kernel⟩, List.mem_of_getElem? (i := 588) (by decide +kernel), List.mem_of_getElem? (i := 816) (by decide +kernel), List.mem_of_getElem? (i := 817) (by decide +kernel)⟩
theorem lw_p97 : lw_okq (⟨"PhrasePoolModel", "composes", "(I)V"⟩, 14) := ⟨⟨by decide +kernel, by decide +kernel⟩, List.mem_of_getElem? (i := 588) (by decide +kernel), List.mem_of_getElem? (i := 832) (by decide +kernel), List.mem_of_getElem? (i := 833) (by decide +kernel)⟩
theorem lw_p98 : lw_okq (⟨"PhrasePoolModel", "standsAt", "(II)Z"⟩, 14) := ⟨⟨by decide +kernel, by decide +kernel⟩, List.mem_of_getElem? (i := 588) (by decide +kernel), List.mem_of_getElem? (i := 836) (by decide +kernel), List.mem_of_getElem? (i := 837) (by decide +kernel)⟩
theorem lw_p99 : lw_okq (⟨"PhrasePoolModel", "adds", "(J)V"⟩, 14) := ⟨⟨by decide +kernel, by decide +kernel⟩, List.mem_of_getElem? (i := 588) (by decide +kernel), List.mem_of_getElem? (i := 862) (by decide +kernel), List.mem_of_getElem? (i := 863) (by decide +kernel)⟩
def lw_privs_7 : List (MethodName × Nat) := [(⟨"PhrasePoolModel", "goesBack", "(I)Z"⟩, 14), (⟨"PhrasePoolModel", "composes", "(I)V"⟩, 14), (⟨"PhrasePoolModel", "standsAt", "(II)Z"⟩, 14), (⟨"PhrasePoolModel", "adds", "(J)V"⟩, 14)]
theorem lw_r7 : ∀ q ∈ lw_privs_7, lw_okq q := List.forall_mem_cons.mpr ⟨lw_p96, List.forall_mem_cons.mpr ⟨lw_p97, List.forall_mem_cons.mpr ⟨lw_p98, List.forall_mem_cons.mpr ⟨lw_p99, fun _ h => absurd h List.not_mem_nil⟩⟩⟩⟩
def lw_privs : List (MethodName × Nat) := lw_privs_1 ++ (lw_privs_2 ++ (lw_privs_3 ++ (lw_privs_4 ++ (lw_privs_5 ++ (lw_privs_6 ++ (lw_privs_7))))))
def lw_tbl : List Cond := k2_sels lw_privs ++ tables_1
theorem lw_privs_ok : ∀ q ∈ lw_privs, lw_okq q := by
  show ∀ q ∈ lw_privs_1 ++ (lw_privs_2 ++ (lw_privs_3 ++ (lw_privs_4 ++ (lw_privs_5 ++ (lw_privs_6 ++ (lw_privs_7)))))), lw_okq q
  exact List.forall_mem_append.mpr ⟨lw_r1, List.forall_mem_append.mpr ⟨lw_r2, List.forall_mem_append.mpr ⟨lw_r3, List.forall_mem_append.mpr ⟨lw_r4, List.forall_mem_append.mpr ⟨lw_r5, List.forall_mem_append.mpr ⟨lw_r6, lw_r7⟩⟩⟩⟩⟩⟩
-- ===== end of PART A; names: by program out of claim/NAMES.whole.lean.txt =====
/-! ===== BEGIN new T[n][m]: the outer array a place, the inner ones among the pooled ===== -/
/-- f, but v at every address of l -/
def vr_up {α : Type} (f : Nat → α) (l : List Nat) (v : α) : Nat → α := fun a => if a ∈ l then v else f a
theorem vr_up_in {α : Type} {f : Nat → α} {l : List Nat} {v : α} {a : Nat} (h : a ∈ l) : vr_up f l v a = v := if_pos h
theorem vr_up_ne {α : Type} {f : Nat → α} {l : List Nat} {v : α} {a : Nat} (h : a ∉ l) : vr_up f l v a = f a := if_neg h
theorem vr_rows {L l : List Nat} {f : Nat → va_E} {e : va_E} (h : ∀ a, a ∈ l → a ∉ L) : va_pl L f ++ l.map (fun a => (a, e)) = va_pl (L ++ l) (vr_up f l e) := by
  unfold va_pl
  rw [List.map_append]
  congr 1
  · apply List.map_congr_left
    intro a ha
    rw [vr_up_ne (fun q => h a q ha)]
  · apply List.map_congr_left
    intro a ha
    rw [vr_up_in ha]
theorem vr_lay {X rows : va_W} {x : Nat × va_E} {pl : va_W} {D : va_G} {cl : List vw_C} {H : Heap} (hP : va_P D cl (((X ++ pl) ++ [x]) ++ rows) H) : va_P D cl ((X ++ [x]) ++ (pl ++ rows)) H := by
  rw [List.append_assoc (X ++ pl)] at hP
  have h := va_P.swap hP
  rw [← List.append_assoc X] at h
  have h2 := va_P.swap h
  rw [List.append_assoc (X ++ [x])] at h2
  exact h2
theorem vr_layD {X rows : va_W} {x : Nat × va_E} {pl : va_W} {A : Nat → Prop} (hD : va_D A (((X ++ pl) ++ [x]) ++ rows)) : va_D A ((X ++ [x]) ++ (pl ++ rows)) := by
  rw [List.append_assoc (X ++ pl)] at hD
  have h := va_D.swap hD
  rw [← List.append_assoc X] at h
  have h2 := va_D.swap h
  rw [List.append_assoc (X ++ [x])] at h2
  exact h2
theorem vr_outer (c : ClassId) (N h0 : Nat) : ∀ i : Nat, Jvm.Free.Multi.outerC c N h0 i = arrV c N (fun j => va_rf (if j < i then some (h0 + 1 + j) else none))
  | 0 => by
    show ({ cls := c, slots := Array.replicate N .null, vm := .none } : Cell) = _
    rw [arrV_new]
    refine congrArg (arrV c N) (funext fun j => ?_)
    simp [va_rf]
  | i + 1 => by
    show (Jvm.Free.Multi.outerC c N h0 i).setSlot i (.ref (h0 + 1 + i)) = _
    rw [vr_outer c N h0 i, arrV_store]
    refine congrArg (arrV c N) (funext fun j => ?_)
    by_cases e : j = i
    · subst e
      simp [updV, va_rf]
    · by_cases h : j < i
      · simp [updV, e, h, Nat.lt_succ_of_lt h]
      · simp [updV, e, h, show ¬ j < i + 1 by omega]
section VGM
variable {p : Program} {l : Launch} {e : Env} {R : Room} {s : State} {m : MethodId} {args : Array Value} {below : List Frame} {meth : Method} {c : Code} {H : Heap} {locs : List Loc} {cells slots : Nat} {Q : State → Prop}
variable {cc : ByteArray} {pc : Nat} {ls : Array Slot} {rest : List Value} {D : va_G} {cl : List vw_C} {A : Nat → Prop} {a : Nat} {tys : List (ClassId × FieldType)} {ws : va_W} {H0 : Heap}
theorem va_mna {X : va_W} {L : List Nat} {f : Nat → va_E} {cc : ByteArray} (hexec : p.tables.exec = Jvm.exec) (hb : c.code = cc) {own : String} {index : Nat} {ty : FieldType} {cy : ClassId} (hown : s.vm.findClass own = some m.cls) (hclink : (Cond.classLink own index ("[" ++ (FieldType.array ty).toString)).before args s = true) (hover : (Cond.arrayOver (.array ty)).before args s = true) (harr : (Cond.arrayClass ty).before args s = true) (hcy : s.vm.findClass (FieldType.array ty).toString = some cy)
    (hK : va_K D cl tys s) (hP : va_P D cl (X ++ va_pl L f) H) (hD : va_D A (X ++ va_pl L f)) (hS : va_S A H0 H locs) (hA : ∀ q, H0.size ≤ q → A q) {n k : Int32} {N' K' : Nat} {z : vp_A} (hn : ¬ n < 0) (hk : ¬ k < 0) (hN : n.toNatClampNeg = N') (hM : k.toNatClampNeg = K')
    (hb1 : N' * 4 ≤ 536870912) (hb2 : K' * componentBytes ty ≤ 536870912) (hb3 : K' ≤ 536870912) (hdf : fits ty (defaultValue ty) = true) (hdd : (defaultValue ty).isDefault = true) (hcells : cells + (1 + N') ≤ R.cells) (hslots : slots + (N' + N' * K') ≤ R.slots) (hz : ∀ c : ClassId, Jvm.Free.Multi.innerC c K' (defaultValue ty) = vp_cell c z) (hdg : decode cc pc = .ok (.multianewarray index 2, 4))
    (kk : ∀ (q : Nat) (r : Nat → Nat) (cA : ClassId) (H1 : Heap), (∀ i j : Nat, i < N' → j < N' → r i = r j → i = j) → (∀ i : Nat, i < N' → r i ∉ L) → va_K D cl (tys ++ [(cA, .array ty)]) s →
      va_P D cl ((X ++ [(q, .inl (cA, N', .inr (.inr (.inr (.inr (fun i => if i < N' then some (r i) else none))))))]) ++ va_pl (L ++ (List.range N').map r) (vr_up f ((List.range N').map r) (.inl (cy, z)))) H1 → va_D A ((X ++ [(q, .inl (cA, N', .inr (.inr (.inr (.inr (fun i => if i < N' then some (r i) else none))))))]) ++ va_pl (L ++ (List.range N').map r) (vr_up f ((List.range N').map r) (.inl (cy, z)))) → va_S A H0 H1 locs →
      W p l e R s m args below meth c H1 locs (cells + 1 + N') (slots + N' + N' * K') Q (F0 m (pc + 4) ls (.ref q :: rest))) : W p l e R s m args below meth c H locs cells slots Q (F0 m pc ls (.int k :: .int n :: rest)) := by
  subst hN
  subst hM
  intro T hT Xs
  obtain ⟨vm₁, cA, comp, -, fA, fC, hO, -, X', step⟩ := Xs.multianewarray2F hexec hown hclink hover harr (g := F0 m pc ls (.int k :: .int n :: rest)) rfl (by rw [hb]; exact hdg) rfl hn hk hb1 hb2 hb3 hdf hdd hcells hslots
  have ec : some cy = some comp := hcy.symm.trans fC
  cases ec
  generalize hF : Jvm.Free.Multi.fill (T.setVm vm₁) cA cy n.toNatClampNeg k.toNatClampNeg (defaultValue ty) n.toNatClampNeg = F at X' step
  have hTh : (T.setVm vm₁).heap = H := hT
  obtain ⟨f1, f2, -, -⟩ := Jvm.Free.Multi.fill_facts (T.setVm vm₁) cA cy n.toNatClampNeg k.toNatClampNeg (defaultValue ty) n.toNatClampNeg
  rw [hF, hTh] at f1 f2
  have hold : ∀ x : Nat, x < H.size → F.heap[x]? = H[x]? := fun x hx => by
    have := Jvm.Free.Multi.fill_old (T.setVm vm₁) cA cy n.toNatClampNeg k.toNatClampNeg (defaultValue ty) (a := x) (by rw [hTh]; exact hx) n.toNatClampNeg
    rw [hF, hTh] at this
    exact this
  have hrow : ∀ j : Nat, j < n.toNatClampNeg → F.heap[H.size + 1 + j]? = some (vp_cell cy z) := fun j hj => by
    have := Jvm.Free.Multi.fill_inner (T.setVm vm₁) cA cy n.toNatClampNeg k.toNatClampNeg (defaultValue ty) n.toNatClampNeg j hj
    rw [hF, hTh, hz] at this
    exact this
  have hout : Jvm.Free.Multi.outerC cA n.toNatClampNeg H.size n.toNatClampNeg = vp_cell cA (n.toNatClampNeg, .inr (.inr (.inr (.inr (fun i => if i < n.toNatClampNeg then some (H.size + 1 + i) else none))))) := by
    rw [vp_cell_q]
    exact vr_outer cA n.toNatClampNeg H.size n.toNatClampNeg
  rw [hout] at f2
  have hlt : ∀ a, a ∈ L → a < H.size := fun a ha => by
    obtain ⟨k9, hk9⟩ := va_pl_get (X := X) (f := f) ha
    exact (hP k9 _ hk9).lt
  have hnl : ∀ i : Nat, i < n.toNatClampNeg → H.size + 1 + i ∉ L := fun i _ h => by
    have := hlt _ h
    omega
  have hnm : ∀ a, a ∈ (List.range n.toNatClampNeg).map (fun i => H.size + 1 + i) → a ∉ L := fun a ha h => by
    obtain ⟨i, -, rfl⟩ := List.mem_map.mp ha
    have := hlt _ h
    omega
  have hP0 : va_P D cl (X ++ va_pl L f) F.heap := hP.kept (fun k9 x hx => hold x.1 ((hP k9 x hx).lt))
  have hP1 : va_P D cl ((X ++ va_pl L f) ++ [(H.size, .inl (cA, n.toNatClampNeg, .inr (.inr (.inr (.inr (fun i => if i < n.toNatClampNeg then some (H.size + 1 + i) else none))))))]) F.heap := hP0.app (fun k9 x hx => by
    have h0 : k9 < 1 := (List.getElem?_eq_some_iff.mp hx).1
    rw [show k9 = 0 by omega] at hx
    cases hx
    exact f2)
  have hP2 : va_P D cl (((X ++ va_pl L f) ++ [(H.size, .inl (cA, n.toNatClampNeg, .inr (.inr (.inr (.inr (fun i => if i < n.toNatClampNeg then some (H.size + 1 + i) else none))))))]) ++ ((List.range n.toNatClampNeg).map (fun i => H.size + 1 + i)).map (fun a => (a, .inl (cy, z)))) F.heap := hP1.app (fun k9 x hx => by
    obtain ⟨a, ha, rfl⟩ := List.mem_map.mp (List.mem_of_getElem? hx)
    obtain ⟨i, hi, rfl⟩ := List.mem_map.mp ha
    exact hrow i (List.mem_range.mp hi))
  have hD2 : va_D A (((X ++ va_pl L f) ++ [(H.size, .inl (cA, n.toNatClampNeg, .inr (.inr (.inr (.inr (fun i => if i < n.toNatClampNeg then some (H.size + 1 + i) else none))))))]) ++ ((List.range n.toNatClampNeg).map (fun i => H.size + 1 + i)).map (fun a => (a, .inl (cy, z)))) := by
    have hD1 := hD.push (e := .inl (cA, n.toNatClampNeg, .inr (.inr (.inr (.inr (fun i => if i < n.toNatClampNeg then some (H.size + 1 + i) else none)))))) hP rfl (hA _ hS.1)
    generalize hW1 : (X ++ va_pl L f) ++ [(H.size, .inl (cA, n.toNatClampNeg, .inr (.inr (.inr (.inr (fun i => if i < n.toNatClampNeg then some (H.size + 1 + i) else none))))))] = W1 at hD1 hP1 ⊢
    have hle : ∀ (k9 : Nat) (x : Nat × va_E), W1[k9]? = some x → x.1 ≤ H.size := fun k9 x hx => by
      rw [← hW1] at hx
      by_cases hl : k9 < (X ++ va_pl L f).length
      · rw [List.getElem?_append_left hl] at hx
        exact Nat.le_of_lt ((hP k9 x hx).lt)
      · rw [List.getElem?_append_right (by omega)] at hx
        have h0 : k9 - (X ++ va_pl L f).length < 1 := (List.getElem?_eq_some_iff.mp hx).1
        rw [show k9 - (X ++ va_pl L f).length = 0 by omega] at hx
        cases hx
        exact Nat.le_refl _
    have hr : ∀ (k9 : Nat) (x : Nat × va_E), (((List.range n.toNatClampNeg).map (fun i => H.size + 1 + i)).map (fun a => ((a, .inl (cy, z)) : Nat × va_E)))[k9]? = some x → x.1 = H.size + 1 + k9 := fun k9 x hx => by
      rw [List.getElem?_map, List.getElem?_map] at hx
      by_cases h9 : k9 < n.toNatClampNeg
      · rw [List.getElem?_range h9] at hx
        cases hx
        rfl
      · have hn0 : (List.range n.toNatClampNeg)[k9]? = none := List.getElem?_eq_none (by rw [List.length_range]; omega)
        rw [hn0] at hx
        cases hx
    refine ⟨fun i j x y hi hj hxy => ?_, fun k9 x hx => ?_⟩
    · by_cases h1 : i < W1.length <;> by_cases h2 : j < W1.length
      · rw [List.getElem?_append_left h1] at hi
        rw [List.getElem?_append_left h2] at hj
        exact hD1.1 i j x y hi hj hxy
      · rw [List.getElem?_append_left h1] at hi
        rw [List.getElem?_append_right (by omega)] at hj
        have := hle _ _ hi
        have := hr _ _ hj
        omega
      · rw [List.getElem?_append_right (by omega)] at hi
        rw [List.getElem?_append_left h2] at hj
        have := hle _ _ hj
        have := hr _ _ hi
        omega
      · rw [List.getElem?_append_right (by omega)] at hi hj
        have := hr _ _ hi
        have := hr _ _ hj
        omega
    · by_cases h1 : k9 < W1.length
      · rw [List.getElem?_append_left h1] at hx
        exact hD1.2 k9 x hx
      · rw [List.getElem?_append_right (by omega)] at hx
        have := hr _ _ hx
        exact hA _ (by have := hS.1; omega)
  have hAr : ArrOfT s cA (.array ty) := fun N9 z9 => by
    obtain ⟨-, k9, hk9, cm9, hkk9⟩ := (hO 0 0 0).1
    exact ⟨(fun q hq => by cases hq), k9, hk9, cm9, hkk9⟩
  have hK2 : va_K D cl (tys ++ [(cA, .array ty)]) s := ⟨hK.1, fun k9 x hx => by
    by_cases hl : k9 < tys.length
    · rw [List.getElem?_append_left hl] at hx
      exact hK.2 k9 x hx
    · rw [List.getElem?_append_right (by omega)] at hx
      have h0 : k9 - tys.length < 1 := (List.getElem?_eq_some_iff.mp hx).1
      rw [show k9 - tys.length = 0 by omega] at hx
      cases hx
      exact ⟨hAr, fA⟩⟩
  obtain ⟨t, a1, b1⟩ := kk H.size (fun i => H.size + 1 + i) cA F.heap (fun i j _ _ h => by have h9 : H.size + 1 + i = H.size + 1 + j := h; omega) hnl hK2 (by rw [← vr_rows hnm]; exact vr_lay hP2) (by rw [← vr_rows hnm]; exact vr_layD hD2) ⟨by rw [f1]; have := hS.1; omega, fun x h1 h2 => (hold x (Nat.lt_of_lt_of_le h1 hS.1)).trans (hS.2.1 x h1 h2), hS.2.2⟩ F rfl X'
  refine ⟨t, step t ?_, b1⟩
  have e : T.heap.size = H.size := by rw [hT]
  rw [e]
  exact a1
end VGM
def RX0 : String := "PhrasePool$History"
def TX0 : u_T := fun k => match k with
  | 0 => ("PhrasePool$History", "rows", "[[I", true)
  | 1 => ("PhrasePool$History", "next", "I", false)
  | _ => ("PhrasePool$History", "size", "I", false)
def tyX0 : Nat → FieldType := fun k => match k with
  | 0 => .array (.array .int)
  | 1 => .int
  | _ => .int
abbrev wsX00 : List Cond := u_ws RX0 TX0 3
theorem nmX0 : ∀ a, a < 3 → ∀ b, b < 3 → a ≠ b → (TX0 a).2.1 ≠ (TX0 b).2.1 := by decide +kernel
theorem tyX0_ok : ∀ k, k < 3 → parseFieldDescriptor (TX0 k).2.2.1 = some (tyX0 k) := by decide +kernel
abbrev cX0_init : ByteArray := prog_2_method_1_code
def yX0_init : MethodName := ⟨RX0, "<init>", "()V"⟩
abbrev cX0_keep : ByteArray := prog_2_method_2_code
def yX0_keep : MethodName := ⟨RX0, "keep", "(LPhrasePool$State;)V"⟩
abbrev cX0_restoreInto : ByteArray := prog_2_method_3_code
def yX0_restoreInto : MethodName := ⟨RX0, "restoreInto", "(LPhrasePool$State;)I"⟩
def RX1 : String := "PhrasePool$Sentence"
def TX1 : u_T := fun k => match k with
  | 0 => ("PhrasePool$Sentence", "words", "[I", true)
  | _ => ("PhrasePool$Sentence", "length", "I", false)
def tyX1 : Nat → FieldType := fun k => match k with
  | 0 => .array .int
  | _ => .int
abbrev wsX10 : List Cond := u_ws RX1 TX1 2
theorem nmX1 : ∀ a, a < 2 → ∀ b, b < 2 → a ≠ b → (TX1 a).2.1 ≠ (TX1 b).2.1 := by decide +kernel
theorem tyX1_ok : ∀ k, k < 2 → parseFieldDescriptor (TX1 k).2.2.1 = some (tyX1 k) := by decide +kernel
abbrev cX1_init : ByteArray := prog_3_method_1_code
def yX1_init : MethodName := ⟨RX1, "<init>", "()V"⟩
abbrev cX1_clear : ByteArray := prog_3_method_2_code
def yX1_clear : MethodName := ⟨RX1, "clear", "()V"⟩
abbrev cX1_append : ByteArray := prog_3_method_3_code
def yX1_append : MethodName := ⟨RX1, "append", "(I)V"⟩
def RX2 : String := "PhrasePool$State"
def TX2 : u_T := fun k => match k with
  | 0 => ("PhrasePool$State", "cells", "[I", true)
  | 1 => ("PhrasePool$State", "marked", "[Z", true)
  | 2 => ("PhrasePool$State", "one", "LPhrasePool$Sentence;", true)
  | 3 => ("PhrasePool$State", "other", "LPhrasePool$Sentence;", true)
  | _ => ("PhrasePool$State", "yardstick", "LPhrasePool$Yardstick;", true)
def tyX2 : Nat → FieldType := fun k => match k with
  | 0 => .array .int
  | 1 => .array .boolean
  | 2 => .object "PhrasePool$Sentence"
  | 3 => .object "PhrasePool$Sentence"
  | _ => .object "PhrasePool$Yardstick"
abbrev wsX20 : List Cond := u_ws RX2 TX2 5
theorem nmX2 : ∀ a, a < 5 → ∀ b, b < 5 → a ≠ b → (TX2 a).2.1 ≠ (TX2 b).2.1 := by decide +kernel
theorem tyX2_ok : ∀ k, k < 5 → parseFieldDescriptor (TX2 k).2.2.1 = some (tyX2 k) := by decide +kernel
abbrev cX2_init : ByteArray := prog_4_method_1_code
def yX2_init : MethodName := ⟨RX2, "<init>", "()V"⟩
abbrev cX2_copyTo : ByteArray := prog_4_method_2_code
def yX2_copyTo : MethodName := ⟨RX2, "copyTo", "([I)V"⟩
abbrev cX2_copyFrom : ByteArray := prog_4_method_3_code
def yX2_copyFrom : MethodName := ⟨RX2, "copyFrom", "([I)V"⟩
abbrev cX2_memberCell : ByteArray := prog_4_method_4_code
def yX2_memberCell : MethodName := ⟨RX2, "memberCell", "(II)I"⟩
abbrev cX2_phraseCell : ByteArray := prog_4_method_5_code
def yX2_phraseCell : MethodName := ⟨RX2, "phraseCell", "(II)I"⟩
abbrev cX2_noteCell : ByteArray := prog_4_method_6_code
def yX2_noteCell : MethodName := ⟨RX2, "noteCell", "(II)I"⟩
abbrev cX2_members : ByteArray := prog_4_method_7_code
def yX2_members : MethodName := ⟨RX2, "members", "()I"⟩
abbrev cX2_phrases : ByteArray := prog_4_method_8_code
def yX2_phrases : MethodName := ⟨RX2, "phrases", "()I"⟩
abbrev cX2_notes : ByteArray := prog_4_method_9_code
def yX2_notes : MethodName := ⟨RX2, "notes", "()I"⟩
abbrev cX2_tick : ByteArray := prog_4_method_10_code
def yX2_tick : MethodName := ⟨RX2, "tick", "()I"⟩
abbrev cX2_hasMember : ByteArray := prog_4_method_11_code
def yX2_hasMember : MethodName := ⟨RX2, "hasMember", "(I)Z"⟩
abbrev cX2_hasPhrase : ByteArray := prog_4_method_12_code
def yX2_hasPhrase : MethodName := ⟨RX2, "hasPhrase", "(I)Z"⟩
abbrev cX2_hasNote : ByteArray := prog_4_method_13_code
def yX2_hasNote : MethodName := ⟨RX2, "hasNote", "(I)Z"⟩
abbrev cX2_settingOf : ByteArray := prog_4_method_14_code
def yX2_settingOf : MethodName := ⟨RX2, "settingOf", "(I)I"⟩
abbrev cX2_changeSetting : ByteArray := prog_4_method_15_code
def yX2_changeSetting : MethodName := ⟨RX2, "changeSetting", "(II)V"⟩
abbrev cX2_moveTick : ByteArray := prog_4_method_16_code
def yX2_moveTick : MethodName := ⟨RX2, "moveTick", "(I)I"⟩
abbrev cX2_startMember : ByteArray := prog_4_method_17_code
def yX2_startMember : MethodName := ⟨RX2, "startMember", "()I"⟩
abbrev cX2_priceOf : ByteArray := prog_4_method_18_code
def yX2_priceOf : MethodName := ⟨RX2, "priceOf", "(I)I"⟩
abbrev cX2_changePrice : ByteArray := prog_4_method_19_code
def yX2_changePrice : MethodName := ⟨RX2, "changePrice", "(II)V"⟩
abbrev cX2_memberProperty : ByteArray := prog_4_method_20_code
def yX2_memberProperty : MethodName := ⟨RX2, "memberProperty", "(II)I"⟩
abbrev cX2_countOwned : ByteArray := prog_4_method_21_code
def yX2_countOwned : MethodName := ⟨RX2, "countOwned", "(I)I"⟩
abbrev cX2_countUsesNoted : ByteArray := prog_4_method_22_code
def yX2_countUsesNoted : MethodName := ⟨RX2, "countUsesNoted", "(I)I"⟩
abbrev cX2_sumGot : ByteArray := prog_4_method_23_code
def yX2_sumGot : MethodName := ⟨RX2, "sumGot", "(I)I"⟩
abbrev cX2_countOf : ByteArray := prog_4_method_24_code
def yX2_countOf : MethodName := ⟨RX2, "countOf", "(I)I"⟩
abbrev cX2_countLive : ByteArray := prog_4_method_25_code
def yX2_countLive : MethodName := ⟨RX2, "countLive", "()I"⟩
abbrev cX2_countPaidBack : ByteArray := prog_4_method_26_code
def yX2_countPaidBack : MethodName := ⟨RX2, "countPaidBack", "()I"⟩
abbrev cX2_countConflicts : ByteArray := prog_4_method_27_code
def yX2_countConflicts : MethodName := ⟨RX2, "countConflicts", "()I"⟩
abbrev cX2_startPhrase : ByteArray := prog_4_method_28_code
def yX2_startPhrase : MethodName := ⟨RX2, "startPhrase", "(IIILPhrasePool$Sentence;)I"⟩
abbrev cX2_phraseProperty : ByteArray := prog_4_method_29_code
def yX2_phraseProperty : MethodName := ⟨RX2, "phraseProperty", "(II)I"⟩
abbrev cX2_ownerOf : ByteArray := prog_4_method_30_code
def yX2_ownerOf : MethodName := ⟨RX2, "ownerOf", "(I)I"⟩
abbrev cX2_lengthOf : ByteArray := prog_4_method_31_code
def yX2_lengthOf : MethodName := ⟨RX2, "lengthOf", "(I)I"⟩
abbrev cX2_targetOf : ByteArray := prog_4_method_32_code
def yX2_targetOf : MethodName := ⟨RX2, "targetOf", "(I)I"⟩
abbrev cX2_parentOf : ByteArray := prog_4_method_33_code
def yX2_parentOf : MethodName := ⟨RX2, "parentOf", "(I)I"⟩
abbrev cX2_isLive : ByteArray := prog_4_method_34_code
def yX2_isLive : MethodName := ⟨RX2, "isLive", "(I)Z"⟩
abbrev cX2_usesOf : ByteArray := prog_4_method_35_code
def yX2_usesOf : MethodName := ⟨RX2, "usesOf", "(I)I"⟩
abbrev cX2_wordOf : ByteArray := prog_4_method_36_code
def yX2_wordOf : MethodName := ⟨RX2, "wordOf", "(II)I"⟩
abbrev cX2_readInto : ByteArray := prog_4_method_37_code
def yX2_readInto : MethodName := ⟨RX2, "readInto", "(LPhrasePool$Sentence;I)V"⟩
abbrev cX2_likenessOf : ByteArray := prog_4_method_38_code
def yX2_likenessOf : MethodName := ⟨RX2, "likenessOf", "(II)I"⟩
abbrev cX2_likenessTo : ByteArray := prog_4_method_39_code
def yX2_likenessTo : MethodName := ⟨RX2, "likenessTo", "(LPhrasePool$Sentence;I)I"⟩
abbrev cX2_conflictsOf : ByteArray := prog_4_method_40_code
def yX2_conflictsOf : MethodName := ⟨RX2, "conflictsOf", "(I)I"⟩
abbrev cX2_standsAt : ByteArray := prog_4_method_41_code
def yX2_standsAt : MethodName := ⟨RX2, "standsAt", "(ILPhrasePool$Sentence;I)Z"⟩
abbrev cX2_isLiveAs : ByteArray := prog_4_method_42_code
def yX2_isLiveAs : MethodName := ⟨RX2, "isLiveAs", "(ILPhrasePool$Sentence;)Z"⟩
abbrev cX2_giversOf : ByteArray := prog_4_method_43_code
def yX2_giversOf : MethodName := ⟨RX2, "giversOf", "(ILPhrasePool$Sentence;)I"⟩
abbrev cX2_gives : ByteArray := prog_4_method_44_code
def yX2_gives : MethodName := ⟨RX2, "gives", "(IILPhrasePool$Sentence;)Z"⟩
abbrev cX2_feeFor : ByteArray := prog_4_method_45_code
def yX2_feeFor : MethodName := ⟨RX2, "feeFor", "(III)I"⟩
abbrev cX2_noteProperty : ByteArray := prog_4_method_46_code
def yX2_noteProperty : MethodName := ⟨RX2, "noteProperty", "(II)I"⟩
abbrev cX2_isPaidBack : ByteArray := prog_4_method_47_code
def yX2_isPaidBack : MethodName := ⟨RX2, "isPaidBack", "(I)Z"⟩
abbrev cX2_startNote : ByteArray := prog_4_method_48_code
def yX2_startNote : MethodName := ⟨RX2, "startNote", "(III)I"⟩
abbrev cX2_splitFee : ByteArray := prog_4_method_49_code
def yX2_splitFee : MethodName := ⟨RX2, "splitFee", "(I)V"⟩
abbrev cX2_moveMoney : ByteArray := prog_4_method_50_code
def yX2_moveMoney : MethodName := ⟨RX2, "moveMoney", "(II)V"⟩
abbrev cX2_markEndings : ByteArray := prog_4_method_51_code
def yX2_markEndings : MethodName := ⟨RX2, "markEndings", "(I)V"⟩
abbrev cX2_hasMarkedParent : ByteArray := prog_4_method_52_code
def yX2_hasMarkedParent : MethodName := ⟨RX2, "hasMarkedParent", "(I)Z"⟩
abbrev cX2_endMarked : ByteArray := prog_4_method_53_code
def yX2_endMarked : MethodName := ⟨RX2, "endMarked", "()I"⟩
abbrev cX2_isOwed : ByteArray := prog_4_method_54_code
def yX2_isOwed : MethodName := ⟨RX2, "isOwed", "(I)Z"⟩
abbrev cX2_owedForMarked : ByteArray := prog_4_method_55_code
def yX2_owedForMarked : MethodName := ⟨RX2, "owedForMarked", "()I"⟩
abbrev cX2_payBackMarked : ByteArray := prog_4_method_56_code
def yX2_payBackMarked : MethodName := ⟨RX2, "payBackMarked", "()V"⟩
def RX3 : String := "PhrasePool$Text"
def TX3 : u_T := fun k => match k with
  | 0 => ("PhrasePool$Text", "bytes", "[I", true)
  | _ => ("PhrasePool$Text", "length", "I", false)
def tyX3 : Nat → FieldType := fun k => match k with
  | 0 => .array .int
  | _ => .int
abbrev wsX30 : List Cond := u_ws RX3 TX3 2
theorem nmX3 : ∀ a, a < 2 → ∀ b, b < 2 → a ≠ b → (TX3 a).2.1 ≠ (TX3 b).2.1 := by decide +kernel
theorem tyX3_ok : ∀ k, k < 2 → parseFieldDescriptor (TX3 k).2.2.1 = some (tyX3 k) := by decide +kernel
abbrev cX3_init : ByteArray := prog_5_method_1_code
def yX3_init : MethodName := ⟨RX3, "<init>", "()V"⟩
abbrev cX3_isLetter : ByteArray := prog_5_method_2_code
def yX3_isLetter : MethodName := ⟨RX3, "isLetter", "(I)Z"⟩
abbrev cX3_append : ByteArray := prog_5_method_3_code
def yX3_append : MethodName := ⟨RX3, "append", "(I)I"⟩
abbrev cX3_empty : ByteArray := prog_5_method_4_code
def yX3_empty : MethodName := ⟨RX3, "empty", "()I"⟩
abbrev cX3_fault : ByteArray := prog_5_method_5_code
def yX3_fault : MethodName := ⟨RX3, "fault", "()I"⟩
abbrev cX3_isFaulty : ByteArray := prog_5_method_6_code
def yX3_isFaulty : MethodName := ⟨RX3, "isFaulty", "()Z"⟩
abbrev cX3_readInto : ByteArray := prog_5_method_7_code
def yX3_readInto : MethodName := ⟨RX3, "readInto", "(LPhrasePool$Sentence;)V"⟩
def RX4 : String := "PhrasePool$Ways"
def TX4 : u_T := fun k => match k with
  | 0 => ("PhrasePool$Ways", "costs", "[I", true)
  | 1 => ("PhrasePool$Ways", "lengths", "[I", true)
  | 2 => ("PhrasePool$Ways", "firsts", "[I", true)
  | 3 => ("PhrasePool$Ways", "nexts", "[I", true)
  | _ => ("PhrasePool$Ways", "end", "I", false)
def tyX4 : Nat → FieldType := fun k => match k with
  | 0 => .array .int
  | 1 => .array .int
  | 2 => .array .int
  | 3 => .array .int
  | _ => .int
abbrev wsX40 : List Cond := u_ws RX4 TX4 5
theorem nmX4 : ∀ a, a < 5 → ∀ b, b < 5 → a ≠ b → (TX4 a).2.1 ≠ (TX4 b).2.1 := by decide +kernel
theorem tyX4_ok : ∀ k, k < 5 → parseFieldDescriptor (TX4 k).2.2.1 = some (tyX4 k) := by decide +kernel
abbrev cX4_init : ByteArray := prog_6_method_1_code
def yX4_init : MethodName := ⟨RX4, "<init>", "()V"⟩
abbrev cX4_start : ByteArray := prog_6_method_2_code
def yX4_start : MethodName := ⟨RX4, "start", "(I)V"⟩
abbrev cX4_open : ByteArray := prog_6_method_3_code
def yX4_open : MethodName := ⟨RX4, "open", "(I)V"⟩
abbrev cX4_offer : ByteArray := prog_6_method_4_code
def yX4_offer : MethodName := ⟨RX4, "offer", "(IIII)V"⟩
abbrev cX4_bestCost : ByteArray := prog_6_method_5_code
def yX4_bestCost : MethodName := ⟨RX4, "bestCost", "()I"⟩
abbrev cX4_pieceAt : ByteArray := prog_6_method_6_code
def yX4_pieceAt : MethodName := ⟨RX4, "pieceAt", "(I)I"⟩
def RX5 : String := "PhrasePool$Yardstick"
def TX5 : u_T := fun k => match k with
  | _ => ("PhrasePool$Yardstick", "steps", "[[I", true)
def tyX5 : Nat → FieldType := fun k => match k with
  | _ => .array (.array .int)
abbrev wsX50 : List Cond := u_ws RX5 TX5 1
theorem nmX5 : ∀ a, a < 1 → ∀ b, b < 1 → a ≠ b → (TX5 a).2.1 ≠ (TX5 b).2.1 := by decide +kernel
theorem tyX5_ok : ∀ k, k < 1 → parseFieldDescriptor (TX5 k).2.2.1 = some (tyX5 k) := by decide +kernel
abbrev cX5_init : ByteArray := prog_7_method_1_code
def yX5_init : MethodName := ⟨RX5, "<init>", "()V"⟩
abbrev cX5_measure : ByteArray := prog_7_method_2_code
def yX5_measure : MethodName := ⟨RX5, "measure", "(LPhrasePool$Sentence;LPhrasePool$Sentence;)I"⟩
abbrev cX5_distance : ByteArray := prog_7_method_3_code
def yX5_distance : MethodName := ⟨RX5, "distance", "(LPhrasePool$Sentence;LPhrasePool$Sentence;)I"⟩
def RX6 : String := "PhrasePool"
def TX6 : u_T := fun k => match k with
  | 0 => ("PhrasePool", "state", "LPhrasePool$State;", true)
  | 1 => ("PhrasePool", "history", "LPhrasePool$History;", true)
  | 2 => ("PhrasePool", "text", "LPhrasePool$Text;", true)
  | 3 => ("PhrasePool", "typed", "LPhrasePool$Sentence;", true)
  | _ => ("PhrasePool", "ways", "LPhrasePool$Ways;", true)
def tyX6 : Nat → FieldType := fun k => match k with
  | 0 => .object "PhrasePool$State"
  | 1 => .object "PhrasePool$History"
  | 2 => .object "PhrasePool$Text"
  | 3 => .object "PhrasePool$Sentence"
  | _ => .object "PhrasePool$Ways"
abbrev wsX60 : List Cond := u_ws RX6 TX6 5
theorem nmX6 : ∀ a, a < 5 → ∀ b, b < 5 → a ≠ b → (TX6 a).2.1 ≠ (TX6 b).2.1 := by decide +kernel
theorem tyX6_ok : ∀ k, k < 5 → parseFieldDescriptor (TX6 k).2.2.1 = some (tyX6 k) := by decide +kernel
abbrev cX6_init : ByteArray := prog_1_method_1_code
def yX6_init : MethodName := ⟨RX6, "<init>", "()V"⟩
abbrev cX6_addMember : ByteArray := prog_1_method_2_code
def yX6_addMember : MethodName := ⟨RX6, "addMember", "()I"⟩
abbrev cX6_setPrice : ByteArray := prog_1_method_3_code
def yX6_setPrice : MethodName := ⟨RX6, "setPrice", "(II)I"⟩
abbrev cX6_set : ByteArray := prog_1_method_4_code
def yX6_set : MethodName := ⟨RX6, "set", "(II)I"⟩
abbrev cX6_count : ByteArray := prog_1_method_5_code
def yX6_count : MethodName := ⟨RX6, "count", "(I)I"⟩
abbrev cX6_member : ByteArray := prog_1_method_6_code
def yX6_member : MethodName := ⟨RX6, "member", "(II)I"⟩
abbrev cX6_addPhrase : ByteArray := prog_1_method_7_code
def yX6_addPhrase : MethodName := ⟨RX6, "addPhrase", "(III)I"⟩
abbrev cX6_phrase : ByteArray := prog_1_method_8_code
def yX6_phrase : MethodName := ⟨RX6, "phrase", "(II)I"⟩
abbrev cX6_word : ByteArray := prog_1_method_9_code
def yX6_word : MethodName := ⟨RX6, "word", "(II)I"⟩
abbrev cX6_score : ByteArray := prog_1_method_10_code
def yX6_score : MethodName := ⟨RX6, "score", "(II)I"⟩
abbrev cX6_agreed : ByteArray := prog_1_method_11_code
def yX6_agreed : MethodName := ⟨RX6, "agreed", "()I"⟩
abbrev cX6_match : ByteArray := prog_1_method_12_code
def yX6_match : MethodName := ⟨RX6, "match", "()I"⟩
abbrev cX6_alike : ByteArray := prog_1_method_13_code
def yX6_alike : MethodName := ⟨RX6, "alike", "(I)I"⟩
abbrev cX6_fee : ByteArray := prog_1_method_14_code
def yX6_fee : MethodName := ⟨RX6, "fee", "(I)I"⟩
abbrev cX6_use : ByteArray := prog_1_method_15_code
def yX6_use : MethodName := ⟨RX6, "use", "(I)I"⟩
abbrev cX6_note : ByteArray := prog_1_method_16_code
def yX6_note : MethodName := ⟨RX6, "note", "(II)I"⟩
abbrev cX6_retract : ByteArray := prog_1_method_17_code
def yX6_retract : MethodName := ⟨RX6, "retract", "(I)I"⟩
abbrev cX6_wouldPayBack : ByteArray := prog_1_method_18_code
def yX6_wouldPayBack : MethodName := ⟨RX6, "wouldPayBack", "(I)I"⟩
abbrev cX6_pass : ByteArray := prog_1_method_19_code
def yX6_pass : MethodName := ⟨RX6, "pass", "(I)I"⟩
abbrev cX6_cheapest : ByteArray := prog_1_method_20_code
def yX6_cheapest : MethodName := ⟨RX6, "cheapest", "(I)I"⟩
abbrev cX6_piece : ByteArray := prog_1_method_21_code
def yX6_piece : MethodName := ⟨RX6, "piece", "(II)I"⟩
abbrev cX6_type : ByteArray := prog_1_method_22_code
def yX6_type : MethodName := ⟨RX6, "type", "(I)I"⟩
abbrev cX6_clearText : ByteArray := prog_1_method_23_code
def yX6_clearText : MethodName := ⟨RX6, "clearText", "()I"⟩
abbrev cX6_textFault : ByteArray := prog_1_method_24_code
def yX6_textFault : MethodName := ⟨RX6, "textFault", "()I"⟩
abbrev cX6_undo : ByteArray := prog_1_method_25_code
def yX6_undo : MethodName := ⟨RX6, "undo", "()I"⟩
abbrev cX6_digest : ByteArray := prog_1_method_26_code
def yX6_digest : MethodName := ⟨RX6, "digest", "()J"⟩
abbrev cX6_hashPhrase : ByteArray := prog_1_method_27_code
def yX6_hashPhrase : MethodName := ⟨RX6, "hashPhrase", "(JI)J"⟩
abbrev cX6_findMatch : ByteArray := prog_1_method_28_code
def yX6_findMatch : MethodName := ⟨RX6, "findMatch", "()I"⟩
abbrev cX6_findWays : ByteArray := prog_1_method_29_code
def yX6_findWays : MethodName := ⟨RX6, "findWays", "(I)V"⟩
def RX7 : String := "PhrasePoolModel"
def TX7 : u_T := fun k => match k with
  | 0 => ("PhrasePoolModel", "row", "[I", true)
  | 1 => ("PhrasePoolModel", "kept", "I", false)
  | 2 => ("PhrasePoolModel", "one", "[I", true)
  | 3 => ("PhrasePoolModel", "oneMany", "I", false)
  | 4 => ("PhrasePoolModel", "other", "[I", true)
  | 5 => ("PhrasePoolModel", "otherMany", "I", false)
  | 6 => ("PhrasePoolModel", "steps", "[I", true)
  | 7 => ("PhrasePoolModel", "fate", "[I", true)
  | 8 => ("PhrasePoolModel", "costs", "[I", true)
  | 9 => ("PhrasePoolModel", "counts", "[I", true)
  | 10 => ("PhrasePoolModel", "firsts", "[I", true)
  | 11 => ("PhrasePoolModel", "text", "[I", true)
  | 12 => ("PhrasePoolModel", "length", "I", false)
  | _ => ("PhrasePoolModel", "h", "J", false)
def tyX7 : Nat → FieldType := fun k => match k with
  | 0 => .array .int
  | 1 => .int
  | 2 => .array .int
  | 3 => .int
  | 4 => .array .int
  | 5 => .int
  | 6 => .array .int
  | 7 => .array .int
  | 8 => .array .int
  | 9 => .array .int
  | 10 => .array .int
  | 11 => .array .int
  | 12 => .int
  | _ => .long
abbrev wsX70 : List Cond := u_ws RX7 TX7 14
theorem nmX7 : ∀ a, a < 14 → ∀ b, b < 14 → a ≠ b → (TX7 a).2.1 ≠ (TX7 b).2.1 := by decide +kernel
theorem tyX7_ok : ∀ k, k < 14 → parseFieldDescriptor (TX7 k).2.2.1 = some (tyX7 k) := by decide +kernel
abbrev cX7_init : ByteArray := prog_9_method_1_code
def yX7_init : MethodName := ⟨RX7, "<init>", "()V"⟩
abbrev cX7_in : ByteArray := prog_9_method_2_code
def yX7_in : MethodName := ⟨RX7, "in", "(III)Z"⟩
abbrev cX7_copies : ByteArray := prog_9_method_3_code
def yX7_copies : MethodName := ⟨RX7, "copies", "(II)V"⟩
abbrev cX7_records : ByteArray := prog_9_method_4_code
def yX7_records : MethodName := ⟨RX7, "records", "()V"⟩
abbrev cX7_isMember : ByteArray := prog_9_method_5_code
def yX7_isMember : MethodName := ⟨RX7, "isMember", "(I)Z"⟩
abbrev cX7_isPhrase : ByteArray := prog_9_method_6_code
def yX7_isPhrase : MethodName := ⟨RX7, "isPhrase", "(I)Z"⟩
abbrev cX7_of : ByteArray := prog_9_method_7_code
def yX7_of : MethodName := ⟨RX7, "of", "(II)I"⟩
abbrev cX7_ofNote : ByteArray := prog_9_method_8_code
def yX7_ofNote : MethodName := ⟨RX7, "ofNote", "(II)I"⟩
abbrev cX7_price : ByteArray := prog_9_method_9_code
def yX7_price : MethodName := ⟨RX7, "price", "(I)I"⟩
abbrev cX7_pays : ByteArray := prog_9_method_10_code
def yX7_pays : MethodName := ⟨RX7, "pays", "(II)V"⟩
abbrev cX7_setsOne : ByteArray := prog_9_method_11_code
def yX7_setsOne : MethodName := ⟨RX7, "setsOne", "(I)V"⟩
abbrev cX7_setsOther : ByteArray := prog_9_method_12_code
def yX7_setsOther : MethodName := ⟨RX7, "setsOther", "(I)V"⟩
abbrev cX7_setsText : ByteArray := prog_9_method_13_code
def yX7_setsText : MethodName := ⟨RX7, "setsText", "()V"⟩
abbrev cX7_least : ByteArray := prog_9_method_14_code
def yX7_least : MethodName := ⟨RX7, "least", "(II)I"⟩
abbrev cX7_scoreNow : ByteArray := prog_9_method_15_code
def yX7_scoreNow : MethodName := ⟨RX7, "scoreNow", "()I"⟩
abbrev cX7_scoreOf : ByteArray := prog_9_method_16_code
def yX7_scoreOf : MethodName := ⟨RX7, "scoreOf", "(II)I"⟩
abbrev cX7_textScore : ByteArray := prog_9_method_17_code
def yX7_textScore : MethodName := ⟨RX7, "textScore", "(I)I"⟩
abbrev cX7_addMember : ByteArray := prog_9_method_18_code
def yX7_addMember : MethodName := ⟨RX7, "addMember", "()I"⟩
abbrev cX7_setPrice : ByteArray := prog_9_method_19_code
def yX7_setPrice : MethodName := ⟨RX7, "setPrice", "(II)I"⟩
abbrev cX7_set : ByteArray := prog_9_method_20_code
def yX7_set : MethodName := ⟨RX7, "set", "(II)I"⟩
abbrev cX7_areInConflict : ByteArray := prog_9_method_21_code
def yX7_areInConflict : MethodName := ⟨RX7, "areInConflict", "(II)Z"⟩
abbrev cX7_conflicts : ByteArray := prog_9_method_22_code
def yX7_conflicts : MethodName := ⟨RX7, "conflicts", "(I)I"⟩
abbrev cX7_live : ByteArray := prog_9_method_23_code
def yX7_live : MethodName := ⟨RX7, "live", "()I"⟩
abbrev cX7_paidBack : ByteArray := prog_9_method_24_code
def yX7_paidBack : MethodName := ⟨RX7, "paidBack", "()I"⟩
abbrev cX7_allConflicts : ByteArray := prog_9_method_25_code
def yX7_allConflicts : MethodName := ⟨RX7, "allConflicts", "()I"⟩
abbrev cX7_counted : ByteArray := prog_9_method_26_code
def yX7_counted : MethodName := ⟨RX7, "counted", "(I)I"⟩
abbrev cX7_count : ByteArray := prog_9_method_27_code
def yX7_count : MethodName := ⟨RX7, "count", "(I)I"⟩
abbrev cX7_memberNow : ByteArray := prog_9_method_28_code
def yX7_memberNow : MethodName := ⟨RX7, "memberNow", "(II)I"⟩
abbrev cX7_member : ByteArray := prog_9_method_29_code
def yX7_member : MethodName := ⟨RX7, "member", "(II)I"⟩
abbrev cX7_addPhrase : ByteArray := prog_9_method_30_code
def yX7_addPhrase : MethodName := ⟨RX7, "addPhrase", "(III)I"⟩
abbrev cX7_phrase : ByteArray := prog_9_method_31_code
def yX7_phrase : MethodName := ⟨RX7, "phrase", "(II)I"⟩
abbrev cX7_word : ByteArray := prog_9_method_32_code
def yX7_word : MethodName := ⟨RX7, "word", "(II)I"⟩
abbrev cX7_score : ByteArray := prog_9_method_33_code
def yX7_score : MethodName := ⟨RX7, "score", "(II)I"⟩
abbrev cX7_gives : ByteArray := prog_9_method_34_code
def yX7_gives : MethodName := ⟨RX7, "gives", "(II)Z"⟩
abbrev cX7_agreed : ByteArray := prog_9_method_35_code
def yX7_agreed : MethodName := ⟨RX7, "agreed", "()I"⟩
abbrev cX7_found : ByteArray := prog_9_method_36_code
def yX7_found : MethodName := ⟨RX7, "found", "()I"⟩
abbrev cX7_match : ByteArray := prog_9_method_37_code
def yX7_match : MethodName := ⟨RX7, "match", "()I"⟩
abbrev cX7_alike : ByteArray := prog_9_method_38_code
def yX7_alike : MethodName := ⟨RX7, "alike", "(I)I"⟩
abbrev cX7_feeOf : ByteArray := prog_9_method_39_code
def yX7_feeOf : MethodName := ⟨RX7, "feeOf", "(III)I"⟩
abbrev cX7_fee : ByteArray := prog_9_method_40_code
def yX7_fee : MethodName := ⟨RX7, "fee", "(I)I"⟩
abbrev cX7_use : ByteArray := prog_9_method_41_code
def yX7_use : MethodName := ⟨RX7, "use", "(I)I"⟩
abbrev cX7_note : ByteArray := prog_9_method_42_code
def yX7_note : MethodName := ⟨RX7, "note", "(II)I"⟩
abbrev cX7_ends : ByteArray := prog_9_method_43_code
def yX7_ends : MethodName := ⟨RX7, "ends", "(I)I"⟩
abbrev cX7_goesBack : ByteArray := prog_9_method_44_code
def yX7_goesBack : MethodName := ⟨RX7, "goesBack", "(I)Z"⟩
abbrev cX7_retract : ByteArray := prog_9_method_45_code
def yX7_retract : MethodName := ⟨RX7, "retract", "(I)I"⟩
abbrev cX7_wouldPayBack : ByteArray := prog_9_method_46_code
def yX7_wouldPayBack : MethodName := ⟨RX7, "wouldPayBack", "(I)I"⟩
abbrev cX7_pass : ByteArray := prog_9_method_47_code
def yX7_pass : MethodName := ⟨RX7, "pass", "(I)I"⟩
abbrev cX7_standsAt : ByteArray := prog_9_method_48_code
def yX7_standsAt : MethodName := ⟨RX7, "standsAt", "(II)Z"⟩
abbrev cX7_composes : ByteArray := prog_9_method_49_code
def yX7_composes : MethodName := ⟨RX7, "composes", "(I)V"⟩
abbrev cX7_cheapest : ByteArray := prog_9_method_50_code
def yX7_cheapest : MethodName := ⟨RX7, "cheapest", "(I)I"⟩
abbrev cX7_piece : ByteArray := prog_9_method_51_code
def yX7_piece : MethodName := ⟨RX7, "piece", "(II)I"⟩
abbrev cX7_type : ByteArray := prog_9_method_52_code
def yX7_type : MethodName := ⟨RX7, "type", "(I)I"⟩
abbrev cX7_clearText : ByteArray := prog_9_method_53_code
def yX7_clearText : MethodName := ⟨RX7, "clearText", "()I"⟩
abbrev cX7_textFault : ByteArray := prog_9_method_54_code
def yX7_textFault : MethodName := ⟨RX7, "textFault", "()I"⟩
abbrev cX7_undo : ByteArray := prog_9_method_55_code
def yX7_undo : MethodName := ⟨RX7, "undo", "()I"⟩
abbrev cX7_adds : ByteArray := prog_9_method_56_code
def yX7_adds : MethodName := ⟨RX7, "adds", "(J)V"⟩
abbrev cX7_digest : ByteArray := prog_9_method_57_code
def yX7_digest : MethodName := ⟨RX7, "digest", "()J"⟩
def RJ9 : String := "java/lang/Math"
def TJ9 : u_T := fun k => match k with
  | _ => ("", "", "", false)
def tyJ9 : Nat → FieldType := fun k => match k with
  | _ => .int
abbrev wsJ90 : List Cond := u_ws RJ9 TJ9 0
theorem nmJ9 : ∀ a, a < 0 → ∀ b, b < 0 → a ≠ b → (TJ9 a).2.1 ≠ (TJ9 b).2.1 := by decide +kernel
theorem tyJ9_ok : ∀ k, k < 0 → parseFieldDescriptor (TJ9 k).2.2.1 = some (tyJ9 k) := by decide +kernel
abbrev cJ9_max_7cf53 : ByteArray := prog_10_method_65_code
def yJ9_max_7cf53 : MethodName := ⟨RJ9, "max", "(II)I"⟩
abbrev cJ9_min_7cf53 : ByteArray := prog_10_method_69_code
def yJ9_min_7cf53 : MethodName := ⟨RJ9, "min", "(II)I"⟩
def RJ10 : String := "java/lang/System"
def TJ10 : u_T := fun k => match k with
  | _ => ("", "", "", false)
def tyJ10 : Nat → FieldType := fun k => match k with
  | _ => .int
abbrev wsJ100 : List Cond := u_ws RJ10 TJ10 0
theorem nmJ10 : ∀ a, a < 0 → ∀ b, b < 0 → a ≠ b → (TJ10 a).2.1 ≠ (TJ10 b).2.1 := by decide +kernel
theorem tyJ10_ok : ∀ k, k < 0 → parseFieldDescriptor (TJ10 k).2.2.1 = some (tyJ10 k) := by decide +kernel
def RL : String := "PhrasePoolLaw"
abbrev cL_law : ByteArray := code
def yL_law : MethodName := ⟨RL, "law", "([I)Z"⟩
abbrev vwCl : List vw_C := [(RX0, TX0, 3), (RX1, TX1, 2), (RX2, TX2, 5), (RX3, TX3, 2), (RX4, TX4, 5), (RX5, TX5, 1), (RX6, TX6, 5), (RX7, TX7, 14)]
/-- a method: its class, name, code, locals, answer -/
abbrev MD : Type := Nat × MethodName × ByteArray × Nat × Option FieldType
def mX0_init : MD := (0, yX0_init, cX0_init, 1, none)
def mX0_keep : MD := (0, yX0_keep, cX0_keep, 2, none)
def mX0_restoreInto : MD := (0, yX0_restoreInto, cX0_restoreInto, 2, (some .int))
def mX1_init : MD := (1, yX1_init, cX1_init, 1, none)
def mX1_clear : MD := (1, yX1_clear, cX1_clear, 1, none)
def mX1_append : MD := (1, yX1_append, cX1_append, 2, none)
def mX2_init : MD := (2, yX2_init, cX2_init, 1, none)
def mX2_copyTo : MD := (2, yX2_copyTo, cX2_copyTo, 2, none)
def mX2_copyFrom : MD := (2, yX2_copyFrom, cX2_copyFrom, 2, none)
def mX2_memberCell : MD := (2, yX2_memberCell, cX2_memberCell, 2, (some .int))
def mX2_phraseCell : MD := (2, yX2_phraseCell, cX2_phraseCell, 2, (some .int))
def mX2_noteCell : MD := (2, yX2_noteCell, cX2_noteCell, 2, (some .int))
def mX2_members : MD := (2, yX2_members, cX2_members, 1, (some .int))
def mX2_phrases : MD := (2, yX2_phrases, cX2_phrases, 1, (some .int))
def mX2_notes : MD := (2, yX2_notes, cX2_notes, 1, (some .int))
def mX2_tick : MD := (2, yX2_tick, cX2_tick, 1, (some .int))
def mX2_hasMember : MD := (2, yX2_hasMember, cX2_hasMember, 2, (some .boolean))
def mX2_hasPhrase : MD := (2, yX2_hasPhrase, cX2_hasPhrase, 2, (some .boolean))
def mX2_hasNote : MD := (2, yX2_hasNote, cX2_hasNote, 2, (some .boolean))
def mX2_settingOf : MD := (2, yX2_settingOf, cX2_settingOf, 2, (some .int))
def mX2_changeSetting : MD := (2, yX2_changeSetting, cX2_changeSetting, 3, none)
def mX2_moveTick : MD := (2, yX2_moveTick, cX2_moveTick, 2, (some .int))
def mX2_startMember : MD := (2, yX2_startMember, cX2_startMember, 2, (some .int))
def mX2_priceOf : MD := (2, yX2_priceOf, cX2_priceOf, 2, (some .int))
def mX2_changePrice : MD := (2, yX2_changePrice, cX2_changePrice, 3, none)
def mX2_memberProperty : MD := (2, yX2_memberProperty, cX2_memberProperty, 3, (some .int))
def mX2_countOwned : MD := (2, yX2_countOwned, cX2_countOwned, 4, (some .int))
def mX2_countUsesNoted : MD := (2, yX2_countUsesNoted, cX2_countUsesNoted, 4, (some .int))
def mX2_sumGot : MD := (2, yX2_sumGot, cX2_sumGot, 4, (some .int))
def mX2_countOf : MD := (2, yX2_countOf, cX2_countOf, 2, (some .int))
def mX2_countLive : MD := (2, yX2_countLive, cX2_countLive, 3, (some .int))
def mX2_countPaidBack : MD := (2, yX2_countPaidBack, cX2_countPaidBack, 3, (some .int))
def mX2_countConflicts : MD := (2, yX2_countConflicts, cX2_countConflicts, 3, (some .int))
def mX2_startPhrase : MD := (2, yX2_startPhrase, cX2_startPhrase, 7, (some .int))
def mX2_phraseProperty : MD := (2, yX2_phraseProperty, cX2_phraseProperty, 3, (some .int))
def mX2_ownerOf : MD := (2, yX2_ownerOf, cX2_ownerOf, 2, (some .int))
def mX2_lengthOf : MD := (2, yX2_lengthOf, cX2_lengthOf, 2, (some .int))
def mX2_targetOf : MD := (2, yX2_targetOf, cX2_targetOf, 2, (some .int))
def mX2_parentOf : MD := (2, yX2_parentOf, cX2_parentOf, 2, (some .int))
def mX2_isLive : MD := (2, yX2_isLive, cX2_isLive, 2, (some .boolean))
def mX2_usesOf : MD := (2, yX2_usesOf, cX2_usesOf, 2, (some .int))
def mX2_wordOf : MD := (2, yX2_wordOf, cX2_wordOf, 3, (some .int))
def mX2_readInto : MD := (2, yX2_readInto, cX2_readInto, 4, none)
def mX2_likenessOf : MD := (2, yX2_likenessOf, cX2_likenessOf, 3, (some .int))
def mX2_likenessTo : MD := (2, yX2_likenessTo, cX2_likenessTo, 3, (some .int))
def mX2_conflictsOf : MD := (2, yX2_conflictsOf, cX2_conflictsOf, 4, (some .int))
def mX2_standsAt : MD := (2, yX2_standsAt, cX2_standsAt, 7, (some .boolean))
def mX2_isLiveAs : MD := (2, yX2_isLiveAs, cX2_isLiveAs, 3, (some .boolean))
def mX2_giversOf : MD := (2, yX2_giversOf, cX2_giversOf, 5, (some .int))
def mX2_gives : MD := (2, yX2_gives, cX2_gives, 5, (some .boolean))
def mX2_feeFor : MD := (2, yX2_feeFor, cX2_feeFor, 5, (some .int))
def mX2_noteProperty : MD := (2, yX2_noteProperty, cX2_noteProperty, 3, (some .int))
def mX2_isPaidBack : MD := (2, yX2_isPaidBack, cX2_isPaidBack, 2, (some .boolean))
def mX2_startNote : MD := (2, yX2_startNote, cX2_startNote, 5, (some .int))
def mX2_splitFee : MD := (2, yX2_splitFee, cX2_splitFee, 8, none)
def mX2_moveMoney : MD := (2, yX2_moveMoney, cX2_moveMoney, 4, none)
def mX2_markEndings : MD := (2, yX2_markEndings, cX2_markEndings, 3, none)
def mX2_hasMarkedParent : MD := (2, yX2_hasMarkedParent, cX2_hasMarkedParent, 2, (some .boolean))
def mX2_endMarked : MD := (2, yX2_endMarked, cX2_endMarked, 3, (some .int))
def mX2_isOwed : MD := (2, yX2_isOwed, cX2_isOwed, 2, (some .boolean))
def mX2_owedForMarked : MD := (2, yX2_owedForMarked, cX2_owedForMarked, 3, (some .int))
def mX2_payBackMarked : MD := (2, yX2_payBackMarked, cX2_payBackMarked, 2, none)
def mX3_init : MD := (3, yX3_init, cX3_init, 1, none)
def mX3_isLetter : MD := (3, yX3_isLetter, cX3_isLetter, 1, (some .boolean))
def mX3_append : MD := (3, yX3_append, cX3_append, 2, (some .int))
def mX3_empty : MD := (3, yX3_empty, cX3_empty, 2, (some .int))
def mX3_fault : MD := (3, yX3_fault, cX3_fault, 3, (some .int))
def mX3_isFaulty : MD := (3, yX3_isFaulty, cX3_isFaulty, 1, (some .boolean))
def mX3_readInto : MD := (3, yX3_readInto, cX3_readInto, 3, none)
def mX4_init : MD := (4, yX4_init, cX4_init, 1, none)
def mX4_start : MD := (4, yX4_start, cX4_start, 2, none)
def mX4_open : MD := (4, yX4_open, cX4_open, 2, none)
def mX4_offer : MD := (4, yX4_offer, cX4_offer, 8, none)
def mX4_bestCost : MD := (4, yX4_bestCost, cX4_bestCost, 1, (some .int))
def mX4_pieceAt : MD := (4, yX4_pieceAt, cX4_pieceAt, 4, (some .int))
def mX5_init : MD := (5, yX5_init, cX5_init, 1, none)
def mX5_measure : MD := (5, yX5_measure, cX5_measure, 4, (some .int))
def mX5_distance : MD := (5, yX5_distance, cX5_distance, 7, (some .int))
def mX6_init : MD := (6, yX6_init, cX6_init, 1, none)
def mX6_addMember : MD := (6, yX6_addMember, cX6_addMember, 1, (some .int))
def mX6_setPrice : MD := (6, yX6_setPrice, cX6_setPrice, 4, (some .int))
def mX6_set : MD := (6, yX6_set, cX6_set, 4, (some .int))
def mX6_count : MD := (6, yX6_count, cX6_count, 2, (some .int))
def mX6_member : MD := (6, yX6_member, cX6_member, 3, (some .int))
def mX6_addPhrase : MD := (6, yX6_addPhrase, cX6_addPhrase, 4, (some .int))
def mX6_phrase : MD := (6, yX6_phrase, cX6_phrase, 3, (some .int))
def mX6_word : MD := (6, yX6_word, cX6_word, 3, (some .int))
def mX6_score : MD := (6, yX6_score, cX6_score, 3, (some .int))
def mX6_agreed : MD := (6, yX6_agreed, cX6_agreed, 6, (some .int))
def mX6_match : MD := (6, yX6_match, cX6_match, 1, (some .int))
def mX6_alike : MD := (6, yX6_alike, cX6_alike, 2, (some .int))
def mX6_fee : MD := (6, yX6_fee, cX6_fee, 3, (some .int))
def mX6_use : MD := (6, yX6_use, cX6_use, 3, (some .int))
def mX6_note : MD := (6, yX6_note, cX6_note, 3, (some .int))
def mX6_retract : MD := (6, yX6_retract, cX6_retract, 2, (some .int))
def mX6_wouldPayBack : MD := (6, yX6_wouldPayBack, cX6_wouldPayBack, 2, (some .int))
def mX6_pass : MD := (6, yX6_pass, cX6_pass, 2, (some .int))
def mX6_cheapest : MD := (6, yX6_cheapest, cX6_cheapest, 2, (some .int))
def mX6_piece : MD := (6, yX6_piece, cX6_piece, 3, (some .int))
def mX6_type : MD := (6, yX6_type, cX6_type, 2, (some .int))
def mX6_clearText : MD := (6, yX6_clearText, cX6_clearText, 1, (some .int))
def mX6_textFault : MD := (6, yX6_textFault, cX6_textFault, 1, (some .int))
def mX6_undo : MD := (6, yX6_undo, cX6_undo, 1, (some .int))
def mX6_digest : MD := (6, yX6_digest, cX6_digest, 5, (some .long))
def mX6_hashPhrase : MD := (6, yX6_hashPhrase, cX6_hashPhrase, 7, (some .long))
def mX6_findMatch : MD := (6, yX6_findMatch, cX6_findMatch, 5, (some .int))
def mX6_findWays : MD := (6, yX6_findWays, cX6_findWays, 4, none)
def mX7_init : MD := (7, yX7_init, cX7_init, 1, none)
def mX7_in : MD := (7, yX7_in, cX7_in, 3, (some .boolean))
def mX7_copies : MD := (7, yX7_copies, cX7_copies, 4, none)
def mX7_records : MD := (7, yX7_records, cX7_records, 2, none)
def mX7_isMember : MD := (7, yX7_isMember, cX7_isMember, 2, (some .boolean))
def mX7_isPhrase : MD := (7, yX7_isPhrase, cX7_isPhrase, 2, (some .boolean))
def mX7_of : MD := (7, yX7_of, cX7_of, 3, (some .int))
def mX7_ofNote : MD := (7, yX7_ofNote, cX7_ofNote, 3, (some .int))
def mX7_price : MD := (7, yX7_price, cX7_price, 2, (some .int))
def mX7_pays : MD := (7, yX7_pays, cX7_pays, 3, none)
def mX7_setsOne : MD := (7, yX7_setsOne, cX7_setsOne, 3, none)
def mX7_setsOther : MD := (7, yX7_setsOther, cX7_setsOther, 3, none)
def mX7_setsText : MD := (7, yX7_setsText, cX7_setsText, 2, none)
def mX7_least : MD := (7, yX7_least, cX7_least, 2, (some .int))
def mX7_scoreNow : MD := (7, yX7_scoreNow, cX7_scoreNow, 5, (some .int))
def mX7_scoreOf : MD := (7, yX7_scoreOf, cX7_scoreOf, 3, (some .int))
def mX7_textScore : MD := (7, yX7_textScore, cX7_textScore, 2, (some .int))
def mX7_addMember : MD := (7, yX7_addMember, cX7_addMember, 1, (some .int))
def mX7_setPrice : MD := (7, yX7_setPrice, cX7_setPrice, 4, (some .int))
def mX7_set : MD := (7, yX7_set, cX7_set, 5, (some .int))
def mX7_areInConflict : MD := (7, yX7_areInConflict, cX7_areInConflict, 3, (some .boolean))
def mX7_conflicts : MD := (7, yX7_conflicts, cX7_conflicts, 4, (some .int))
def mX7_live : MD := (7, yX7_live, cX7_live, 3, (some .int))
def mX7_paidBack : MD := (7, yX7_paidBack, cX7_paidBack, 3, (some .int))
def mX7_allConflicts : MD := (7, yX7_allConflicts, cX7_allConflicts, 3, (some .int))
def mX7_counted : MD := (7, yX7_counted, cX7_counted, 2, (some .int))
def mX7_count : MD := (7, yX7_count, cX7_count, 2, (some .int))
def mX7_memberNow : MD := (7, yX7_memberNow, cX7_memberNow, 5, (some .int))
def mX7_member : MD := (7, yX7_member, cX7_member, 3, (some .int))
def mX7_addPhrase : MD := (7, yX7_addPhrase, cX7_addPhrase, 6, (some .int))
def mX7_phrase : MD := (7, yX7_phrase, cX7_phrase, 3, (some .int))
def mX7_word : MD := (7, yX7_word, cX7_word, 3, (some .int))
def mX7_score : MD := (7, yX7_score, cX7_score, 3, (some .int))
def mX7_gives : MD := (7, yX7_gives, cX7_gives, 3, (some .boolean))
def mX7_agreed : MD := (7, yX7_agreed, cX7_agreed, 9, (some .int))
def mX7_found : MD := (7, yX7_found, cX7_found, 6, (some .int))
def mX7_match : MD := (7, yX7_match, cX7_match, 1, (some .int))
def mX7_alike : MD := (7, yX7_alike, cX7_alike, 2, (some .int))
def mX7_feeOf : MD := (7, yX7_feeOf, cX7_feeOf, 4, (some .int))
def mX7_fee : MD := (7, yX7_fee, cX7_fee, 3, (some .int))
def mX7_use : MD := (7, yX7_use, cX7_use, 10, (some .int))
def mX7_note : MD := (7, yX7_note, cX7_note, 3, (some .int))
def mX7_ends : MD := (7, yX7_ends, cX7_ends, 5, (some .int))
def mX7_goesBack : MD := (7, yX7_goesBack, cX7_goesBack, 2, (some .boolean))
def mX7_retract : MD := (7, yX7_retract, cX7_retract, 5, (some .int))
def mX7_wouldPayBack : MD := (7, yX7_wouldPayBack, cX7_wouldPayBack, 5, (some .int))
def mX7_pass : MD := (7, yX7_pass, cX7_pass, 2, (some .int))
def mX7_standsAt : MD := (7, yX7_standsAt, cX7_standsAt, 5, (some .boolean))
def mX7_composes : MD := (7, yX7_composes, cX7_composes, 6, none)
def mX7_cheapest : MD := (7, yX7_cheapest, cX7_cheapest, 2, (some .int))
def mX7_piece : MD := (7, yX7_piece, cX7_piece, 5, (some .int))
def mX7_type : MD := (7, yX7_type, cX7_type, 2, (some .int))
def mX7_clearText : MD := (7, yX7_clearText, cX7_clearText, 2, (some .int))
def mX7_textFault : MD := (7, yX7_textFault, cX7_textFault, 4, (some .int))
def mX7_undo : MD := (7, yX7_undo, cX7_undo, 1, (some .int))
def mX7_adds : MD := (7, yX7_adds, cX7_adds, 3, none)
def mX7_digest : MD := (7, yX7_digest, cX7_digest, 3, (some .long))
def mL_law : MD := (8, yL_law, cL_law, 4, ret)
end
section
/-! THE FIXED WORLD: 46 cells, references are places; a judgement VV of a frame in it, a rule an instruction -/
def mo (M : MD) : Nat := M.1
def my (M : MD) : MethodName := M.2.1
def mc (M : MD) : ByteArray := M.2.2.1
def ml (M : MD) : Nat := M.2.2.2.1
def mr (M : MD) : Option FieldType := M.2.2.2.2
def RN : Nat → String
  | 0 => RX0
  | 1 => RX1
  | 2 => RX2
  | 3 => RX3
  | 4 => RX4
  | 5 => RX5
  | 6 => RX6
  | 7 => RX7
  | _ => RL
def g_tbl : List Cond := lw_tbl.filter goodWord
def nestW : Cond → Bool
  | .fieldLinkNest .. => true
  | .methodLinkNest .. => true
  | _ => false
def n_tbl : List Cond := tables_1.filter nestW
theorem g_of {w : Cond} (h : w ∈ lw_tbl) (hg : goodWord w = true) : w ∈ g_tbl := List.mem_filter.mpr ⟨h, hg⟩
theorem g_mem {w : Cond} (i : Nat) (h : lw_tbl[i]? = some w) (hg : goodWord w = true) : w ∈ g_tbl := g_of (List.mem_of_getElem? h) hg
theorem n_mem {w : Cond} (i : Nat) (h : lw_tbl[i + 100]? = some w) (h2 : tables_1[i]? = some w) (hg : nestW w = true) : w ∈ n_tbl := List.mem_filter.mpr ⟨List.mem_of_getElem? h2, hg⟩
theorem g_good {w : Cond} (h : w ∈ g_tbl) : (w.onTables && w.keeps) = true ∨ ∃ ty, w = .arrayClass ty := good_of_word (List.mem_filter.mp h).2
theorem g_hts {args : Array Value} {s : State} (h : ∀ w ∈ lw_tbl, w.before args s = true) : ∀ w ∈ g_tbl, w.before args s = true := fun w hw => h w (List.mem_filter.mp hw).1
theorem n_form {w : Cond} (h : w ∈ n_tbl) : (∃ a i b n d t, w = .fieldLinkNest a i b n d t) ∨ ∃ a i x t, w = .methodLinkNest a i x t := by
  have h2 := (List.mem_filter.mp h).2
  cases w with
  | fieldLinkNest a i b n d t => exact Or.inl ⟨a, i, b, n, d, t, rfl⟩
  | methodLinkNest a i x t => exact Or.inr ⟨a, i, x, t, rfl⟩
  | _ => cases h2
theorem n_hts {args : Array Value} {s : State} (h : ∀ w ∈ lw_tbl, w.before args s = true) : ∀ w ∈ n_tbl, va_Nw w s := by
  intro w hw
  have h1 := h w (List.mem_append_right _ (List.mem_filter.mp hw).1)
  rcases n_form hw with ⟨a, i, b, n, d, t, rfl⟩ | ⟨a, i, x, t, rfl⟩
  · exact va_Nw.of rfl h1
  · exact va_Nw.of rfl h1
theorem n_warm {s U : State} (hW : s.WarmedH U.vm) (h : ∀ w ∈ n_tbl, va_Nw w s) : ∀ w ∈ n_tbl, va_Nw w U := by
  intro w hw
  have h1 := h w hw
  rcases n_form hw with ⟨a, i, b, n, d, t, rfl⟩ | ⟨a, i, x, t, rfl⟩
  · exact va_Nw.warmF hW h1
  · exact va_Nw.warmM hW h1
theorem n_same {u U : State} (hv : u.vm = U.vm) (h : ∀ w ∈ n_tbl, va_Nw w u) : ∀ w ∈ n_tbl, va_Nw w U := by
  intro w hw
  have h1 := h w hw
  rcases n_form hw with ⟨a, i, b, n, d, t, rfl⟩ | ⟨a, i, x, t, rfl⟩
  · exact va_Nw.same rfl hv h1
  · exact va_Nw.same rfl hv h1
/-- the state: arrays by place, int fields, the reference's long -/
abbrev SS : Type := (Nat → Nat → Int32) × (Nat → Int32) × Int64
def sA (σ : SS) (p i : Nat) (x : Int32) : SS := (fun q => if q = p then upd (σ.1 p) i x else σ.1 q, σ.2)
def sR (σ : SS) (p : Nat) (f : Nat → Int32) : SS := (fun q => if q = p then f else σ.1 q, σ.2)
def sF (σ : SS) (k : Nat) (x : Int32) : SS := (σ.1, upd σ.2.1 k x, σ.2.2)
def sH (σ : SS) (x : Int64) : SS := (σ.1, σ.2.1, x)
def rv (ad : Nat → Nat) : Value → Value
  | .ref k => .ref (ad k)
  | v => v
theorem rv_cat (ad : Nat → Nat) (v : Value) : (rv ad v).category = v.category := by cases v <;> rfl
theorem rv_cats (ad : Nat → Nat) (st : List Value) : ((st.map (rv ad)).map fun v => v.category) = st.map fun v => v.category := by
  rw [List.map_map]
  exact List.map_congr_left (fun v _ => rv_cat ad v)
/-- the objects: class and fields -/
def obj (p : Nat) (σ : SS) : Option (Nat × List Value) := match p with
  | 0 => some (6, [.ref 1, .ref 2, .ref 3, .ref 4, .ref 5])
  | 1 => some (2, [.ref 12, .ref 13, .ref 6, .ref 7, .ref 8])
  | 2 => some (0, [.ref 9, .int (σ.2.1 0), .int (σ.2.1 1)])
  | 3 => some (3, [.ref 31, .int (σ.2.1 2)])
  | 4 => some (1, [.ref 32, .int (σ.2.1 3)])
  | 5 => some (4, [.ref 33, .ref 34, .ref 35, .ref 36, .int (σ.2.1 4)])
  | 6 => some (1, [.ref 14, .int (σ.2.1 5)])
  | 7 => some (1, [.ref 15, .int (σ.2.1 6)])
  | 8 => some (5, [.ref 10])
  | 9 => none
  | 10 => none
  | 11 => some (7, [.ref 37, .int (σ.2.1 7), .ref 38, .int (σ.2.1 8), .ref 39, .int (σ.2.1 9), .ref 40, .ref 41, .ref 42, .ref 43, .ref 44, .ref 45, .int (σ.2.1 10), .long σ.2.2])
  | _ => none
/-- the lengths of the arrays -/
def al (p : Nat) : Nat := if 16 ≤ p ∧ p < 27 then 11 else if 27 ≤ p ∧ p < 31 then 654 else match p with
  | 12 => 654
  | 13 => 20
  | 14 => 10
  | 15 => 10
  | 31 => 40
  | 32 => 10
  | 33 => 11
  | 34 => 11
  | 35 => 11
  | 36 => 11
  | 37 => 3270
  | 38 => 10
  | 39 => 10
  | 40 => 121
  | 41 => 20
  | 42 => 11
  | 43 => 11
  | 44 => 11
  | 45 => 40
  | _ => 0
/-- which int field lies where -/
def fk (p fi : Nat) : Option Nat := match p, fi with
  | 2, 1 => some 0
  | 2, 2 => some 1
  | 3, 1 => some 2
  | 4, 1 => some 3
  | 5, 4 => some 4
  | 6, 1 => some 5
  | 7, 1 => some 6
  | 11, 1 => some 7
  | 11, 3 => some 8
  | 11, 5 => some 9
  | 11, 12 => some 10
  | _, _ => none
theorem obj_ge {p : Nat} (σ : SS) (h : 12 ≤ p) : obj p σ = none := by
  obtain ⟨k, rfl⟩ : ∃ k, p = k + 12 := ⟨p - 12, by omega⟩
  rfl
theorem obj_lt {p : Nat} {σ : SS} {o : Nat × List Value} (h : obj p σ = some o) : p < 12 := by
  rcases Nat.lt_or_ge p 12 with q | q
  · exact q
  · rw [obj_ge σ q] at h
    cases h
theorem obj_arr (σ : SS) (a : Nat → Nat → Int32) (p : Nat) : obj p (a, σ.2) = obj p σ := rfl
theorem obj_sF {p fi k : Nat} (σ : SS) (x : Int32) (h : fk p fi = some k) {ci : Nat} {vs : List Value} (ho : obj p σ = some (ci, vs)) : obj p (sF σ k x) = some (ci, vs.set fi (.int x)) ∧ (∀ q, q ≠ p → obj q (sF σ k x) = obj q σ) ∧ fi < vs.length := by
  unfold fk at h
  split at h <;> cases h
  all_goals (cases ho; refine ⟨rfl, fun q hq => ?_, Nat.le_of_ble_eq_true rfl⟩)
  all_goals (rcases Nat.lt_or_ge q 12 with h12 | h12)
  all_goals first | (rw [obj_ge _ h12, obj_ge _ h12]; done) | skip
  all_goals (rcases (show q = 0 ∨ q = 1 ∨ q = 2 ∨ q = 3 ∨ q = 4 ∨ q = 5 ∨ q = 6 ∨ q = 7 ∨ q = 8 ∨ q = 9 ∨ q = 10 ∨ q = 11 by omega) with rfl | rfl | rfl | rfl | rfl | rfl | rfl | rfl | rfl | rfl | rfl | rfl)
  all_goals first | rfl | exact absurd rfl hq
theorem obj_sH (σ : SS) (x : Int64) : (∀ q, q ≠ 11 → obj q (sH σ x) = obj q σ) := by
  intro q hq
  rcases Nat.lt_or_ge q 12 with h12 | h12
  · rcases (show q = 0 ∨ q = 1 ∨ q = 2 ∨ q = 3 ∨ q = 4 ∨ q = 5 ∨ q = 6 ∨ q = 7 ∨ q = 8 ∨ q = 9 ∨ q = 10 ∨ q = 11 by omega) with rfl | rfl | rfl | rfl | rfl | rfl | rfl | rfl | rfl | rfl | rfl | rfl
    all_goals first | rfl | exact absurd rfl hq
  · rw [obj_ge _ h12, obj_ge _ h12]
/-- a cell of the world -/
def cel (ad : Nat → Nat) (cI cZ cII : ClassId) (σ : SS) (p : Nat) : va_E :=
  if p = 9 then .inl (cII, 4, .inr (.inr (.inr (.inr (fun i => if i < 4 then some (ad (27 + i)) else none)))))
  else if p = 10 then .inl (cII, 11, .inr (.inr (.inr (.inr (fun i => if i < 11 then some (ad (16 + i)) else none)))))
  else match obj p σ with
    | some o => .inr (o.1, o.2.map (rv ad))
    | none => .inl (if p = 13 then cZ else cI, al p, .inl (σ.1 p))
def wld (ad : Nat → Nat) (cI cZ cII : ClassId) (σ : SS) : va_W := (List.range 46).map (fun p => (ad p, cel ad cI cZ cII σ p))
def isI (p : Nat) : Prop := 12 ≤ p ∧ p < 46 ∧ p ≠ 13
section WLD
variable {ad : Nat → Nat} {cI cZ cII : ClassId} {σ σ' : SS} {p : Nat}
theorem wld_at (hp : p < 46) : (wld ad cI cZ cII σ)[p]? = some (ad p, cel ad cI cZ cII σ p) := by
  unfold wld
  rw [List.getElem?_map, List.getElem?_range hp]
  rfl
theorem wld_len : (wld ad cI cZ cII σ).length = 46 := by simp [wld]
theorem cel_obj {o : Nat × List Value} (h : obj p σ = some o) : cel ad cI cZ cII σ p = .inr (o.1, o.2.map (rv ad)) := by
  unfold cel
  rw [if_neg (by rintro rfl; cases h), if_neg (by rintro rfl; cases h), h]
theorem wld_obj {o : Nat × List Value} (h : obj p σ = some o) : (wld ad cI cZ cII σ)[p]? = some (ad p, .inr (o.1, o.2.map (rv ad))) := by
  rw [wld_at (by have := obj_lt h; omega), cel_obj h]
theorem cel_arr (h : 12 ≤ p) : cel ad cI cZ cII σ p = .inl (if p = 13 then cZ else cI, al p, .inl (σ.1 p)) := by
  unfold cel
  rw [if_neg (by omega), if_neg (by omega), obj_ge σ h]
theorem wld_arr (h : isI p) : (wld ad cI cZ cII σ)[p]? = some (ad p, .inl (cI, al p, .inl (σ.1 p))) := by
  rw [wld_at h.2.1, cel_arr h.1, if_neg h.2.2]
theorem wld_13 : (wld ad cI cZ cII σ)[13]? = some (ad 13, .inl (cZ, 20, .inl (σ.1 13))) := by
  rw [wld_at (by decide), cel_arr (by decide), if_pos rfl]
  rfl
theorem wld_9 : (wld ad cI cZ cII σ)[9]? = some (ad 9, .inl (cII, 4, .inr (.inr (.inr (.inr (fun i => if i < 4 then some (ad (27 + i)) else none)))))) := by
  rw [wld_at (by decide)]
  rfl
theorem wld_10 : (wld ad cI cZ cII σ)[10]? = some (ad 10, .inl (cII, 11, .inr (.inr (.inr (.inr (fun i => if i < 11 then some (ad (16 + i)) else none)))))) := by
  rw [wld_at (by decide)]
  rfl
theorem wld_set {e : va_E} (hp : p < 46) (h1 : cel ad cI cZ cII σ' p = e) (h2 : ∀ q, q ≠ p → cel ad cI cZ cII σ' q = cel ad cI cZ cII σ q) : (wld ad cI cZ cII σ).set p (ad p, e) = wld ad cI cZ cII σ' := by
  apply List.ext_getElem?
  intro i
  by_cases hi : i = p
  · subst hi
    rw [List.getElem?_set_self (by rw [wld_len]; exact hp), wld_at hp, h1]
  · rw [List.getElem?_set_ne (fun q => hi q.symm)]
    by_cases h : i < 46
    · rw [wld_at h, wld_at h, h2 i hi]
    · rw [List.getElem?_eq_none (by rw [wld_len]; omega), List.getElem?_eq_none (by rw [wld_len]; omega)]
theorem cel_sub {a : Nat → Nat → Int32} {q : Nat} (h : a q = σ.1 q) : cel ad cI cZ cII (a, σ.2) q = cel ad cI cZ cII σ q := by
  unfold cel
  rw [obj_arr]
  cases obj q σ with
  | some o => rfl
  | none => simp only [h]
theorem wld_sR (f : Nat → Int32) (h : isI p) : (wld ad cI cZ cII σ).set p (ad p, .inl (cI, al p, .inl f)) = wld ad cI cZ cII (sR σ p f) := by
  refine wld_set h.2.1 ?_ (fun q hq => cel_sub (if_neg hq))
  rw [cel_arr h.1, if_neg h.2.2]
  unfold sR
  simp
theorem wld_sA (i : Nat) (x : Int32) (h : isI p) : (wld ad cI cZ cII σ).set p (ad p, .inl (cI, al p, .inl (upd (σ.1 p) i x))) = wld ad cI cZ cII (sA σ p i x) := wld_sR (upd (σ.1 p) i x) h
theorem wld_s13 (i : Nat) (x : Int32) : (wld ad cI cZ cII σ).set 13 (ad 13, .inl (cZ, 20, .inl (upd (σ.1 13) i x))) = wld ad cI cZ cII (sA σ 13 i x) := by
  refine wld_set (by decide) ?_ (fun q hq => cel_sub (if_neg hq))
  rw [cel_arr (by decide), if_pos rfl]
  unfold sA
  simp
  rfl
theorem wld_sF {fi k ci : Nat} {vs : List Value} (x : Int32) (h : fk p fi = some k) (ho : obj p σ = some (ci, vs)) : (wld ad cI cZ cII σ).set p (ad p, .inr (ci, (vs.map (rv ad)).set fi (.int x))) = wld ad cI cZ cII (sF σ k x) := by
  obtain ⟨h1, h2, -⟩ := obj_sF σ x h ho
  refine wld_set (by have := obj_lt ho; omega) ?_ (fun q hq => ?_)
  · rw [cel_obj h1, List.map_set]
    rfl
  · unfold cel
    rw [h2 q hq]
    rfl
theorem wld_sH {ci : Nat} {vs : List Value} (x : Int64) (ho : obj 11 σ = some (ci, vs)) : (wld ad cI cZ cII σ).set 11 (ad 11, .inr (ci, (vs.map (rv ad)).set 13 (.long x))) = wld ad cI cZ cII (sH σ x) := by
  refine wld_set (by decide) ?_ (fun q hq => ?_)
  · cases ho
    rfl
  · unfold cel
    rw [obj_sH σ x q hq]
    rfl
end WLD
/-! locals -/
def ldv : Nat → List (Option Value) → Option Value
  | _, [] => none
  | 0, a :: _ => a
  | n + 1, _ :: r => ldv n r
def unL : Option Value → Option Value
  | some v => if v.category = 2 then none else some v
  | none => none
def sto : Nat → Value → List (Option Value) → List (Option Value)
  | _, _, [] => []
  | 0, v, _ :: r => some v :: r
  | 1, v, a :: r => unL a :: sto 0 v r
  | n + 2, v, a :: r => a :: sto (n + 1) v r
def clr : Nat → List (Option Value) → List (Option Value)
  | _, [] => []
  | 0, _ :: r => none :: r
  | n + 1, a :: r => a :: clr n r
theorem sto_len : ∀ (i : Nat) (v : Value) (L : List (Option Value)), (sto i v L).length = L.length
  | 0, _, [] => rfl
  | 0, _, _ :: _ => rfl
  | 1, _, [] => rfl
  | 1, v, a :: r => by
    show (sto 0 v r).length + 1 = r.length + 1
    rw [sto_len 0 v r]
  | n + 2, _, [] => rfl
  | n + 2, v, a :: r => by
    show (sto (n + 1) v r).length + 1 = r.length + 1
    rw [sto_len (n + 1) v r]
theorem clr_len : ∀ (i : Nat) (L : List (Option Value)), (clr i L).length = L.length
  | 0, [] => rfl
  | 0, _ :: _ => rfl
  | n + 1, [] => rfl
  | n + 1, a :: r => by
    show (clr n r).length + 1 = r.length + 1
    rw [clr_len n r]
theorem clr_get : ∀ (i : Nat) (L : List (Option Value)) (j : Nat) (w : Value), ldv j (clr i L) = some w → ldv j L = some w ∧ j ≠ i
  | 0, [], j, w, h => by cases j <;> cases h
  | 0, a :: r, 0, w, h => by cases h
  | 0, a :: r, j + 1, w, h => ⟨h, by omega⟩
  | n + 1, [], j, w, h => by cases j <;> cases h
  | n + 1, a :: r, 0, w, h => ⟨h, by omega⟩
  | n + 1, a :: r, j + 1, w, h => by
    obtain ⟨h1, h2⟩ := clr_get n r j w h
    exact ⟨h1, by omega⟩
theorem unL_some {a : Option Value} {w : Value} (h : unL a = some w) : a = some w ∧ w.category ≠ 2 := by
  cases a with
  | none => cases h
  | some v =>
    unfold unL at h
    by_cases hc : v.category = 2
    · simp only [hc, if_true] at h
      cases h
    · simp only [hc, if_false] at h
      cases h
      exact ⟨rfl, hc⟩
theorem sto_get : ∀ (i : Nat) (v : Value) (L : List (Option Value)) (j : Nat) (w : Value), ldv j (sto i v L) = some w → (j = i ∧ w = v) ∨ (j ≠ i ∧ ldv j L = some w ∧ ¬ (j + 1 = i ∧ w.category = 2))
  | 0, v, [], j, w, h => by cases j <;> cases h
  | 0, v, a :: r, 0, w, h => Or.inl ⟨rfl, (Option.some.inj h).symm⟩
  | 0, v, a :: r, j + 1, w, h => Or.inr ⟨by omega, h, fun q => by omega⟩
  | 1, v, [], j, w, h => by cases j <;> cases h
  | 1, v, a :: r, 0, w, h => by
    obtain ⟨h1, h2⟩ := unL_some (show unL a = some w from h)
    exact Or.inr ⟨by omega, h1, fun q => h2 q.2⟩
  | 1, v, a :: r, j + 1, w, h => by
    rcases sto_get 0 v r j w h with ⟨h1, h2⟩ | ⟨h1, h2, h3⟩
    · exact Or.inl ⟨by omega, h2⟩
    · exact Or.inr ⟨by omega, h2, fun q => by omega⟩
  | n + 2, v, [], j, w, h => by cases j <;> cases h
  | n + 2, v, a :: r, 0, w, h => Or.inr ⟨by omega, h, fun q => by omega⟩
  | n + 2, v, a :: r, j + 1, w, h => by
    rcases sto_get (n + 1) v r j w h with ⟨h1, h2⟩ | ⟨h1, h2, h3⟩
    · exact Or.inl ⟨by omega, h2⟩
    · exact Or.inr ⟨by omega, h2, fun q => h3 ⟨by omega, q.2⟩⟩
theorem ldv_lt : ∀ (j : Nat) (L : List (Option Value)) (w : Value), ldv j L = some w → j < L.length
  | 0, [], w, h => by cases h
  | j + 1, [], w, h => by cases h
  | 0, a :: r, w, h => by simp
  | j + 1, a :: r, w, h => by
    have := ldv_lt j r w h
    simp
    omega
def LH (ad : Nat → Nat) (ls : Array Slot) (n : Nat) (L : List (Option Value)) : Prop := L.length = n ∧ ls.size = n ∧ lv_wf ls ∧ ∀ (i : Nat) (v : Value), ldv i L = some v → ls[i]? = some (.val (rv ad v))
def lvl (ad : Nat → Nat) (L : List (Option Value)) : List (Nat × Value) := (List.range L.length).filterMap (fun j => (ldv j L).map (fun v => (j, rv ad v)))
theorem lvl_mem {ad : Nat → Nat} {L : List (Option Value)} {j : Nat} {v : Value} (h : ldv j L = some v) : (j, rv ad v) ∈ lvl ad L := by
  refine List.mem_filterMap.mpr ⟨j, List.mem_range.mpr (ldv_lt j L v h), ?_⟩
  rw [h]
  rfl
theorem lvl_get {ad : Nat → Nat} {L : List (Option Value)} {q : Nat × Value} (h : q ∈ lvl ad L) : ∃ v, ldv q.1 L = some v ∧ q.2 = rv ad v := by
  obtain ⟨j, -, hj⟩ := List.mem_filterMap.mp h
  cases hl : ldv j L with
  | none => rw [hl] at hj; cases hj
  | some v =>
    rw [hl] at hj
    cases hj
    exact ⟨v, hl, rfl⟩
theorem LH.has {ad : Nat → Nat} {ls : Array Slot} {n : Nat} {L : List (Option Value)} (h : LH ad ls n L) : lv_has ls n (lvl ad L) := by
  refine ⟨h.2.1, h.2.2.1, fun q hq => ?_⟩
  obtain ⟨v, h1, h2⟩ := lvl_get hq
  rw [h2]
  exact h.2.2.2 _ _ h1
theorem LH.place {ad : Nat → Nat} {ls : Array Slot} {n : Nat} {L : List (Option Value)} (h : LH ad ls n L) {i : Nat} {v : Value} (hv : ldv i L = some v) : ∃ k : Nat, (lvl ad L)[k]? = some (i, rv ad v) := List.getElem?_of_mem (lvl_mem hv)
theorem LH_sto {ad : Nat → Nat} {ls : Array Slot} {n i : Nat} {L : List (Option Value)} {v : Value} (hn : L.length = n) (h : lv_has ls n ((i, rv ad v) :: (lvl ad L).filter (fun q => !(q.1 == i) && !(q.1 + 1 == i && q.2.category == 2)))) : LH ad ls n (sto i v L) := by
  refine ⟨(sto_len i v L).trans hn, h.1, h.2.1, fun j w hw => ?_⟩
  rcases sto_get i v L j w hw with ⟨rfl, rfl⟩ | ⟨h1, h2, h3⟩
  · exact h.2.2 _ List.mem_cons_self
  · refine h.2.2 (j, rv ad w) (List.mem_cons_of_mem _ (List.mem_filter.mpr ⟨lvl_mem h2, ?_⟩))
    have e1 : (j == i) = false := by simp [h1]
    have e2 : (j + 1 == i && (rv ad w).category == 2) = false := by
      rw [rv_cat]
      by_cases a : j + 1 = i
      · by_cases b : w.category = 2
        · exact absurd ⟨a, b⟩ h3
        · simp [b]
      · simp [a]
    simp only [e1, e2]
    rfl
theorem LH_stl {ad : Nat → Nat} {ls : Array Slot} {n i : Nat} {L : List (Option Value)} {v : Value} (hn : L.length = n) (h : lv_has ls n ((i, rv ad v) :: (lvl ad L).filter (fun q => !(q.1 == i) && (!(q.1 == i + 1) && !(q.1 + 1 == i && q.2.category == 2))))) : LH ad ls n (sto i v (clr (i + 1) L)) := by
  refine ⟨(sto_len i v _).trans ((clr_len _ _).trans hn), h.1, h.2.1, fun j w hw => ?_⟩
  rcases sto_get i v _ j w hw with ⟨rfl, rfl⟩ | ⟨h1, h2, h3⟩
  · exact h.2.2 _ List.mem_cons_self
  · obtain ⟨h4, h5⟩ := clr_get _ _ _ _ h2
    refine h.2.2 (j, rv ad w) (List.mem_cons_of_mem _ (List.mem_filter.mpr ⟨lvl_mem h4, ?_⟩))
    have e1 : (j == i) = false := by simp [h1]
    have e3 : (j == i + 1) = false := by simp [h5]
    have e2 : (j + 1 == i && (rv ad w).category == 2) = false := by
      rw [rv_cat]
      by_cases a : j + 1 = i
      · by_cases b : w.category = 2
        · exact absurd ⟨a, b⟩ h3
        · simp [b]
      · simp [a]
    simp only [e1, e2, e3]
    rfl
/-! what the statics hold; the links' facts -/
def lst (g i : Nat) : Int32 := if g = 100 then (match i with
  | 0 => 1
  | 4 => 1
  | _ => 0) else (match i with
  | 0 => 100
  | 1 => 50
  | 2 => 80
  | 3 => 100
  | _ => 100)
def snm (g : Nat) : String := if g = 100 then "LEAST_VALUES" else "MOST_VALUES"
def Sta (ad : Nat → Nat) (A : Nat → Prop) (U : State) (H : Heap) : Prop := ∀ g, g = 100 ∨ g = 101 → va_Z "PhrasePool" (snm g) "[I" (.ref (ad g)) A U H ∧ va_T .int (ad g) 5 (fun i => .int (lst g i)) A U H
/-- a field's link: own class, index; the object's class, the field's place -/
def FL (o idx ci fi : Nat) : Prop := ∃ (C : String) (T : u_T) (N : Nat), vwCl[ci]? = some (C, T, N) ∧ fi < N ∧ (∀ w ∈ u_ws C T N, w ∈ g_tbl) ∧ (Cond.fieldLink (RN o) idx (T fi).1 (T fi).2.1 (T fi).2.2.1 ∈ g_tbl ∨ ∃ host, Cond.fieldLinkNest (RN o) idx (T fi).1 (T fi).2.1 (T fi).2.2.1 host ∈ n_tbl)
/-- a field that is written: not final, of this descriptor -/
def FP (o idx ci fi : Nat) (ds : String) : Prop := ∃ (C : String) (T : u_T) (N : Nat) (ty0 : Nat → FieldType), vwCl[ci]? = some (C, T, N) ∧ fi < N ∧ (∀ w ∈ u_ws C T N, w ∈ g_tbl) ∧ (∀ k, k < N → parseFieldDescriptor (T k).2.2.1 = some (ty0 k)) ∧ (∀ a, a < N → ∀ b, b < N → a ≠ b → (T a).2.1 ≠ (T b).2.1) ∧ (T fi).2.2.2 = false ∧ (T fi).2.2.1 = ds ∧ Cond.fieldLink (RN o) idx (T fi).1 (T fi).2.1 (T fi).2.2.1 ∈ g_tbl
/-- what every callee wants -/
def LK0 (M' : MD) (n : Nat) : Prop := Cond.code (my M') (mc M') (ml M') (mr M') ∈ g_tbl ∧ Cond.initialized (my M').cls ∈ g_tbl ∧ ((my M').cls ≠ "java/lang/invoke/MethodHandle" ∧ (my M').cls ≠ "java/lang/invoke/VarHandle" ∧ (parseMethodDescriptor (my M').desc).map (fun d => d.parameters.length) = some n) ∧ ml M' ≤ 16
def LKI (M' : MD) (n ci : Nat) : Prop := LK0 M' n ∧ Cond.instanceMethod (my M') ∈ g_tbl ∧ Cond.selects (my M').cls (my M') (my M') ∈ g_tbl ∧ (vwCl[ci]?).map (fun q => q.1) = some (my M').cls
def LKV (o idx : Nat) (M' : MD) (n ci : Nat) : Prop := LKI M' n ci ∧ Cond.methodLink (RN o) idx (my M') ∈ g_tbl
def LKN (o idx : Nat) (M' : MD) (n ci : Nat) : Prop := LKI M' n ci ∧ ∃ host, Cond.methodLinkNest (RN o) idx (my M') host ∈ n_tbl
def LKS (o idx : Nat) (M' : MD) (n : Nat) : Prop := LK0 M' n ∧ Cond.methodLink (RN o) idx (my M') ∈ g_tbl ∧ Cond.static (my M') ∈ g_tbl
/-! the judgement -/
def AA (ad : Nat → Nat) (sz : Nat) : Nat → Prop := fun q => (∃ k, k < 46 ∧ q = ad k) ∨ sz ≤ q
def rmd (d : Nat) : Room := { frames := d, cells := 0, slots := 0, locals := 35 * d }
abbrev Scr : Type := Nat × (Nat → Int32)
def VCtx (M : MD) (d : Nat) (sc : Scr) (p : Program) (R : Room) (s : State) (m : MethodId) (args : Array Value) (meth : Method) (c : Code) (D : va_G) (ad : Nat → Nat) (cI cZ cII : ClassId) (A : Nat → Prop) (cells slots : Nat) : Prop :=
  p.tables.exec = Jvm.exec ∧ c.code = mc M ∧ c.maxLocals = ml M ∧ meth.sig.returnType = mr M ∧ meth.locks = false ∧ (∀ w ∈ g_tbl, w.before args s = true) ∧ s.vm.findClass (RN (mo M)) = some m.cls ∧ (∀ w ∈ n_tbl, va_Nw w s) ∧ va_K D vwCl [(cI, .int), (cZ, .boolean), (cII, .array .int)] s ∧ Sta ad A s s.heap ∧ (∀ q, s.heap.size ≤ q → A q) ∧ (d ≤ R.frames ∧ 35 * d ≤ R.locals ∧ cells ≤ R.cells ∧ slots ≤ R.slots) ∧ (mo M = 8 → va_X (ad 102) sc.1 sc.2 s s.heap ∧ ad 102 < s.heap.size ∧ ¬ A (ad 102))
def Wd (D : va_G) (ad : Nat → Nat) (cI cZ cII : ClassId) (A : Nat → Prop) (s : State) (σ : SS) (H : Heap) (locs : List Loc) : Prop := va_P D vwCl (wld ad cI cZ cII σ) H ∧ va_D A (wld ad cI cZ cII σ) ∧ va_S A s.heap H locs
def isRet (M : MD) (r : Option Value) (pc : Nat) : Prop := match r with
  | none => decode (mc M) pc = .ok (.return_, 1) ∧ mr M = none
  | some (.int v) => decode (mc M) pc = .ok (.ireturn, 1) ∧ ∃ ty, mr M = some ty ∧ narrow ty (.int v) = .int v
  | some (.long _) => decode (mc M) pc = .ok (.lreturn, 1) ∧ mr M = some .long
  | _ => False
def VV (M : MD) (d : Nat) (sc : Scr) (pc : Nat) (L : List (Option Value)) (st : List Value) (σ : SS) (Q : Option Value → SS → Prop) : Prop :=
  ∀ (p : Program) (l : Launch) (e : Env) (R : Room) (s : State) (m : MethodId) (args : Array Value) (below : List Frame) (meth : Method) (c : Code) (D : va_G) (ad : Nat → Nat) (cI cZ cII : ClassId) (A : Nat → Prop) (cells slots : Nat) (Z : State → Prop), VCtx M d sc p R s m args meth c D ad cI cZ cII A cells slots →
    (∀ (r : Option Value) (σ' : SS) (H : Heap) (locs : List Loc) (ls : Array Slot) (pc' : Nat), isRet M r pc' → Q r σ' → Wd D ad cI cZ cII A s σ' H locs → W p l e R s m args below meth c H locs cells slots Z (F0 m pc' ls ((r.toList).map (rv ad)))) →
    ∀ (H : Heap) (locs : List Loc) (ls : Array Slot), Wd D ad cI cZ cII A s σ H locs → LH ad ls (ml M) L → W p l e R s m args below meth c H locs cells slots Z (F0 m pc ls (st.map (rv ad)))

section RULES
variable {M : MD} {d pc q : Nat} {sc : Scr} {L : List (Option Value)} {st : List Value} {σ : SS} {Q : Option Value → SS → Prop}
theorem v_iconst {n : Int} {v : Int32} (hd : decode (mc M) pc = .ok (.iconst n, 1)) (hq : pc + 1 = q) (hv : Int32.ofInt n = v) (k : VV M d sc q L (.int v :: st) σ Q) : VV M d sc pc L (st) σ Q := by
  subst hq
  intro p l e R s m args below meth c D ad cI cZ cII A cells slots Z C hZ H locs ls hW hL
  exact lv_iconst C.1 C.2.1 hd hv (k p l e R s m args below meth c D ad cI cZ cII A cells slots Z C hZ H locs ls hW hL)
theorem v_bipush {n : Int} {v : Int32} (hd : decode (mc M) pc = .ok (.bipush n, 2)) (hq : pc + 2 = q) (hv : (Int8.ofInt n).toInt32 = v) (k : VV M d sc q L (.int v :: st) σ Q) : VV M d sc pc L (st) σ Q := by
  subst hq
  intro p l e R s m args below meth c D ad cI cZ cII A cells slots Z C hZ H locs ls hW hL
  exact lv_bipush C.1 C.2.1 hd hv (k p l e R s m args below meth c D ad cI cZ cII A cells slots Z C hZ H locs ls hW hL)
theorem v_sipush {n : Int} {v : Int32} (hd : decode (mc M) pc = .ok (.sipush n, 3)) (hq : pc + 3 = q) (hv : (Int16.ofInt n).toInt32 = v) (k : VV M d sc q L (.int v :: st) σ Q) : VV M d sc pc L (st) σ Q := by
  subst hq
  intro p l e R s m args below meth c D ad cI cZ cII A cells slots Z C hZ H locs ls hW hL
  exact lv_sipush C.1 C.2.1 hd hv (k p l e R s m args below meth c D ad cI cZ cII A cells slots Z C hZ H locs ls hW hL)
theorem v_ldc {idx : Nat} {v : Int32} (hd : decode (mc M) pc = .ok (.ldc idx, 2)) (hq : pc + 2 = q) (hc : Cond.constant (RN (mo M)) idx v ∈ g_tbl) (k : VV M d sc q L (.int v :: st) σ Q) : VV M d sc pc L (st) σ Q := by
  subst hq
  intro p l e R s m args below meth c D ad cI cZ cII A cells slots Z C hZ H locs ls hW hL
  obtain ⟨hx, hb, hml, hr, hlk, hts, hown, hnw, hK, hSt, hA, hR, hlaw⟩ := id C
  exact lv_ldc hx hb hown (hts _ hc) hd (k p l e R s m args below meth c D ad cI cZ cII A cells slots Z C hZ H locs ls hW hL)
theorem v_ldc2 {idx : Nat} {v : Int64} (hd : decode (mc M) pc = .ok (.ldc2_w idx, 3)) (hq : pc + 3 = q) (hc : Cond.constantLong (RN (mo M)) idx v ∈ g_tbl) (k : VV M d sc q L (.long v :: st) σ Q) : VV M d sc pc L (st) σ Q := by
  subst hq
  intro p l e R s m args below meth c D ad cI cZ cII A cells slots Z C hZ H locs ls hW hL
  obtain ⟨hx, hb, hml, hr, hlk, hts, hown, hnw, hK, hSt, hA, hR, hlaw⟩ := id C
  exact lv_ldc2 hx hb hown (hts _ hc) hd (k p l e R s m args below meth c D ad cI cZ cII A cells slots Z C hZ H locs ls hW hL)
theorem v_iload_n {f : Fin 4} {x : Int32} (hd : decode (mc M) pc = .ok (.iload_n f, 1)) (hq : pc + 1 = q) (h : ldv f L = some (.int x)) (k : VV M d sc q L (.int x :: st) σ Q) : VV M d sc pc L (st) σ Q := by
  subst hq
  intro p l e R s m args below meth c D ad cI cZ cII A cells slots Z C hZ H locs ls hW hL
  exact lv_iload_n C.1 C.2.1 hd rfl (hL.2.2.2 _ _ h) (k p l e R s m args below meth c D ad cI cZ cII A cells slots Z C hZ H locs ls hW hL)
theorem v_iload {i : Nat} {x : Int32} (hd : decode (mc M) pc = .ok (.iload i, 2)) (hq : pc + 2 = q) (h : ldv i L = some (.int x)) (k : VV M d sc q L (.int x :: st) σ Q) : VV M d sc pc L (st) σ Q := by
  subst hq
  intro p l e R s m args below meth c D ad cI cZ cII A cells slots Z C hZ H locs ls hW hL
  exact lv_iload C.1 C.2.1 hd (hL.2.2.2 _ _ h) (k p l e R s m args below meth c D ad cI cZ cII A cells slots Z C hZ H locs ls hW hL)
theorem v_lload_n {f : Fin 4} {x : Int64} (hd : decode (mc M) pc = .ok (.lload_n f, 1)) (hq : pc + 1 = q) (h : ldv f L = some (.long x)) (k : VV M d sc q L (.long x :: st) σ Q) : VV M d sc pc L (st) σ Q := by
  subst hq
  intro p l e R s m args below meth c D ad cI cZ cII A cells slots Z C hZ H locs ls hW hL
  exact lv_lload_n C.1 C.2.1 hd rfl (hL.2.2.2 _ _ h) (k p l e R s m args below meth c D ad cI cZ cII A cells slots Z C hZ H locs ls hW hL)
theorem v_lload {i : Nat} {x : Int64} (hd : decode (mc M) pc = .ok (.lload i, 2)) (hq : pc + 2 = q) (h : ldv i L = some (.long x)) (k : VV M d sc q L (.long x :: st) σ Q) : VV M d sc pc L (st) σ Q := by
  subst hq
  intro p l e R s m args below meth c D ad cI cZ cII A cells slots Z C hZ H locs ls hW hL
  exact lv_lload C.1 C.2.1 hd (hL.2.2.2 _ _ h) (k p l e R s m args below meth c D ad cI cZ cII A cells slots Z C hZ H locs ls hW hL)
theorem v_aload_n {f : Fin 4} {x : Nat} (hd : decode (mc M) pc = .ok (.aload_n f, 1)) (hq : pc + 1 = q) (h : ldv f L = some (.ref x)) (k : VV M d sc q L (.ref x :: st) σ Q) : VV M d sc pc L (st) σ Q := by
  subst hq
  intro p l e R s m args below meth c D ad cI cZ cII A cells slots Z C hZ H locs ls hW hL
  exact lv_aload_n C.1 C.2.1 hd rfl (hL.2.2.2 _ _ h) (k p l e R s m args below meth c D ad cI cZ cII A cells slots Z C hZ H locs ls hW hL)
theorem v_aload {i : Nat} {x : Nat} (hd : decode (mc M) pc = .ok (.aload i, 2)) (hq : pc + 2 = q) (h : ldv i L = some (.ref x)) (k : VV M d sc q L (.ref x :: st) σ Q) : VV M d sc pc L (st) σ Q := by
  subst hq
  intro p l e R s m args below meth c D ad cI cZ cII A cells slots Z C hZ H locs ls hW hL
  exact lv_aload C.1 C.2.1 hd (hL.2.2.2 _ _ h) (k p l e R s m args below meth c D ad cI cZ cII A cells slots Z C hZ H locs ls hW hL)
theorem v_istore_n {f : Fin 4} {x : Int32} {L2 : List (Option Value)} (hd : decode (mc M) pc = .ok (.istore_n f, 1)) (hq : pc + 1 = q) (hi : f < ml M) (hl : sto f (.int x) L = L2) (k : VV M d sc q L2 st σ Q) : VV M d sc pc L ((.int x) :: st) σ Q := by
  subst hq
  subst hl
  intro p l e R s m args below meth c D ad cI cZ cII A cells slots Z C hZ H locs ls hW hL
  exact lv_istore_n C.1 C.2.1 hd rfl hL.has hi rfl (fun ls hl => k p l e R s m args below meth c D ad cI cZ cII A cells slots Z C hZ H locs ls hW (LH_sto (v := .int x) hL.1 hl))
theorem v_istore {i : Nat} {x : Int32} {L2 : List (Option Value)} (hd : decode (mc M) pc = .ok (.istore i, 2)) (hq : pc + 2 = q) (hi : i < ml M) (hl : sto i (.int x) L = L2) (k : VV M d sc q L2 st σ Q) : VV M d sc pc L ((.int x) :: st) σ Q := by
  subst hq
  subst hl
  intro p l e R s m args below meth c D ad cI cZ cII A cells slots Z C hZ H locs ls hW hL
  exact lv_istore C.1 C.2.1 hd hL.has hi rfl (fun ls hl => k p l e R s m args below meth c D ad cI cZ cII A cells slots Z C hZ H locs ls hW (LH_sto (v := .int x) hL.1 hl))
theorem v_astore_n {f : Fin 4} {x : Nat} {L2 : List (Option Value)} (hd : decode (mc M) pc = .ok (.astore_n f, 1)) (hq : pc + 1 = q) (hi : f < ml M) (hl : sto f (.ref x) L = L2) (k : VV M d sc q L2 st σ Q) : VV M d sc pc L ((.ref x) :: st) σ Q := by
  subst hq
  subst hl
  intro p l e R s m args below meth c D ad cI cZ cII A cells slots Z C hZ H locs ls hW hL
  exact lv_astore_n C.1 C.2.1 hd rfl hL.has hi rfl (fun ls hl => k p l e R s m args below meth c D ad cI cZ cII A cells slots Z C hZ H locs ls hW (LH_sto (v := .ref x) hL.1 hl))
theorem v_astore {i : Nat} {x : Nat} {L2 : List (Option Value)} (hd : decode (mc M) pc = .ok (.astore i, 2)) (hq : pc + 2 = q) (hi : i < ml M) (hl : sto i (.ref x) L = L2) (k : VV M d sc q L2 st σ Q) : VV M d sc pc L ((.ref x) :: st) σ Q := by
  subst hq
  subst hl
  intro p l e R s m args below meth c D ad cI cZ cII A cells slots Z C hZ H locs ls hW hL
  exact lv_astore C.1 C.2.1 hd hL.has hi rfl (fun ls hl => k p l e R s m args below meth c D ad cI cZ cII A cells slots Z C hZ H locs ls hW (LH_sto (v := .ref x) hL.1 hl))
theorem v_lstore_n {f : Fin 4} {x : Int64} {L2 : List (Option Value)} (hd : decode (mc M) pc = .ok (.lstore_n f, 1)) (hq : pc + 1 = q) (hi : f + 1 < ml M) (hl : sto f (.long x) (clr (f + 1) L) = L2) (k : VV M d sc q L2 st σ Q) : VV M d sc pc L ((.long x) :: st) σ Q := by
  subst hq
  subst hl
  intro p l e R s m args below meth c D ad cI cZ cII A cells slots Z C hZ H locs ls hW hL
  exact lv_lstore_n C.1 C.2.1 hd rfl hL.has hi rfl (fun ls hl => k p l e R s m args below meth c D ad cI cZ cII A cells slots Z C hZ H locs ls hW (LH_stl (v := .long x) hL.1 hl))
theorem v_lstore {i : Nat} {x : Int64} {L2 : List (Option Value)} (hd : decode (mc M) pc = .ok (.lstore i, 2)) (hq : pc + 2 = q) (hi : i + 1 < ml M) (hl : sto i (.long x) (clr (i + 1) L) = L2) (k : VV M d sc q L2 st σ Q) : VV M d sc pc L ((.long x) :: st) σ Q := by
  subst hq
  subst hl
  intro p l e R s m args below meth c D ad cI cZ cII A cells slots Z C hZ H locs ls hW hL
  exact lv_lstore C.1 C.2.1 hd hL.has hi rfl (fun ls hl => k p l e R s m args below meth c D ad cI cZ cII A cells slots Z C hZ H locs ls hW (LH_stl (v := .long x) hL.1 hl))
theorem v_iinc {i : Nat} {n : Int} {x y : Int32} {L2 : List (Option Value)} (hd : decode (mc M) pc = .ok (.iinc i n, 3)) (hq : pc + 3 = q) (h : ldv i L = some (.int x)) (hy : x + Int32.ofInt n = y) (hi : i < ml M) (hl : sto i (.int y) L = L2) (k : VV M d sc q L2 st σ Q) : VV M d sc pc L st σ Q := by
  subst hq
  subst hl
  intro p l e R s m args below meth c D ad cI cZ cII A cells slots Z C hZ H locs ls hW hL
  obtain ⟨k0, hk0⟩ := hL.place h
  exact lv_iinc (k := k0) C.1 C.2.1 hd hL.has hk0 hy hi rfl (fun ls hl => k p l e R s m args below meth c D ad cI cZ cII A cells slots Z C hZ H locs ls hW (LH_sto (v := .int y) hL.1 hl))
theorem v_iadd {x y : Int32} (hd : decode (mc M) pc = .ok (.iadd, 1)) (hq : pc + 1 = q) (k : VV M d sc q L (.int (x + y) :: st) σ Q) : VV M d sc pc L (.int y :: .int x :: st) σ Q := by
  subst hq
  intro p l e R s m args below meth c D ad cI cZ cII A cells slots Z C hZ H locs ls hW hL
  exact lv_iadd C.1 C.2.1 hd (k p l e R s m args below meth c D ad cI cZ cII A cells slots Z C hZ H locs ls hW hL)
theorem v_isub {x y : Int32} (hd : decode (mc M) pc = .ok (.isub, 1)) (hq : pc + 1 = q) (k : VV M d sc q L (.int (x - y) :: st) σ Q) : VV M d sc pc L (.int y :: .int x :: st) σ Q := by
  subst hq
  intro p l e R s m args below meth c D ad cI cZ cII A cells slots Z C hZ H locs ls hW hL
  exact lv_isub C.1 C.2.1 hd (k p l e R s m args below meth c D ad cI cZ cII A cells slots Z C hZ H locs ls hW hL)
theorem v_imul {x y : Int32} (hd : decode (mc M) pc = .ok (.imul, 1)) (hq : pc + 1 = q) (k : VV M d sc q L (.int (x * y) :: st) σ Q) : VV M d sc pc L (.int y :: .int x :: st) σ Q := by
  subst hq
  intro p l e R s m args below meth c D ad cI cZ cII A cells slots Z C hZ H locs ls hW hL
  exact lv_imul C.1 C.2.1 hd (k p l e R s m args below meth c D ad cI cZ cII A cells slots Z C hZ H locs ls hW hL)
theorem v_iand {x y : Int32} (hd : decode (mc M) pc = .ok (.iand, 1)) (hq : pc + 1 = q) (k : VV M d sc q L (.int (x &&& y) :: st) σ Q) : VV M d sc pc L (.int y :: .int x :: st) σ Q := by
  subst hq
  intro p l e R s m args below meth c D ad cI cZ cII A cells slots Z C hZ H locs ls hW hL
  exact lv_iand C.1 C.2.1 hd (k p l e R s m args below meth c D ad cI cZ cII A cells slots Z C hZ H locs ls hW hL)
theorem v_ior {x y : Int32} (hd : decode (mc M) pc = .ok (.ior, 1)) (hq : pc + 1 = q) (k : VV M d sc q L (.int (x ||| y) :: st) σ Q) : VV M d sc pc L (.int y :: .int x :: st) σ Q := by
  subst hq
  intro p l e R s m args below meth c D ad cI cZ cII A cells slots Z C hZ H locs ls hW hL
  exact lv_ior C.1 C.2.1 hd (k p l e R s m args below meth c D ad cI cZ cII A cells slots Z C hZ H locs ls hW hL)
theorem v_ishl {x y : Int32} (hd : decode (mc M) pc = .ok (.ishl, 1)) (hq : pc + 1 = q) (k : VV M d sc q L (.int (x <<< (y &&& 31)) :: st) σ Q) : VV M d sc pc L (.int y :: .int x :: st) σ Q := by
  subst hq
  intro p l e R s m args below meth c D ad cI cZ cII A cells slots Z C hZ H locs ls hW hL
  exact lv_ishl C.1 C.2.1 hd (k p l e R s m args below meth c D ad cI cZ cII A cells slots Z C hZ H locs ls hW hL)
theorem v_ishr {x y : Int32} (hd : decode (mc M) pc = .ok (.ishr, 1)) (hq : pc + 1 = q) (k : VV M d sc q L (.int (x >>> (y &&& 31)) :: st) σ Q) : VV M d sc pc L (.int y :: .int x :: st) σ Q := by
  subst hq
  intro p l e R s m args below meth c D ad cI cZ cII A cells slots Z C hZ H locs ls hW hL
  exact lv_ishr C.1 C.2.1 hd (k p l e R s m args below meth c D ad cI cZ cII A cells slots Z C hZ H locs ls hW hL)
theorem v_idiv {x y : Int32} (hd : decode (mc M) pc = .ok (.idiv, 1)) (hq : pc + 1 = q) (hne : ¬ y = 0) (k : VV M d sc q L (.int (x / y) :: st) σ Q) : VV M d sc pc L (.int y :: .int x :: st) σ Q := by
  subst hq
  intro p l e R s m args below meth c D ad cI cZ cII A cells slots Z C hZ H locs ls hW hL
  exact lv_idiv C.1 C.2.1 hd hne (k p l e R s m args below meth c D ad cI cZ cII A cells slots Z C hZ H locs ls hW hL)
theorem v_irem {x y : Int32} (hd : decode (mc M) pc = .ok (.irem, 1)) (hq : pc + 1 = q) (hne : ¬ y = 0) (k : VV M d sc q L (.int (x - x / y * y) :: st) σ Q) : VV M d sc pc L (.int y :: .int x :: st) σ Q := by
  subst hq
  intro p l e R s m args below meth c D ad cI cZ cII A cells slots Z C hZ H locs ls hW hL
  exact lv_irem C.1 C.2.1 hd hne (k p l e R s m args below meth c D ad cI cZ cII A cells slots Z C hZ H locs ls hW hL)
theorem v_ineg {x : Int32} (hd : decode (mc M) pc = .ok (.ineg, 1)) (hq : pc + 1 = q) (k : VV M d sc q L (.int (-x) :: st) σ Q) : VV M d sc pc L (.int x :: st) σ Q := by
  subst hq
  intro p l e R s m args below meth c D ad cI cZ cII A cells slots Z C hZ H locs ls hW hL
  exact lv_ineg C.1 C.2.1 hd (k p l e R s m args below meth c D ad cI cZ cII A cells slots Z C hZ H locs ls hW hL)
theorem v_i2l {x : Int32} (hd : decode (mc M) pc = .ok (.i2l, 1)) (hq : pc + 1 = q) (k : VV M d sc q L (.long x.toInt64 :: st) σ Q) : VV M d sc pc L (.int x :: st) σ Q := by
  subst hq
  intro p l e R s m args below meth c D ad cI cZ cII A cells slots Z C hZ H locs ls hW hL
  exact lv_i2l C.1 C.2.1 hd rfl (k p l e R s m args below meth c D ad cI cZ cII A cells slots Z C hZ H locs ls hW hL)
theorem v_ladd {x y : Int64} (hd : decode (mc M) pc = .ok (.ladd, 1)) (hq : pc + 1 = q) (k : VV M d sc q L (.long (x + y) :: st) σ Q) : VV M d sc pc L (.long y :: .long x :: st) σ Q := by
  subst hq
  intro p l e R s m args below meth c D ad cI cZ cII A cells slots Z C hZ H locs ls hW hL
  exact lv_ladd C.1 C.2.1 hd (k p l e R s m args below meth c D ad cI cZ cII A cells slots Z C hZ H locs ls hW hL)
theorem v_lmul {x y : Int64} (hd : decode (mc M) pc = .ok (.lmul, 1)) (hq : pc + 1 = q) (k : VV M d sc q L (.long (x * y) :: st) σ Q) : VV M d sc pc L (.long y :: .long x :: st) σ Q := by
  subst hq
  intro p l e R s m args below meth c D ad cI cZ cII A cells slots Z C hZ H locs ls hW hL
  exact lv_lmul C.1 C.2.1 hd (k p l e R s m args below meth c D ad cI cZ cII A cells slots Z C hZ H locs ls hW hL)
theorem v_lcmp {x y : Int64} (hd : decode (mc M) pc = .ok (.lcmp, 1)) (hq : pc + 1 = q) (k : VV M d sc q L (.int (lg_cmp x y) :: st) σ Q) : VV M d sc pc L (.long y :: .long x :: st) σ Q := by
  subst hq
  intro p l e R s m args below meth c D ad cI cZ cII A cells slots Z C hZ H locs ls hW hL
  exact W.lcmp C.1 C.2.1 hd (k p l e R s m args below meth c D ad cI cZ cII A cells slots Z C hZ H locs ls hW hL)
theorem v_dup {v : Value} (hd : decode (mc M) pc = .ok (.dup, 1)) (hq : pc + 1 = q) (hv : v.category = 1) (k : VV M d sc q L (v :: v :: st) σ Q) : VV M d sc pc L (v :: st) σ Q := by
  subst hq
  intro p l e R s m args below meth c D ad cI cZ cII A cells slots Z C hZ H locs ls hW hL
  exact lv_dup C.1 C.2.1 hd (by rw [rv_cat]; exact hv) (k p l e R s m args below meth c D ad cI cZ cII A cells slots Z C hZ H locs ls hW hL)
theorem v_dup2 {v w : Value} (hd : decode (mc M) pc = .ok (.dup2, 1)) (hq : pc + 1 = q) (hv : v.category = 1) (hw : w.category = 1) (k : VV M d sc q L (v :: w :: v :: w :: st) σ Q) : VV M d sc pc L (v :: w :: st) σ Q := by
  subst hq
  intro p l e R s m args below meth c D ad cI cZ cII A cells slots Z C hZ H locs ls hW hL
  exact lv_dup2_11 C.1 C.2.1 hd (by rw [rv_cat]; exact hv) (by rw [rv_cat]; exact hw) (k p l e R s m args below meth c D ad cI cZ cII A cells slots Z C hZ H locs ls hW hL)
theorem v_goto {off : Int} (hd : decode (mc M) pc = .ok (.goto off, 3)) (hq : (pc : Int) + off = (q : Int)) (k : VV M d sc q L st σ Q) : VV M d sc pc L st σ Q := by
  intro p l e R s m args below meth c D ad cI cZ cII A cells slots Z C hZ H locs ls hW hL
  exact lv_goto C.1 C.2.1 hd hq (k p l e R s m args below meth c D ad cI cZ cII A cells slots Z C hZ H locs ls hW hL)
theorem v_if_eq {x : Int32} {off : Int} {t : Nat} (hd : decode (mc M) pc = .ok (.ifCond .eq off, 3)) (hq : pc + 3 = q) (ht : (pc : Int) + off = (t : Int)) (kt : x = 0 → VV M d sc t L st σ Q) (kf : ¬ x = 0 → VV M d sc q L st σ Q) : VV M d sc pc L (.int x :: st) σ Q := by
  subst hq
  intro p l e R s m args below meth c D ad cI cZ cII A cells slots Z C hZ H locs ls hW hL
  exact lv_if_eq C.1 C.2.1 hd ht (fun h => kt h p l e R s m args below meth c D ad cI cZ cII A cells slots Z C hZ H locs ls hW hL) (fun h => kf h p l e R s m args below meth c D ad cI cZ cII A cells slots Z C hZ H locs ls hW hL)
theorem v_icmp_eq {x y : Int32} {off : Int} {t : Nat} (hd : decode (mc M) pc = .ok (.if_icmp .eq off, 3)) (hq : pc + 3 = q) (ht : (pc : Int) + off = (t : Int)) (kt : x = y → VV M d sc t L st σ Q) (kf : ¬ x = y → VV M d sc q L st σ Q) : VV M d sc pc L (.int y :: .int x :: st) σ Q := by
  subst hq
  intro p l e R s m args below meth c D ad cI cZ cII A cells slots Z C hZ H locs ls hW hL
  exact lv_icmp_eq C.1 C.2.1 hd ht (fun h => kt h p l e R s m args below meth c D ad cI cZ cII A cells slots Z C hZ H locs ls hW hL) (fun h => kf h p l e R s m args below meth c D ad cI cZ cII A cells slots Z C hZ H locs ls hW hL)
theorem v_if_ne {x : Int32} {off : Int} {t : Nat} (hd : decode (mc M) pc = .ok (.ifCond .ne off, 3)) (hq : pc + 3 = q) (ht : (pc : Int) + off = (t : Int)) (kt : ¬ x = 0 → VV M d sc t L st σ Q) (kf : x = 0 → VV M d sc q L st σ Q) : VV M d sc pc L (.int x :: st) σ Q := by
  subst hq
  intro p l e R s m args below meth c D ad cI cZ cII A cells slots Z C hZ H locs ls hW hL
  exact lv_if_ne C.1 C.2.1 hd ht (fun h => kt h p l e R s m args below meth c D ad cI cZ cII A cells slots Z C hZ H locs ls hW hL) (fun h => kf h p l e R s m args below meth c D ad cI cZ cII A cells slots Z C hZ H locs ls hW hL)
theorem v_icmp_ne {x y : Int32} {off : Int} {t : Nat} (hd : decode (mc M) pc = .ok (.if_icmp .ne off, 3)) (hq : pc + 3 = q) (ht : (pc : Int) + off = (t : Int)) (kt : ¬ x = y → VV M d sc t L st σ Q) (kf : x = y → VV M d sc q L st σ Q) : VV M d sc pc L (.int y :: .int x :: st) σ Q := by
  subst hq
  intro p l e R s m args below meth c D ad cI cZ cII A cells slots Z C hZ H locs ls hW hL
  exact lv_icmp_ne C.1 C.2.1 hd ht (fun h => kt h p l e R s m args below meth c D ad cI cZ cII A cells slots Z C hZ H locs ls hW hL) (fun h => kf h p l e R s m args below meth c D ad cI cZ cII A cells slots Z C hZ H locs ls hW hL)
theorem v_if_lt {x : Int32} {off : Int} {t : Nat} (hd : decode (mc M) pc = .ok (.ifCond .lt off, 3)) (hq : pc + 3 = q) (ht : (pc : Int) + off = (t : Int)) (kt : x < 0 → VV M d sc t L st σ Q) (kf : ¬ x < 0 → VV M d sc q L st σ Q) : VV M d sc pc L (.int x :: st) σ Q := by
  subst hq
  intro p l e R s m args below meth c D ad cI cZ cII A cells slots Z C hZ H locs ls hW hL
  exact lv_if_lt C.1 C.2.1 hd ht (fun h => kt h p l e R s m args below meth c D ad cI cZ cII A cells slots Z C hZ H locs ls hW hL) (fun h => kf h p l e R s m args below meth c D ad cI cZ cII A cells slots Z C hZ H locs ls hW hL)
theorem v_icmp_lt {x y : Int32} {off : Int} {t : Nat} (hd : decode (mc M) pc = .ok (.if_icmp .lt off, 3)) (hq : pc + 3 = q) (ht : (pc : Int) + off = (t : Int)) (kt : x < y → VV M d sc t L st σ Q) (kf : ¬ x < y → VV M d sc q L st σ Q) : VV M d sc pc L (.int y :: .int x :: st) σ Q := by
  subst hq
  intro p l e R s m args below meth c D ad cI cZ cII A cells slots Z C hZ H locs ls hW hL
  exact lv_icmp_lt C.1 C.2.1 hd ht (fun h => kt h p l e R s m args below meth c D ad cI cZ cII A cells slots Z C hZ H locs ls hW hL) (fun h => kf h p l e R s m args below meth c D ad cI cZ cII A cells slots Z C hZ H locs ls hW hL)
theorem v_if_ge {x : Int32} {off : Int} {t : Nat} (hd : decode (mc M) pc = .ok (.ifCond .ge off, 3)) (hq : pc + 3 = q) (ht : (pc : Int) + off = (t : Int)) (kt : 0 ≤ x → VV M d sc t L st σ Q) (kf : ¬ 0 ≤ x → VV M d sc q L st σ Q) : VV M d sc pc L (.int x :: st) σ Q := by
  subst hq
  intro p l e R s m args below meth c D ad cI cZ cII A cells slots Z C hZ H locs ls hW hL
  exact lv_if_ge C.1 C.2.1 hd ht (fun h => kt h p l e R s m args below meth c D ad cI cZ cII A cells slots Z C hZ H locs ls hW hL) (fun h => kf h p l e R s m args below meth c D ad cI cZ cII A cells slots Z C hZ H locs ls hW hL)
theorem v_icmp_ge {x y : Int32} {off : Int} {t : Nat} (hd : decode (mc M) pc = .ok (.if_icmp .ge off, 3)) (hq : pc + 3 = q) (ht : (pc : Int) + off = (t : Int)) (kt : y ≤ x → VV M d sc t L st σ Q) (kf : ¬ y ≤ x → VV M d sc q L st σ Q) : VV M d sc pc L (.int y :: .int x :: st) σ Q := by
  subst hq
  intro p l e R s m args below meth c D ad cI cZ cII A cells slots Z C hZ H locs ls hW hL
  exact lv_icmp_ge C.1 C.2.1 hd ht (fun h => kt h p l e R s m args below meth c D ad cI cZ cII A cells slots Z C hZ H locs ls hW hL) (fun h => kf h p l e R s m args below meth c D ad cI cZ cII A cells slots Z C hZ H locs ls hW hL)
theorem v_if_gt {x : Int32} {off : Int} {t : Nat} (hd : decode (mc M) pc = .ok (.ifCond .gt off, 3)) (hq : pc + 3 = q) (ht : (pc : Int) + off = (t : Int)) (kt : 0 < x → VV M d sc t L st σ Q) (kf : ¬ 0 < x → VV M d sc q L st σ Q) : VV M d sc pc L (.int x :: st) σ Q := by
  subst hq
  intro p l e R s m args below meth c D ad cI cZ cII A cells slots Z C hZ H locs ls hW hL
  exact lv_if_gt C.1 C.2.1 hd ht (fun h => kt h p l e R s m args below meth c D ad cI cZ cII A cells slots Z C hZ H locs ls hW hL) (fun h => kf h p l e R s m args below meth c D ad cI cZ cII A cells slots Z C hZ H locs ls hW hL)
theorem v_icmp_gt {x y : Int32} {off : Int} {t : Nat} (hd : decode (mc M) pc = .ok (.if_icmp .gt off, 3)) (hq : pc + 3 = q) (ht : (pc : Int) + off = (t : Int)) (kt : y < x → VV M d sc t L st σ Q) (kf : ¬ y < x → VV M d sc q L st σ Q) : VV M d sc pc L (.int y :: .int x :: st) σ Q := by
  subst hq
  intro p l e R s m args below meth c D ad cI cZ cII A cells slots Z C hZ H locs ls hW hL
  exact lv_icmp_gt C.1 C.2.1 hd ht (fun h => kt h p l e R s m args below meth c D ad cI cZ cII A cells slots Z C hZ H locs ls hW hL) (fun h => kf h p l e R s m args below meth c D ad cI cZ cII A cells slots Z C hZ H locs ls hW hL)
theorem v_if_le {x : Int32} {off : Int} {t : Nat} (hd : decode (mc M) pc = .ok (.ifCond .le off, 3)) (hq : pc + 3 = q) (ht : (pc : Int) + off = (t : Int)) (kt : x ≤ 0 → VV M d sc t L st σ Q) (kf : ¬ x ≤ 0 → VV M d sc q L st σ Q) : VV M d sc pc L (.int x :: st) σ Q := by
  subst hq
  intro p l e R s m args below meth c D ad cI cZ cII A cells slots Z C hZ H locs ls hW hL
  exact lv_if_le C.1 C.2.1 hd ht (fun h => kt h p l e R s m args below meth c D ad cI cZ cII A cells slots Z C hZ H locs ls hW hL) (fun h => kf h p l e R s m args below meth c D ad cI cZ cII A cells slots Z C hZ H locs ls hW hL)
theorem v_icmp_le {x y : Int32} {off : Int} {t : Nat} (hd : decode (mc M) pc = .ok (.if_icmp .le off, 3)) (hq : pc + 3 = q) (ht : (pc : Int) + off = (t : Int)) (kt : x ≤ y → VV M d sc t L st σ Q) (kf : ¬ x ≤ y → VV M d sc q L st σ Q) : VV M d sc pc L (.int y :: .int x :: st) σ Q := by
  subst hq
  intro p l e R s m args below meth c D ad cI cZ cII A cells slots Z C hZ H locs ls hW hL
  exact lv_icmp_le C.1 C.2.1 hd ht (fun h => kt h p l e R s m args below meth c D ad cI cZ cII A cells slots Z C hZ H locs ls hW hL) (fun h => kf h p l e R s m args below meth c D ad cI cZ cII A cells slots Z C hZ H locs ls hW hL)
theorem v_tsw {n : Nat} {offs : Array Int} {dflt hi : Int} {len : Nat} {x : Int32} {tg : Nat → Nat} {t : Nat} (hd : decode (mc M) pc = .ok (.tableswitch dflt 0 hi offs, len)) (hn : hi = (n : Int) - 1) (hn2 : n < 2 ^ 31) (ho : ∀ k : Nat, k < n → ∃ off, offs[k]? = some off ∧ (pc : Int) + off = (tg k : Int)) (ht : (pc : Int) + dflt = (t : Int)) (kin : ∀ k : Nat, k < n → x = nI k → VV M d sc (tg k) L st σ Q) (kout : (∀ k : Nat, k < n → ¬ x = nI k) → VV M d sc t L st σ Q) : VV M d sc pc L (.int x :: st) σ Q := by
  intro p l e R s m args below meth c D ad cI cZ cII A cells slots Z C hZ H locs ls hW hL
  by_cases h : 0 ≤ x.toInt ∧ x.toInt < n
  · obtain ⟨j, hj, rfl⟩ := vp_in_of (vp_in_iff.mpr h) hn2
    obtain ⟨off, h1, h2⟩ := ho j hj
    have hjj : (nI j).toInt = (j : Int) := nI_toInt (by omega)
    exact lv_tableIn C.1 C.2.1 hd (by rw [hjj]; omega) (by rw [hjj, hn]; omega) (off := off) (by rw [hjj]; simpa using h1) h2 (kin j hj rfl p l e R s m args below meth c D ad cI cZ cII A cells slots Z C hZ H locs ls hW hL)
  · exact lv_tableOut C.1 C.2.1 hd (by rw [hn]; omega) ht (kout (fun k hk e => h (by rw [e, nI_toInt (by omega)]; omega)) p l e R s m args below meth c D ad cI cZ cII A cells slots Z C hZ H locs ls hW hL)
theorem v_get {idx pp ci fi : Nat} {vs : List Value} {v : Value} (hd : decode (mc M) pc = .ok (.getfield idx, 3)) (hq : pc + 3 = q) (hF : FL (mo M) idx ci fi) (ho : obj pp σ = some (ci, vs)) (hv : vs[fi]? = some v) (k : VV M d sc q L (v :: st) σ Q) : VV M d sc pc L (.ref pp :: st) σ Q := by
  subst hq
  intro p l e R s m args below meth c D ad cI cZ cII A cells slots Z C hZ H locs ls hW hL
  obtain ⟨hx, hb, hml, hr, hlk, hts, hown, hnw, hK, hSt, hA, hR, hlaw⟩ := id C
  obtain ⟨C0, T, N, hc, hk, hin, hl⟩ := hF
  rcases hl with hl | ⟨host, hl⟩
  · exact va_get (D := D) (ci := ci) (v := rv ad v) (C := C0) (T := T) (N := N) hx hb hts hin hown hK hW.1 pp (fs := vs.map (rv ad)) (wld_obj ho) hc fi hk (hts _ hl) (fun _ h => h) (by rw [List.getElem?_map, hv]; rfl) hd (k p l e R s m args below meth c D ad cI cZ cII A cells slots Z C hZ H locs ls hW hL)
  · exact va_getN (D := D) (ci := ci) (v := rv ad v) (C := C0) (T := T) (N := N) hx hb hts hin hown hK hW.1 pp (fs := vs.map (rv ad)) (wld_obj ho) hc fi hk (va_Nw.use rfl (hnw _ hl)) (fun _ h => h) (by rw [List.getElem?_map, hv]; rfl) hd (k p l e R s m args below meth c D ad cI cZ cII A cells slots Z C hZ H locs ls hW hL)
theorem v_put {idx pp ci fi kk : Nat} {vs : List Value} {x : Int32} (hd : decode (mc M) pc = .ok (.putfield idx, 3)) (hq : pc + 3 = q) (hF : FP (mo M) idx ci fi "I") (ho : obj pp σ = some (ci, vs)) (hk : fk pp fi = some kk) (k : VV M d sc q L st (sF σ kk x) Q) : VV M d sc pc L (.int x :: .ref pp :: st) σ Q := by
  subst hq
  intro p l e R s m args below meth c D ad cI cZ cII A cells slots Z C hZ H locs ls hW hL
  obtain ⟨hx, hb, hml, hr, hlk, hts, hown, hnw, hK, hSt, hA, hR, hlaw⟩ := id C
  obtain ⟨C0, T, N, ty0, hc, hfi, hin, hty, hnm, hfin, hds, hl⟩ := hF
  have hlen := (obj_sF σ x hk ho).2.2
  refine va_put (D := D) (ci := ci) (v := .int x) (ty := .int) (C := C0) (T := T) (N := N) hx hb hts hin ty0 hty hnm hown hK hW.1 hW.2.1 hW.2.2 pp (fs := vs.map (rv ad)) (wld_obj ho) hc fi hfi (hts _ hl) (fun _ h => h) hfin (by rw [hds]; decide +kernel) rfl rfl (by rw [List.length_map]; exact hlen) hd (fun H locs hP hD hS => ?_)
  rw [wld_sF x hk ho] at hP hD
  exact k p l e R s m args below meth c D ad cI cZ cII A cells slots Z C hZ H locs ls ⟨hP, hD, hS⟩ hL
theorem v_putL {idx ci : Nat} {vs : List Value} {x : Int64} (hd : decode (mc M) pc = .ok (.putfield idx, 3)) (hq : pc + 3 = q) (hF : FP (mo M) idx ci 13 "J") (ho : obj 11 σ = some (ci, vs)) (k : VV M d sc q L st (sH σ x) Q) : VV M d sc pc L (.long x :: .ref 11 :: st) σ Q := by
  subst hq
  intro p l e R s m args below meth c D ad cI cZ cII A cells slots Z C hZ H locs ls hW hL
  obtain ⟨hx, hb, hml, hr, hlk, hts, hown, hnw, hK, hSt, hA, hR, hlaw⟩ := id C
  obtain ⟨C0, T, N, ty0, hc, hfi, hin, hty, hnm, hfin, hds, hl⟩ := hF
  have hlen : 13 < vs.length := by cases ho; exact Nat.le_of_ble_eq_true rfl
  refine va_put (D := D) (ci := ci) (v := .long x) (ty := .long) (C := C0) (T := T) (N := N) hx hb hts hin ty0 hty hnm hown hK hW.1 hW.2.1 hW.2.2 11 (fs := vs.map (rv ad)) (wld_obj ho) hc 13 hfi (hts _ hl) (fun _ h => h) hfin (by rw [hds]; decide +kernel) rfl rfl (by rw [List.length_map]; exact hlen) hd (fun H locs hP hD hS => ?_)
  rw [wld_sH x ho] at hP hD
  exact k p l e R s m args below meth c D ad cI cZ cII A cells slots Z C hZ H locs ls ⟨hP, hD, hS⟩ hL
theorem v_iald {pp : Nat} {i : Int32} (hd : decode (mc M) pc = .ok (.iaload, 1)) (hq : pc + 1 = q) (hp : isI pp) (hi : vp_in i (al pp)) (k : VV M d sc q L (.int (σ.1 pp i.toNatClampNeg) :: st) σ Q) : VV M d sc pc L (.int i :: .ref pp :: st) σ Q := by
  subst hq
  intro p l e R s m args below meth c D ad cI cZ cII A cells slots Z C hZ H locs ls hW hL
  obtain ⟨hx, hb, hml, hr, hlk, hts, hown, hnw, hK, hSt, hA, hR, hlaw⟩ := id C
  exact va_iald hx hb hK hW.1 pp 0 (wld_arr hp) rfl hi hd (k p l e R s m args below meth c D ad cI cZ cII A cells slots Z C hZ H locs ls hW hL)
theorem v_iast {pp : Nat} {i x : Int32} (hd : decode (mc M) pc = .ok (.iastore, 1)) (hq : pc + 1 = q) (hp : isI pp) (hi : vp_in i (al pp)) (k : VV M d sc q L st (sA σ pp i.toNatClampNeg x) Q) : VV M d sc pc L (.int x :: .int i :: .ref pp :: st) σ Q := by
  subst hq
  intro p l e R s m args below meth c D ad cI cZ cII A cells slots Z C hZ H locs ls hW hL
  obtain ⟨hx, hb, hml, hr, hlk, hts, hown, hnw, hK, hSt, hA, hR, hlaw⟩ := id C
  refine va_iast hx hb hK hW.1 hW.2.1 hW.2.2 pp 0 (wld_arr hp) rfl hi hd (fun H locs hP hD hS => ?_)
  rw [wld_sA _ _ hp] at hP hD
  exact k p l e R s m args below meth c D ad cI cZ cII A cells slots Z C hZ H locs ls ⟨hP, hD, hS⟩ hL
theorem v_zald {i : Int32} (hd : decode (mc M) pc = .ok (.baload, 1)) (hq : pc + 1 = q) (hi : vp_in i 20) (k : VV M d sc q L (.int (σ.1 13 i.toNatClampNeg) :: st) σ Q) : VV M d sc pc L (.int i :: .ref 13 :: st) σ Q := by
  subst hq
  intro p l e R s m args below meth c D ad cI cZ cII A cells slots Z C hZ H locs ls hW hL
  obtain ⟨hx, hb, hml, hr, hlk, hts, hown, hnw, hK, hSt, hA, hR, hlaw⟩ := id C
  exact va_zald hx hb hK hW.1 13 1 wld_13 rfl hi hd (k p l e R s m args below meth c D ad cI cZ cII A cells slots Z C hZ H locs ls hW hL)
theorem v_zast {i x : Int32} (hd : decode (mc M) pc = .ok (.bastore, 1)) (hq : pc + 1 = q) (hi : vp_in i 20) (hv : x = 0 ∨ x = 1) (k : VV M d sc q L st (sA σ 13 i.toNatClampNeg x) Q) : VV M d sc pc L (.int x :: .int i :: .ref 13 :: st) σ Q := by
  subst hq
  intro p l e R s m args below meth c D ad cI cZ cII A cells slots Z C hZ H locs ls hW hL
  obtain ⟨hx, hb, hml, hr, hlk, hts, hown, hnw, hK, hSt, hA, hR, hlaw⟩ := id C
  have hn : vp_nar .boolean x = x := by rcases hv with rfl | rfl <;> decide
  refine va_zast hx hb hK hW.1 hW.2.1 hW.2.2 13 1 wld_13 rfl hi hd (fun H locs hP hD hS => ?_)
  rw [hn, wld_s13] at hP hD
  exact k p l e R s m args below meth c D ad cI cZ cII A cells slots Z C hZ H locs ls ⟨hP, hD, hS⟩ hL
theorem v_aald {pp n b : Nat} {i : Int32} (hd : decode (mc M) pc = .ok (.aaload, 1)) (hq : pc + 1 = q) (hp : (pp = 9 ∧ n = 4 ∧ b = 27) ∨ (pp = 10 ∧ n = 11 ∧ b = 16)) (hi : vp_in i n) (k : VV M d sc q L (.ref (b + i.toNatClampNeg) :: st) σ Q) : VV M d sc pc L (.int i :: .ref pp :: st) σ Q := by
  subst hq
  intro p l e R s m args below meth c D ad cI cZ cII A cells slots Z C hZ H locs ls hW hL
  obtain ⟨hx, hb, hml, hr, hlk, hts, hown, hnw, hK, hSt, hA, hR, hlaw⟩ := id C
  have hlt : i.toNatClampNeg < n := Nat.not_le.mp fun q => hi (Or.inr q)
  have key : ∃ f : Nat → Option Nat, (wld ad cI cZ cII σ)[pp]? = some (ad pp, .inl (cII, n, .inr (.inr (.inr (.inr f))))) ∧ va_rf (f i.toNatClampNeg) = .ref (ad (b + i.toNatClampNeg)) := by
    rcases hp with ⟨rfl, rfl, rfl⟩ | ⟨rfl, rfl, rfl⟩
    · exact ⟨_, wld_9, by simp only [hlt, if_true]; rfl⟩
    · exact ⟨_, wld_10, by simp only [hlt, if_true]; rfl⟩
  obtain ⟨f, ha, hf⟩ := key
  exact W.aald (v := .ref (ad (b + i.toNatClampNeg))) (ty := .array .int) hx hb (hW.1 pp _ ha) ((hK.2 2 _ rfl).1 n (fun j => va_rf (f j))) rfl (fun q => by cases q) (by show ¬ (i < 0 ∨ (arrV _ _ _).slots.size ≤ _); rw [arrV_size]; exact hi) (by show (arrV _ _ _).slots[_]? = _; rw [arrV_read _ _ hlt, hf]) rfl rfl hd (k p l e R s m args below meth c D ad cI cZ cII A cells slots Z C hZ H locs ls hW hL)
theorem v_gets {idx g : Nat} (hd : decode (mc M) pc = .ok (.getstatic idx, 3)) (hq : pc + 3 = q) (hg : g = 100 ∨ g = 101) (hl : Cond.fieldLink (RN (mo M)) idx "PhrasePool" (snm g) "[I" ∈ g_tbl) (k : VV M d sc q L (.ref g :: st) σ Q) : VV M d sc pc L st σ Q := by
  subst hq
  intro p l e R s m args below meth c D ad cI cZ cII A cells slots Z C hZ H locs ls hW hL
  obtain ⟨hx, hb, hml, hr, hlk, hts, hown, hnw, hK, hSt, hA, hR, hlaw⟩ := id C
  exact va_gets hx hb (hSt g hg).1 hW.2.2 hown (hts _ hl) (fun _ h => h) hd (k p l e R s m args below meth c D ad cI cZ cII A cells slots Z C hZ H locs ls hW hL)
theorem v_stld {g : Nat} {i : Int32} (hd : decode (mc M) pc = .ok (.iaload, 1)) (hq : pc + 1 = q) (hg : g = 100 ∨ g = 101) (hi : vp_in i 5) (k : VV M d sc q L (.int (lst g i.toNatClampNeg) :: st) σ Q) : VV M d sc pc L (.int i :: .ref g :: st) σ Q := by
  subst hq
  intro p l e R s m args below meth c D ad cI cZ cII A cells slots Z C hZ H locs ls hW hL
  obtain ⟨hx, hb, hml, hr, hlk, hts, hown, hnw, hK, hSt, hA, hR, hlaw⟩ := id C
  exact va_ti hx hb (hSt g hg).2 hW.2.2 hi rfl hd (k p l e R s m args below meth c D ad cI cZ cII A cells slots Z C hZ H locs ls hW hL)
theorem v_sld {i : Int32} (ho : mo M = 8) (hd : decode (mc M) pc = .ok (.iaload, 1)) (hq : pc + 1 = q) (hi : vp_in i sc.1) (k : VV M d sc q L (.int (sc.2 i.toNatClampNeg) :: st) σ Q) : VV M d sc pc L (.int i :: .ref 102 :: st) σ Q := by
  subst hq
  intro p l e R s m args below meth c D ad cI cZ cII A cells slots Z C hZ H locs ls hW hL
  obtain ⟨hx, hb, hml, hr, hlk, hts, hown, hnw, hK, hSt, hA, hR, hlaw⟩ := id C
  obtain ⟨h1, h2, h3⟩ := hlaw ho
  exact va_sld hx hb h1 h2 h3 hW.2.2 hi hd (k p l e R s m args below meth c D ad cI cZ cII A cells slots Z C hZ H locs ls hW hL)
theorem v_slen (ho : mo M = 8) (hd : decode (mc M) pc = .ok (.arraylength, 1)) (hq : pc + 1 = q) (k : VV M d sc q L (.int (nI sc.1) :: st) σ Q) : VV M d sc pc L (.ref 102 :: st) σ Q := by
  subst hq
  intro p l e R s m args below meth c D ad cI cZ cII A cells slots Z C hZ H locs ls hW hL
  obtain ⟨hx, hb, hml, hr, hlk, hts, hown, hnw, hK, hSt, hA, hR, hlaw⟩ := id C
  obtain ⟨h1, h2, h3⟩ := hlaw ho
  exact va_slen hx hb h1 h2 h3 hW.2.2 hd (k p l e R s m args below meth c D ad cI cZ cII A cells slots Z C hZ H locs ls hW hL)
def ACp (o idx : Nat) : Prop := Cond.methodLink (RN o) idx arraycopyName ∈ g_tbl ∧ Cond.native arraycopyName ∈ g_tbl ∧ Cond.static arraycopyName ∈ g_tbl ∧ Cond.initialized "java/lang/System" ∈ g_tbl
theorem v_copy {idx pa pb : Nat} {sp dp n : Int32} (hd : decode (mc M) pc = .ok (.invokestatic idx, 3)) (hq : pc + 3 = q) (hl : ACp (mo M) idx) (hdd : 1 ≤ d) (ha : isI pa) (hb' : isI pb) (h1 : ¬ sp < 0) (h2 : ¬ dp < 0) (h3 : ¬ n < 0) (h4 : sp.toNatClampNeg + n.toNatClampNeg ≤ al pa) (h5 : dp.toNatClampNeg + n.toNatClampNeg ≤ al pb) (k : VV M d sc q L [] (sR σ pb (va_cpy (σ.1 pa) (σ.1 pb) sp.toNatClampNeg dp.toNatClampNeg n.toNatClampNeg)) Q) : VV M d sc pc L [.int n, .int dp, .ref pb, .int sp, .ref pa] σ Q := by
  subst hq
  intro p l e R s m args below meth c D ad cI cZ cII A cells slots Z C hZ H locs ls hW hL
  obtain ⟨hx, hb, hml, hr, hlk, hts, hown, hnw, hK, hSt, hA, hR, hlaw⟩ := id C
  refine va_copyi hx hb (by rw [hml, hL.2.1]) hown (hts _ hl.1) (hts _ hl.2.1) (hts _ hl.2.2.1) (hts _ hl.2.2.2) hK hW.1 hW.2.1 hW.2.2 pa pb 0 0 (wld_arr ha) (wld_arr hb') rfl rfl rfl h1 h2 h3 h4 h5 (fun i _ => rfl) (by omega) ?_ hd (fun H locs hP hD hS => ?_)
  · have e : (([] : List Value).map fun v => v.category).sum + (nativeFrameWords "java/lang/System" "arraycopy" 5 + 11) ≤ 35 := by decide +kernel
    have := hR.2.1
    exact Nat.le_trans e (by omega)
  · rw [wld_sR _ hb'] at hP hD
    exact k p l e R s m args below meth c D ad cI cZ cII A cells slots Z C hZ H locs ls ⟨hP, hD, hS⟩ hL
def Lmax (o idx : Nat) : Prop := Cond.methodLink (RN o) idx Lib.Math.max.name ∈ g_tbl ∧ Cond.static Lib.Math.max.name ∈ g_tbl ∧ Cond.initialized "java/lang/Math" ∈ g_tbl ∧ Cond.code Lib.Math.max.name Lib.Math.max.code 2 (some .int) ∈ g_tbl
theorem v_max {idx : Nat} {x y : Int32} (hd : decode (mc M) pc = .ok (.invokestatic idx, 3)) (hq : pc + 3 = q) (hl : Lmax (mo M) idx) (hdd : 1 ≤ d) (hs : (st.map fun v => v.category).sum ≤ 8) (k : VV M d sc q L (.int (if x < y then y else x) :: st) σ Q) : VV M d sc pc L (.int y :: .int x :: st) σ Q := by
  subst hq
  intro p l e R s m args below meth c D ad cI cZ cII A cells slots Z C hZ H locs ls hW hL
  obtain ⟨hx, hb, hml, hr, hlk, hts, hown, hnw, hK, hSt, hA, hR, hlaw⟩ := id C
  have h1 := hR.1
  have h2 := hR.2.1
  exact va_mmax hx hb (by rw [hml, hL.2.1]) hown (hts _ hl.1) (hts _ hl.2.1) (hts _ hl.2.2.1) (hts _ hl.2.2.2) (by omega) (by rw [rv_cats]; omega) hR.2.2.1 hR.2.2.2 hd (k p l e R s m args below meth c D ad cI cZ cII A cells slots Z C hZ H locs ls hW hL)
def Lmin (o idx : Nat) : Prop := Cond.methodLink (RN o) idx Lib.Math.min.name ∈ g_tbl ∧ Cond.static Lib.Math.min.name ∈ g_tbl ∧ Cond.initialized "java/lang/Math" ∈ g_tbl ∧ Cond.code Lib.Math.min.name Lib.Math.min.code 2 (some .int) ∈ g_tbl
theorem v_min {idx : Nat} {x y : Int32} (hd : decode (mc M) pc = .ok (.invokestatic idx, 3)) (hq : pc + 3 = q) (hl : Lmin (mo M) idx) (hdd : 1 ≤ d) (hs : (st.map fun v => v.category).sum ≤ 8) (k : VV M d sc q L (.int (if y < x then y else x) :: st) σ Q) : VV M d sc pc L (.int y :: .int x :: st) σ Q := by
  subst hq
  intro p l e R s m args below meth c D ad cI cZ cII A cells slots Z C hZ H locs ls hW hL
  obtain ⟨hx, hb, hml, hr, hlk, hts, hown, hnw, hK, hSt, hA, hR, hlaw⟩ := id C
  have h1 := hR.1
  have h2 := hR.2.1
  exact va_mmin hx hb (by rw [hml, hL.2.1]) hown (hts _ hl.1) (hts _ hl.2.1) (hts _ hl.2.2.1) (hts _ hl.2.2.2) (by omega) (by rw [rv_cats]; omega) hR.2.2.1 hR.2.2.2 hd (k p l e R s m args below meth c D ad cI cZ cII A cells slots Z C hZ H locs ls hW hL)
end RULES
end
section
/-! CONTRACTS: a method called at depth d with these arguments in this state comes back with an answer and a state of Q; calls -/
def QZ (D : va_G) (ad : Nat → Nat) (cI cZ cII : ClassId) (sz : Nat) (Q : Option Value → SS → Prop) : Array Value → State → Outcome → State → Prop := fun _ s0 oc t =>
  (∃ (r : Option Value) (σ' : SS), oc = .returned (r.map (rv ad)) ∧ Q r σ' ∧ va_P D vwCl (wld ad cI cZ cII σ') t.heap ∧ va_D (AA ad sz) (wld ad cI cZ cII σ')) ∧ va_F (AA ad sz) s0 t
def WP (D : va_G) (ad : Nat → Nat) (cI cZ cII : ClassId) (sz : Nat) (σ : SS) (U : State) : Prop :=
  U.heap.size = sz ∧ va_P D vwCl (wld ad cI cZ cII σ) U.heap ∧ va_K D vwCl [(cI, .int), (cZ, .boolean), (cII, .array .int)] U ∧ va_D (fun _ => True) (wld ad cI cZ cII σ) ∧ (∀ w ∈ n_tbl, va_Nw w U) ∧ Sta ad (AA ad sz) U U.heap
def CT (M : MD) (d : Nat) (As : List Value) (σ : SS) (Q : Option Value → SS → Prop) : Prop :=
  ∀ Q' : Option Value → SS → Prop, (∀ r σ', Q r σ' → Q' r σ') → ∀ (l : Launch) (D : va_G) (ad : Nat → Nat) (cI cZ cII : ClassId) (sz : Nat),
    Met l (my M) (Cond.code (my M) (mc M) (ml M) (mr M) :: g_tbl) (rmd d) (va_Pc (As.map (rv ad)) (WP D ad cI cZ cII sz σ)) (QZ D ad cI cZ cII sz Q') 0 0 (AA ad sz)
theorem CT.imp {M : MD} {d : Nat} {As : List Value} {σ : SS} {Q Q2 : Option Value → SS → Prop} (h : CT M d As σ Q) (hi : ∀ r σ', Q r σ' → Q2 r σ') : CT M d As σ Q2 := fun Q' hQ => h Q' (fun r σ' q => hQ r σ' (hi r σ' q))
def CTi (M : MD) (d : Nat) (As : List Value) (σ : SS) (K : Int32 → SS → Prop) : Prop := CT M d As σ (fun r σ' => ∃ x : Int32, r = some (.int x) ∧ K x σ')
def CTl (M : MD) (d : Nat) (As : List Value) (σ : SS) (K : Int64 → SS → Prop) : Prop := CT M d As σ (fun r σ' => ∃ x : Int64, r = some (.long x) ∧ K x σ')
def CTv (M : MD) (d : Nat) (As : List Value) (σ : SS) (K : SS → Prop) : Prop := CT M d As σ (fun r σ' => r = none ∧ K σ')
theorem CTi.imp {M : MD} {d : Nat} {As : List Value} {σ : SS} {K K2 : Int32 → SS → Prop} (h : CTi M d As σ K) (hi : ∀ x σ', K x σ' → K2 x σ') : CTi M d As σ K2 := CT.imp h (fun r σ' ⟨x, h1, h2⟩ => ⟨x, h1, hi x σ' h2⟩)
theorem CTl.imp {M : MD} {d : Nat} {As : List Value} {σ : SS} {K K2 : Int64 → SS → Prop} (h : CTl M d As σ K) (hi : ∀ x σ', K x σ' → K2 x σ') : CTl M d As σ K2 := CT.imp h (fun r σ' ⟨x, h1, h2⟩ => ⟨x, h1, hi x σ' h2⟩)
theorem CTv.imp {M : MD} {d : Nat} {As : List Value} {σ : SS} {K K2 : SS → Prop} (h : CTv M d As σ K) (hi : ∀ σ', K σ' → K2 σ') : CTv M d As σ K2 := CT.imp h (fun r σ' ⟨h1, h2⟩ => ⟨h1, hi σ' h2⟩)
/-- the locals with which a method begins -/
def ent : List Value → List (Option Value)
  | [] => []
  | v :: vs => if v.category = 2 then some v :: none :: ent vs else some v :: ent vs
theorem ldv_nones : ∀ (k i : Nat) (v : Value), ldv i (List.replicate k none) = some v → False
  | 0, 0, v, h => by cases h
  | 0, i + 1, v, h => by cases h
  | k + 1, 0, v, h => by cases h
  | k + 1, i + 1, v, h => ldv_nones k i v h
theorem ent_args {ad : Nat → Nat} (k : Nat) : ∀ (As : List Value) (b i : Nat) (v : Value), ldv i (ent As ++ List.replicate k none) = some v → (b + i, rv ad v) ∈ lv_args b (As.map (rv ad)) := by
  intro As
  induction As with
  | nil => exact fun b i v h => (ldv_nones k i v h).elim
  | cons a r ih =>
    intro b i v h
    by_cases hc : a.category = 2
    · have e : ent (a :: r) = some a :: none :: ent r := by simp [ent, hc]
      rw [e] at h
      have e2 : lv_args b ((a :: r).map (rv ad)) = (b, rv ad a) :: lv_args (b + 2) (r.map (rv ad)) := by
        show (b, rv ad a) :: lv_args (if (rv ad a).category = 2 then b + 2 else b + 1) (r.map (rv ad)) = _
        rw [rv_cat, if_pos hc]
      rw [e2]
      match i, h with
      | 0, h =>
        cases h
        exact List.mem_cons_self
      | 1, h => cases h
      | i + 2, h =>
        have h1 := ih (b + 2) i v h
        rw [show b + (i + 2) = b + 2 + i by omega]
        exact List.mem_cons_of_mem _ h1
    · have e : ent (a :: r) = some a :: ent r := by simp [ent, hc]
      rw [e] at h
      have e2 : lv_args b ((a :: r).map (rv ad)) = (b, rv ad a) :: lv_args (b + 1) (r.map (rv ad)) := by
        show (b, rv ad a) :: lv_args (if (rv ad a).category = 2 then b + 2 else b + 1) (r.map (rv ad)) = _
        rw [rv_cat, if_neg hc]
      rw [e2]
      match i, h with
      | 0, h =>
        cases h
        exact List.mem_cons_self
      | i + 1, h =>
        have h1 := ih (b + 1) i v h
        rw [show b + (i + 1) = b + 1 + i by omega]
        exact List.mem_cons_of_mem _ h1
theorem ent_len (ad : Nat → Nat) : ∀ As : List Value, (lg_sl (As.map (rv ad))).length = (ent As).length
  | [] => rfl
  | v :: vs => by
    have h := ent_len ad vs
    unfold lg_sl at h ⊢
    by_cases hc : v.category = 2
    · simp [ent, hc, rv_cat] at h ⊢
      omega
    · simp [ent, hc, rv_cat] at h ⊢
      omega
theorem w_mem {ad : Nat → Nat} {cI cZ cII : ClassId} {σ : SS} {k : Nat} {x : Nat × va_E} (h : (wld ad cI cZ cII σ)[k]? = some x) : k < 46 ∧ x.1 = ad k := by
  have hk : k < 46 := by
    have := (List.getElem?_eq_some_iff.mp h).1
    rw [wld_len] at this
    exact this
  rw [wld_at hk] at h
  cases h
  exact ⟨hk, rfl⟩
theorem w_AA {ad : Nat → Nat} {cI cZ cII : ClassId} {σ : SS} {A : Nat → Prop} (sz : Nat) (h : va_D A (wld ad cI cZ cII σ)) : va_D (AA ad sz) (wld ad cI cZ cII σ) := ⟨h.1, fun k x hx => by
  obtain ⟨hk, e⟩ := w_mem hx
  exact Or.inl ⟨k, hk, e⟩⟩
/-- a contract out of a walk of its body -/
theorem CT_of {M : MD} {d : Nat} {As : List Value} {σ : SS} {Q : Option Value → SS → Prop} {L : List (Option Value)} (hy : plainName (my M).cls = true) (hcls : RN (mo M) = (my M).cls) (h8 : mo M ≠ 8) (hn : (ent As).length ≤ ml M) (hL : ent As ++ List.replicate (ml M - (ent As).length) none = L) (k : VV M d (0, fun _ => 0) 0 L [] σ Q) : CT M d As σ Q := by
  intro Q' hQ l D ad cI cZ cII sz
  refine Met.ofW (cc := mc M) (maxL := ml M) (ret := mr M) hy rfl ?_
  intro p e s m args below meth c s₁ B hml hv
  obtain ⟨rfl, hsz, hP, hK, hD0, hN, hSt⟩ := hv
  have hts := atoms_spec (ws := Cond.code (my M) (mc M) (ml M) (mr M) :: g_tbl) B.pre
  have hown : s.vm.findClass (RN (mo M)) = some m.cls := by rw [hcls]; exact findClass_of_methodNamed B.named
  have hlocks := B.notSynchronized
  subst hsz
  have hS : va_S (AA ad s.heap.size) s.heap s.heap [] := va_S.rf
  have hD := w_AA s.heap.size hD0
  have hlen : (lg_sl (As.map (rv ad))).length ≤ ml M := by rw [ent_len]; exact hn
  have hl := lv_entry (As.map (rv ad)) hlen
  rw [lg_entry_eq]
  generalize (lg_sl (As.map (rv ad)) ++ List.replicate (ml M - (lg_sl (As.map (rv ad))).length) Slot.unset).toArray = ls at hl ⊢
  have hLH : LH ad ls (ml M) L := by
    subst hL
    refine ⟨by rw [List.length_append, List.length_replicate]; omega, hl.1, hl.2.1, fun i v hv => ?_⟩
    have h1 := ent_args (ad := ad) _ As 0 i v hv
    rw [Nat.zero_add] at h1
    exact hl.2.2 _ h1
  refine k p l e (headSpec (Cond.code (my M) (mc M) (ml M) (mr M) :: g_tbl) (rmd d)).room s m ((As.map (rv ad)).toArray) below meth c D ad cI cZ cII (AA ad s.heap.size) 0 0 _ ⟨B.exec, B.bytes, hml, B.returns, hlocks, fun w hw => hts w (List.mem_cons_of_mem _ hw), hown, hN, hK, hSt, fun q hq => Or.inr hq, ⟨Nat.le_refl _, Nat.le_refl _, Nat.zero_le _, Nat.zero_le _⟩, fun h => absurd h h8⟩ ?_ s.heap [] ls ⟨hP, hD, hS⟩ hLH
  intro r σ' H locs ls' pc' hret hq hW
  have post : ∀ t : State, t.heap = H → s.WarmedH t.vm → QZ D ad cI cZ cII s.heap.size Q' ((As.map (rv ad)).toArray) s (.returned (r.map (rv ad))) t := fun t ht _ => ⟨⟨r, σ', rfl, hQ r σ' hq, by rw [ht]; exact hW.1, hW.2.1⟩, hW.2.2.F ht⟩
  match r, hret, post with
  | none, hret, post => exact W.vret B.exec B.bytes (B.returns.trans hret.2) post hW.2.2.2.2 hret.1 hlocks
  | some (.int v), hret, post =>
    obtain ⟨h1, ty, h2, h3⟩ := hret
    exact W.zret B.exec B.bytes (B.returns.trans h2) h3 post hW.2.2.2.2 h1 hlocks
  | some (.long v), hret, post => exact W.lret B.exec B.bytes (B.returns.trans hret.2) post hW.2.2.2.2 hret.1 hlocks
/-- the callee's world out of the caller's -/
theorem WP_of {D : va_G} {ad : Nat → Nat} {cI cZ cII : ClassId} {A : Nat → Prop} {s : State} {σ : SS} {H : Heap} {locs : List Loc} (hK : va_K D vwCl [(cI, .int), (cZ, .boolean), (cII, .array .int)] s) (hN : ∀ w ∈ n_tbl, va_Nw w s) (hSt : Sta ad A s s.heap) (hA : ∀ q, s.heap.size ≤ q → A q) (hW : Wd D ad cI cZ cII A s σ H locs) (U : State) (hU : U.heap = H) (hwm : s.WarmedH U.vm) : WP D ad cI cZ cII H.size σ U := by
  have sub : ∀ q, AA ad H.size q → A q := fun q h => by
    rcases h with ⟨k, hk, rfl⟩ | h
    · exact hW.2.1.2 k _ (wld_at hk)
    · exact hA q (Nat.le_trans hW.2.2.1 h)
  refine ⟨by rw [hU], by rw [hU]; exact hW.1, va_K.moved hwm.alike hK, hW.2.1.weaken (fun _ _ _ _ => trivial), n_warm hwm hN, fun g hg => ?_⟩
  rw [hU]
  exact ⟨((va_Z.kept (hSt g hg).1 hW.2.2.2.1).moved hwm.alike).narrow sub, ((va_T.kept (hSt g hg).2 hW.2.2.2.1).moved hwm.alike).narrow sub⟩
theorem WP_blind {D : va_G} {ad : Nat → Nat} {cI cZ cII : ClassId} {sz : Nat} {σ : SS} {As : List Value} : FrameBlind (va_Pc As (WP D ad cI cZ cII sz σ)) := by
  intro a U g mk q
  obtain ⟨q0, q1, qP, qK, qD, qN, qS⟩ := q
  exact ⟨q0, q1, qP, va_K.moved (u := U) (U := U.calling g mk a) (Vm.Alike.refl U.vm) qK, qD, n_same (u := U) rfl qN, fun g' hg => ⟨(qS g' hg).1.moved (Vm.Alike.refl U.vm), (qS g' hg).2.moved (Vm.Alike.refl U.vm)⟩⟩
section CALLS
variable {M M' : MD} {d pc q : Nat} {sc : Scr} {L : List (Option Value)} {st : List Value} {σ : SS} {Q : Option Value → SS → Prop}
/-- behind a call -/
theorem c_behind {p : Program} {l : Launch} {e : Env} {R : Room} {s : State} {m : MethodId} {args : Array Value} {below : List Frame} {meth : Method} {c : Code} {D : va_G} {ad : Nat → Nat} {cI cZ cII : ClassId} {A : Nat → Prop} {cells slots : Nat} {Z : State → Prop} {H : Heap} {locs : List Loc} {ls : Array Slot} {st0 : List Value} {a : Array Value} (hA : ∀ q, s.heap.size ≤ q → A q) (hW : Wd D ad cI cZ cII A s σ H locs)
    (hr : va_Run p l e R s m args below meth c H locs cells slots 0 0 (F0 m pc ls st0) (st.map (rv ad)) (QZ D ad cI cZ cII H.size Q a) (AA ad H.size))
    (kk : ∀ (r : Option Value) (σ' : SS) (H1 : Heap) (locs1 : List Loc), Q r σ' → Wd D ad cI cZ cII A s σ' H1 locs1 → W p l e R s m args below meth c H1 locs1 cells slots Z (F0 m (pc + 3) ls ((r.toList ++ st).map (rv ad)))) : W p l e R s m args below meth c H locs cells slots Z (F0 m pc ls st0) := by
  have sub : ∀ q, AA ad H.size q → A q := fun q h => by
    rcases h with ⟨k, hk, rfl⟩ | h
    · exact hW.2.1.2 k _ (wld_at hk)
    · exact hA q (Nat.le_trans hW.2.2.1 h)
  intro T hT X
  obtain ⟨v, s₀, t, T', L0, h0, X', hL, e1, e2, ⟨⟨r, σ', hv, hQ, hP1, hD1⟩, hz, hk⟩, stp⟩ := hr T hT X
  cases hv
  rw [h0] at hz hk
  have hS := hW.2.2
  obtain ⟨t2, a1, b1⟩ := kk r σ' T'.heap (locs ++ L0) hQ ⟨by rw [e1]; exact hP1, hD1.weaken (fun _ x _ h => sub x.1 h), ⟨Nat.le_trans hS.1 (by rw [e1]; exact hz), fun q h1 h2 => by rw [e1, hk q (Nat.lt_of_lt_of_le h1 hS.1) (fun z => h2 (sub q z))]; exact hS.2.1 q h1 h2, fun q hq => by
      rcases List.mem_append.mp hq with h | h
      · exact hS.2.2 q h
      · exact sub _ (hL q h)⟩⟩ T' rfl X'
  refine ⟨t2, stp t2 ?_, b1⟩
  rw [List.map_append] at a1
  cases r with
  | none => exact a1
  | some v => exact a1
theorem good_all {M' : MD} (h : Cond.code (my M') (mc M') (ml M') (mr M') ∈ g_tbl) : GoodIn g_tbl (Cond.code (my M') (mc M') (ml M') (mr M') :: g_tbl) := fun w hw => by
  rcases List.mem_cons.mp hw with rfl | hw
  · exact ⟨h, g_good h⟩
  · exact ⟨hw, g_good hw⟩
theorem v_callV {idx ci n pp : Nat} {As vs : List Value} (hd : decode (mc M) pc = .ok (.invokevirtual idx, 3)) (hq : pc + 3 = q) (hl : LKV (mo M) idx M' n ci) (hdd : 1 ≤ d) (hn : As.length = n) (ho : obj pp σ = some (ci, vs)) (hs : (st.map fun v => v.category).sum ≤ 8) (k : CT M' (d - 1) (.ref pp :: As) σ (fun r σ1 => VV M d sc q L (r.toList ++ st) σ1 Q)) : VV M d sc pc L (As.reverse ++ .ref pp :: st) σ Q := by
  subst hq
  intro p l e R s m args below meth c D ad cI cZ cII A cells slots Z C hZ H locs ls hW hL
  obtain ⟨hx, hb, hml, hr, hlk, hts, hown, hnw, hK, hSt, hA, hR, hlaw⟩ := id C
  obtain ⟨⟨⟨hcode, hini, hdesc, hml'⟩, hinst, hsel, hcls⟩, hlink⟩ := hl
  have hst : (As.reverse ++ .ref pp :: st).map (rv ad) = (As.map (rv ad)).reverse ++ .ref (ad pp) :: st.map (rv ad) := by simp [List.map_reverse, rv]
  rw [hst]
  have hG := good_all hcode
  obtain ⟨qc, hqc, hqn⟩ := Option.map_eq_some_iff.mp hcls
  have hrv := va_recv hK hW.1 hqc (wld_obj ho)
  rw [hqn] at hrv
  have r1 := hR.1
  have r2 := hR.2.1
  refine c_behind hA hW (va_runV (As := As.map (rv ad)) (rest := st.map (rv ad)) (b := ad pp) (n := n) ⟨hx, hb, hml, hown, hts⟩ (k _ (fun _ _ h => h) l D ad cI cZ cII H.size) ⟨callB_of n hts hG rfl rfl rfl (hts _ hini) (hts _ hlink) hdesc ⟨by show d - 1 + 1 ≤ R.frames; omega, by show 8 + (ml M' + 11) + 35 * (d - 1) ≤ R.locals; omega⟩, hts _ hinst, hts _ hsel⟩ ⟨WP_blind, hrv, fun U hU hwm => ⟨by simp [rv], WP_of hK hnw hSt hA hW U hU hwm⟩⟩ rfl (by rw [List.length_map]; exact hn) hL.2.1 rfl (lv_room (by rw [rv_cats]; exact hs)) hd ⟨hR.2.2.1, hR.2.2.2⟩) (fun r σ' H1 locs1 hQ hW1 => ?_)
  exact hQ p l e R s m args below meth c D ad cI cZ cII A cells slots Z C hZ H1 locs1 ls hW1 hL
theorem v_callN {idx ci n pp : Nat} {As vs : List Value} (hd : decode (mc M) pc = .ok (.invokevirtual idx, 3)) (hq : pc + 3 = q) (hl : LKN (mo M) idx M' n ci) (hdd : 1 ≤ d) (hn : As.length = n) (ho : obj pp σ = some (ci, vs)) (hs : (st.map fun v => v.category).sum ≤ 8) (k : CT M' (d - 1) (.ref pp :: As) σ (fun r σ1 => VV M d sc q L (r.toList ++ st) σ1 Q)) : VV M d sc pc L (As.reverse ++ .ref pp :: st) σ Q := by
  subst hq
  intro p l e R s m args below meth c D ad cI cZ cII A cells slots Z C hZ H locs ls hW hL
  obtain ⟨hx, hb, hml, hr, hlk, hts, hown, hnw, hK, hSt, hA, hR, hlaw⟩ := id C
  obtain ⟨⟨⟨hcode, hini, hdesc, hml'⟩, hinst, hsel, hcls⟩, host, hlink⟩ := hl
  have hst : (As.reverse ++ .ref pp :: st).map (rv ad) = (As.map (rv ad)).reverse ++ .ref (ad pp) :: st.map (rv ad) := by simp [List.map_reverse, rv]
  rw [hst]
  have hG := good_all hcode
  obtain ⟨qc, hqc, hqn⟩ := Option.map_eq_some_iff.mp hcls
  have hrv := va_recv hK hW.1 hqc (wld_obj ho)
  rw [hqn] at hrv
  have r1 := hR.1
  have r2 := hR.2.1
  refine c_behind hA hW (va_runVN (As := As.map (rv ad)) (rest := st.map (rv ad)) (b := ad pp) (n := n) ⟨hx, hb, hml, hown, hts⟩ (k _ (fun _ _ h => h) l D ad cI cZ cII H.size) ⟨va_cnB n hts hG rfl rfl rfl (hnw _ hlink) (hts _ hini) hdesc ⟨by show d - 1 + 1 ≤ R.frames; omega, by show 8 + (ml M' + 11) + 35 * (d - 1) ≤ R.locals; omega⟩, hts _ hinst, hts _ hsel⟩ ⟨WP_blind, hrv, fun U hU hwm => ⟨by simp [rv], WP_of hK hnw hSt hA hW U hU hwm⟩⟩ rfl (by rw [List.length_map]; exact hn) hL.2.1 rfl (lv_room (by rw [rv_cats]; exact hs)) hd ⟨hR.2.2.1, hR.2.2.2⟩) (fun r σ' H1 locs1 hQ hW1 => ?_)
  exact hQ p l e R s m args below meth c D ad cI cZ cII A cells slots Z C hZ H1 locs1 ls hW1 hL
theorem v_callS {idx n : Nat} {As : List Value} (hd : decode (mc M) pc = .ok (.invokestatic idx, 3)) (hq : pc + 3 = q) (hl : LKS (mo M) idx M' n) (hdd : 1 ≤ d) (hn : As.length = n) (hs : (st.map fun v => v.category).sum ≤ 8) (k : CT M' (d - 1) As σ (fun r σ1 => VV M d sc q L (r.toList ++ st) σ1 Q)) : VV M d sc pc L (As.reverse ++ st) σ Q := by
  subst hq
  intro p l e R s m args below meth c D ad cI cZ cII A cells slots Z C hZ H locs ls hW hL
  obtain ⟨hx, hb, hml, hr, hlk, hts, hown, hnw, hK, hSt, hA, hR, hlaw⟩ := id C
  obtain ⟨⟨hcode, hini, hdesc, hml'⟩, hlink, hstat⟩ := hl
  have hst : (As.reverse ++ st).map (rv ad) = (As.map (rv ad)).reverse ++ st.map (rv ad) := by simp [List.map_reverse]
  rw [hst]
  have hG := good_all hcode
  have r1 := hR.1
  have r2 := hR.2.1
  refine c_behind hA hW (va_runS (As := As.map (rv ad)) (rest := st.map (rv ad)) (n := n) ⟨hx, hb, hml, hown, hts⟩ (k _ (fun _ _ h => h) l D ad cI cZ cII H.size) ⟨callB_of n hts hG rfl rfl rfl (hts _ hini) (hts _ hlink) hdesc ⟨by show d - 1 + 1 ≤ R.frames; omega, by show 8 + (ml M' + 11) + 35 * (d - 1) ≤ R.locals; omega⟩, hts _ hstat⟩ ⟨WP_blind, fun U hU hwm => ⟨rfl, WP_of hK hnw hSt hA hW U hU hwm⟩⟩ rfl (by rw [List.length_map]; exact hn) hL.2.1 rfl (lv_room (by rw [rv_cats]; exact hs)) hd ⟨hR.2.2.1, hR.2.2.2⟩) (fun r σ' H1 locs1 hQ hW1 => ?_)
  exact hQ p l e R s m args below meth c D ad cI cZ cII A cells slots Z C hZ H1 locs1 ls hW1 hL
/-- the ends -/
theorem v_ret0 (hd : decode (mc M) pc = .ok (.return_, 1)) (hr : mr M = none) (k : Q none σ) : VV M d sc pc L [] σ Q := by
  intro p l e R s m args below meth c D ad cI cZ cII A cells slots Z C hZ H locs ls hW hL
  exact hZ none σ H locs ls pc ⟨hd, hr⟩ k hW
theorem v_iret {x : Int32} (hd : decode (mc M) pc = .ok (.ireturn, 1)) (hr : mr M = some .int) (k : Q (some (.int x)) σ) : VV M d sc pc L [.int x] σ Q := by
  intro p l e R s m args below meth c D ad cI cZ cII A cells slots Z C hZ H locs ls hW hL
  exact hZ (some (.int x)) σ H locs ls pc ⟨hd, .int, hr, rfl⟩ k hW
theorem v_zret {x : Int32} (hd : decode (mc M) pc = .ok (.ireturn, 1)) (hr : mr M = some .boolean) (hx : x = 0 ∨ x = 1) (k : Q (some (.int x)) σ) : VV M d sc pc L [.int x] σ Q := by
  intro p l e R s m args below meth c D ad cI cZ cII A cells slots Z C hZ H locs ls hW hL
  exact hZ (some (.int x)) σ H locs ls pc ⟨hd, .boolean, hr, by rcases hx with rfl | rfl <;> decide⟩ k hW
theorem v_lret {x : Int64} (hd : decode (mc M) pc = .ok (.lreturn, 1)) (hr : mr M = some .long) (k : Q (some (.long x)) σ) : VV M d sc pc L [.long x] σ Q := by
  intro p l e R s m args below meth c D ad cI cZ cII A cells slots Z C hZ H locs ls hW hL
  exact hZ (some (.long x)) σ H locs ls pc ⟨hd, hr⟩ k hW
end CALLS
end
section
/-! LINKS: by program out of the tables' words -/
theorem sub_of {ws : List Cond} (ps : List Nat) (hp : ps.filterMap (fun i => lw_tbl[i]?) = ws) (hg : ws.all goodWord = true) : ∀ w ∈ ws, w ∈ g_tbl := by
  intro w hw
  have h1 := List.all_eq_true.mp hg w hw
  rw [← hp] at hw
  obtain ⟨i, -, hi⟩ := List.mem_filterMap.mp hw
  exact g_of (List.mem_of_getElem? hi) h1
theorem inw_0 : ∀ w ∈ u_ws RX0 TX0 3, w ∈ g_tbl := sub_of [189, 191, 193] (by decide +kernel) (by decide +kernel)
theorem inw_1 : ∀ w ∈ u_ws RX1 TX1 2, w ∈ g_tbl := sub_of [138, 140] (by decide +kernel) (by decide +kernel)
theorem inw_2 : ∀ w ∈ u_ws RX2 TX2 5, w ∈ g_tbl := sub_of [167, 169, 171, 173, 175] (by decide +kernel) (by decide +kernel)
theorem inw_3 : ∀ w ∈ u_ws RX3 TX3 2, w ∈ g_tbl := sub_of [205, 207] (by decide +kernel) (by decide +kernel)
theorem inw_4 : ∀ w ∈ u_ws RX4 TX4 5, w ∈ g_tbl := sub_of [223, 225, 227, 229, 231] (by decide +kernel) (by decide +kernel)
theorem inw_5 : ∀ w ∈ u_ws RX5 TX5 1, w ∈ g_tbl := sub_of [154] (by decide +kernel) (by decide +kernel)
theorem inw_6 : ∀ w ∈ u_ws RX6 TX6 5, w ∈ g_tbl := sub_of [239, 241, 243, 245, 247] (by decide +kernel) (by decide +kernel)
theorem inw_7 : ∀ w ∈ u_ws RX7 TX7 14, w ∈ g_tbl := sub_of [707, 709, 711, 713, 715, 717, 719, 721, 723, 725, 727, 729, 731, 733] (by decide +kernel) (by decide +kernel)
theorem fl_1_9 : FL 1 9 1 0 := ⟨RX1, TX1, 2, rfl, by decide, inw_1, Or.inl (g_mem 131 (by decide +kernel) (by decide +kernel))⟩
theorem fl_5_32 : FL 5 32 1 0 := ⟨RX1, TX1, 2, rfl, by decide, inw_1, Or.inr ⟨"PhrasePool", n_mem 32 (by decide +kernel) (by decide +kernel) (by decide +kernel)⟩⟩
theorem fl_2_107 : FL 2 107 1 0 := ⟨RX1, TX1, 2, rfl, by decide, inw_1, Or.inr ⟨"PhrasePool", n_mem 33 (by decide +kernel) (by decide +kernel) (by decide +kernel)⟩⟩
theorem fl_5_16 : FL 5 16 1 1 := ⟨RX1, TX1, 2, rfl, by decide, inw_1, Or.inr ⟨"PhrasePool", n_mem 34 (by decide +kernel) (by decide +kernel) (by decide +kernel)⟩⟩
theorem fl_1_15 : FL 1 15 1 1 := ⟨RX1, TX1, 2, rfl, by decide, inw_1, Or.inl (g_mem 135 (by decide +kernel) (by decide +kernel))⟩
theorem fp_1_15 : FP 1 15 1 1 "I" := ⟨RX1, TX1, 2, tyX1, rfl, by decide, inw_1, tyX1_ok, nmX1, by decide, rfl, g_mem 135 (by decide +kernel) (by decide +kernel)⟩
theorem fl_2_103 : FL 2 103 1 1 := ⟨RX1, TX1, 2, rfl, by decide, inw_1, Or.inr ⟨"PhrasePool", n_mem 36 (by decide +kernel) (by decide +kernel) (by decide +kernel)⟩⟩
theorem fl_6_218 : FL 6 218 1 1 := ⟨RX1, TX1, 2, rfl, by decide, inw_1, Or.inr ⟨"PhrasePool", n_mem 37 (by decide +kernel) (by decide +kernel) (by decide +kernel)⟩⟩
theorem fl_5_11 : FL 5 11 5 0 := ⟨RX5, TX5, 1, rfl, by decide, inw_5, Or.inl (g_mem 153 (by decide +kernel) (by decide +kernel))⟩
theorem fl_2_11 : FL 2 11 2 0 := ⟨RX2, TX2, 5, rfl, by decide, inw_2, Or.inl (g_mem 162 (by decide +kernel) (by decide +kernel))⟩
theorem fl_2_15 : FL 2 15 2 1 := ⟨RX2, TX2, 5, rfl, by decide, inw_2, Or.inl (g_mem 163 (by decide +kernel) (by decide +kernel))⟩
theorem fl_2_22 : FL 2 22 2 2 := ⟨RX2, TX2, 5, rfl, by decide, inw_2, Or.inl (g_mem 164 (by decide +kernel) (by decide +kernel))⟩
theorem fl_2_26 : FL 2 26 2 3 := ⟨RX2, TX2, 5, rfl, by decide, inw_2, Or.inl (g_mem 165 (by decide +kernel) (by decide +kernel))⟩
theorem fl_2_32 : FL 2 32 2 4 := ⟨RX2, TX2, 5, rfl, by decide, inw_2, Or.inl (g_mem 166 (by decide +kernel) (by decide +kernel))⟩
theorem fl_0_13 : FL 0 13 0 0 := ⟨RX0, TX0, 3, rfl, by decide, inw_0, Or.inl (g_mem 185 (by decide +kernel) (by decide +kernel))⟩
theorem fl_0_18 : FL 0 18 0 1 := ⟨RX0, TX0, 3, rfl, by decide, inw_0, Or.inl (g_mem 186 (by decide +kernel) (by decide +kernel))⟩
theorem fp_0_18 : FP 0 18 0 1 "I" := ⟨RX0, TX0, 3, tyX0, rfl, by decide, inw_0, tyX0_ok, nmX0, by decide, rfl, g_mem 186 (by decide +kernel) (by decide +kernel)⟩
theorem fl_0_26 : FL 0 26 0 2 := ⟨RX0, TX0, 3, rfl, by decide, inw_0, Or.inl (g_mem 187 (by decide +kernel) (by decide +kernel))⟩
theorem fp_0_26 : FP 0 26 0 2 "I" := ⟨RX0, TX0, 3, tyX0, rfl, by decide, inw_0, tyX0_ok, nmX0, by decide, rfl, g_mem 187 (by decide +kernel) (by decide +kernel)⟩
theorem fl_6_200 : FL 6 200 0 2 := ⟨RX0, TX0, 3, rfl, by decide, inw_0, Or.inr ⟨"PhrasePool", n_mem 88 (by decide +kernel) (by decide +kernel) (by decide +kernel)⟩⟩
theorem fl_3_9 : FL 3 9 3 0 := ⟨RX3, TX3, 2, rfl, by decide, inw_3, Or.inl (g_mem 202 (by decide +kernel) (by decide +kernel))⟩
theorem fl_3_15 : FL 3 15 3 1 := ⟨RX3, TX3, 2, rfl, by decide, inw_3, Or.inl (g_mem 203 (by decide +kernel) (by decide +kernel))⟩
theorem fp_3_15 : FP 3 15 3 1 "I" := ⟨RX3, TX3, 2, tyX3, rfl, by decide, inw_3, tyX3_ok, nmX3, by decide, rfl, g_mem 203 (by decide +kernel) (by decide +kernel)⟩
theorem fl_6_83 : FL 6 83 3 1 := ⟨RX3, TX3, 2, rfl, by decide, inw_3, Or.inr ⟨"PhrasePool", n_mem 104 (by decide +kernel) (by decide +kernel) (by decide +kernel)⟩⟩
theorem fl_4_9 : FL 4 9 4 0 := ⟨RX4, TX4, 5, rfl, by decide, inw_4, Or.inl (g_mem 218 (by decide +kernel) (by decide +kernel))⟩
theorem fl_4_15 : FL 4 15 4 1 := ⟨RX4, TX4, 5, rfl, by decide, inw_4, Or.inl (g_mem 219 (by decide +kernel) (by decide +kernel))⟩
theorem fl_4_18 : FL 4 18 4 2 := ⟨RX4, TX4, 5, rfl, by decide, inw_4, Or.inl (g_mem 220 (by decide +kernel) (by decide +kernel))⟩
theorem fl_4_21 : FL 4 21 4 3 := ⟨RX4, TX4, 5, rfl, by decide, inw_4, Or.inl (g_mem 221 (by decide +kernel) (by decide +kernel))⟩
theorem fl_4_24 : FL 4 24 4 4 := ⟨RX4, TX4, 5, rfl, by decide, inw_4, Or.inl (g_mem 222 (by decide +kernel) (by decide +kernel))⟩
theorem fp_4_24 : FP 4 24 4 4 "I" := ⟨RX4, TX4, 5, tyX4, rfl, by decide, inw_4, tyX4_ok, nmX4, by decide, rfl, g_mem 222 (by decide +kernel) (by decide +kernel)⟩
theorem fl_6_10 : FL 6 10 6 0 := ⟨RX6, TX6, 5, rfl, by decide, inw_6, Or.inl (g_mem 234 (by decide +kernel) (by decide +kernel))⟩
theorem fl_6_19 : FL 6 19 6 1 := ⟨RX6, TX6, 5, rfl, by decide, inw_6, Or.inl (g_mem 235 (by decide +kernel) (by decide +kernel))⟩
theorem fl_6_26 : FL 6 26 6 2 := ⟨RX6, TX6, 5, rfl, by decide, inw_6, Or.inl (g_mem 236 (by decide +kernel) (by decide +kernel))⟩
theorem fl_6_33 : FL 6 33 6 3 := ⟨RX6, TX6, 5, rfl, by decide, inw_6, Or.inl (g_mem 237 (by decide +kernel) (by decide +kernel))⟩
theorem fl_6_40 : FL 6 40 6 4 := ⟨RX6, TX6, 5, rfl, by decide, inw_6, Or.inl (g_mem 238 (by decide +kernel) (by decide +kernel))⟩
theorem sl_6_70 : Cond.fieldLink (RN 6) 70 "PhrasePool" (snm 100) "[I" ∈ g_tbl := g_mem 300 (by decide +kernel) (by decide +kernel)
theorem sl_6_74 : Cond.fieldLink (RN 6) 74 "PhrasePool" (snm 101) "[I" ∈ g_tbl := g_mem 302 (by decide +kernel) (by decide +kernel)
theorem fl_7_7 : FL 7 7 7 0 := ⟨RX7, TX7, 14, rfl, by decide, inw_7, Or.inl (g_mem 693 (by decide +kernel) (by decide +kernel))⟩
theorem fl_7_37 : FL 7 37 7 1 := ⟨RX7, TX7, 14, rfl, by decide, inw_7, Or.inl (g_mem 694 (by decide +kernel) (by decide +kernel))⟩
theorem fp_7_37 : FP 7 37 7 1 "I" := ⟨RX7, TX7, 14, tyX7, rfl, by decide, inw_7, tyX7_ok, nmX7, by decide, rfl, g_mem 694 (by decide +kernel) (by decide +kernel)⟩
theorem fl_7_13 : FL 7 13 7 2 := ⟨RX7, TX7, 14, rfl, by decide, inw_7, Or.inl (g_mem 695 (by decide +kernel) (by decide +kernel))⟩
theorem fl_7_53 : FL 7 53 7 3 := ⟨RX7, TX7, 14, rfl, by decide, inw_7, Or.inl (g_mem 696 (by decide +kernel) (by decide +kernel))⟩
theorem fp_7_53 : FP 7 53 7 3 "I" := ⟨RX7, TX7, 14, tyX7, rfl, by decide, inw_7, tyX7_ok, nmX7, by decide, rfl, g_mem 696 (by decide +kernel) (by decide +kernel)⟩
theorem fl_7_16 : FL 7 16 7 4 := ⟨RX7, TX7, 14, rfl, by decide, inw_7, Or.inl (g_mem 697 (by decide +kernel) (by decide +kernel))⟩
theorem fl_7_56 : FL 7 56 7 5 := ⟨RX7, TX7, 14, rfl, by decide, inw_7, Or.inl (g_mem 698 (by decide +kernel) (by decide +kernel))⟩
theorem fp_7_56 : FP 7 56 7 5 "I" := ⟨RX7, TX7, 14, tyX7, rfl, by decide, inw_7, tyX7_ok, nmX7, by decide, rfl, g_mem 698 (by decide +kernel) (by decide +kernel)⟩
theorem fl_7_19 : FL 7 19 7 6 := ⟨RX7, TX7, 14, rfl, by decide, inw_7, Or.inl (g_mem 699 (by decide +kernel) (by decide +kernel))⟩
theorem fl_7_22 : FL 7 22 7 7 := ⟨RX7, TX7, 14, rfl, by decide, inw_7, Or.inl (g_mem 700 (by decide +kernel) (by decide +kernel))⟩
theorem fl_7_25 : FL 7 25 7 8 := ⟨RX7, TX7, 14, rfl, by decide, inw_7, Or.inl (g_mem 701 (by decide +kernel) (by decide +kernel))⟩
theorem fl_7_28 : FL 7 28 7 9 := ⟨RX7, TX7, 14, rfl, by decide, inw_7, Or.inl (g_mem 702 (by decide +kernel) (by decide +kernel))⟩
theorem fl_7_31 : FL 7 31 7 10 := ⟨RX7, TX7, 14, rfl, by decide, inw_7, Or.inl (g_mem 703 (by decide +kernel) (by decide +kernel))⟩
theorem fl_7_34 : FL 7 34 7 11 := ⟨RX7, TX7, 14, rfl, by decide, inw_7, Or.inl (g_mem 704 (by decide +kernel) (by decide +kernel))⟩
theorem fl_7_59 : FL 7 59 7 12 := ⟨RX7, TX7, 14, rfl, by decide, inw_7, Or.inl (g_mem 705 (by decide +kernel) (by decide +kernel))⟩
theorem fp_7_59 : FP 7 59 7 12 "I" := ⟨RX7, TX7, 14, tyX7, rfl, by decide, inw_7, tyX7_ok, nmX7, by decide, rfl, g_mem 705 (by decide +kernel) (by decide +kernel)⟩
theorem fl_7_159 : FL 7 159 7 13 := ⟨RX7, TX7, 14, rfl, by decide, inw_7, Or.inl (g_mem 706 (by decide +kernel) (by decide +kernel))⟩
theorem fp_7_159 : FP 7 159 7 13 "J" := ⟨RX7, TX7, 14, tyX7, rfl, by decide, inw_7, tyX7_ok, nmX7, by decide, rfl, g_mem 706 (by decide +kernel) (by decide +kernel)⟩
theorem cn_6_48 : Cond.constant (RN 6) 48 (-1000004) ∈ g_tbl := g_mem 258 (by decide +kernel) (by decide +kernel)
theorem cn_6_60 : Cond.constant (RN 6) 60 (-1000001) ∈ g_tbl := g_mem 286 (by decide +kernel) (by decide +kernel)
theorem cn_6_61 : Cond.constant (RN 6) 61 (-1000002) ∈ g_tbl := g_mem 287 (by decide +kernel) (by decide +kernel)
theorem cn_6_94 : Cond.constant (RN 6) 94 (-1000000) ∈ g_tbl := g_mem 427 (by decide +kernel) (by decide +kernel)
theorem cn_3_23 : Cond.constant (RN 3) 23 (-1000000) ∈ g_tbl := g_mem 443 (by decide +kernel) (by decide +kernel)
theorem cn_6_105 : Cond.constant (RN 6) 105 (-1000003) ∈ g_tbl := g_mem 445 (by decide +kernel) (by decide +kernel)
theorem cn_2_167 : Cond.constant (RN 2) 167 (-1000000) ∈ g_tbl := g_mem 549 (by decide +kernel) (by decide +kernel)
theorem cn_4_32 : Cond.constant (RN 4) 32 (-1000000) ∈ g_tbl := g_mem 625 (by decide +kernel) (by decide +kernel)
theorem cn_6_207 : Cond.constantLong (RN 6) 207 (61) ∈ g_tbl := g_mem 681 (by decide +kernel) (by decide +kernel)
theorem cn_6_209 : Cond.constantLong (RN 6) 209 (31) ∈ g_tbl := g_mem 682 (by decide +kernel) (by decide +kernel)
theorem cn_7_79 : Cond.constant (RN 7) 79 (-1000004) ∈ g_tbl := g_mem 740 (by decide +kernel) (by decide +kernel)
theorem cn_7_87 : Cond.constant (RN 7) 87 (-1000001) ∈ g_tbl := g_mem 760 (by decide +kernel) (by decide +kernel)
theorem cn_7_88 : Cond.constant (RN 7) 88 (-1000002) ∈ g_tbl := g_mem 761 (by decide +kernel) (by decide +kernel)
theorem cn_7_121 : Cond.constant (RN 7) 121 (-1000000) ∈ g_tbl := g_mem 837 (by decide +kernel) (by decide +kernel)
theorem cn_7_128 : Cond.constant (RN 7) 128 (-1000003) ∈ g_tbl := g_mem 846 (by decide +kernel) (by decide +kernel)
theorem cn_7_163 : Cond.constantLong (RN 7) 163 (61) ∈ g_tbl := g_mem 960 (by decide +kernel) (by decide +kernel)
theorem cn_7_157 : Cond.constantLong (RN 7) 157 (31) ∈ g_tbl := g_mem 965 (by decide +kernel) (by decide +kernel)
theorem k0_X0_keep : LK0 mX0_keep 1 := ⟨g_mem 262 (by decide +kernel) (by decide +kernel), g_mem 106 (by decide +kernel) (by decide +kernel), by decide +kernel, by decide⟩
theorem ki_X0_keep : LKI mX0_keep 1 0 := ⟨k0_X0_keep, g_mem 261 (by decide +kernel) (by decide +kernel), g_mem 1 (by decide +kernel) (by decide +kernel), rfl⟩
theorem k0_X0_restoreInto : LK0 mX0_restoreInto 1 := ⟨g_mem 672 (by decide +kernel) (by decide +kernel), g_mem 106 (by decide +kernel) (by decide +kernel), by decide +kernel, by decide⟩
theorem ki_X0_restoreInto : LKI mX0_restoreInto 1 0 := ⟨k0_X0_restoreInto, g_mem 671 (by decide +kernel) (by decide +kernel), g_mem 68 (by decide +kernel) (by decide +kernel), rfl⟩
theorem k0_X1_clear : LK0 mX1_clear 0 := ⟨g_mem 369 (by decide +kernel) (by decide +kernel), g_mem 103 (by decide +kernel) (by decide +kernel), by decide +kernel, by decide⟩
theorem ki_X1_clear : LKI mX1_clear 0 1 := ⟨k0_X1_clear, g_mem 368 (by decide +kernel) (by decide +kernel), g_mem 20 (by decide +kernel) (by decide +kernel), rfl⟩
theorem k0_X1_append : LK0 mX1_append 1 := ⟨g_mem 381 (by decide +kernel) (by decide +kernel), g_mem 103 (by decide +kernel) (by decide +kernel), by decide +kernel, by decide⟩
theorem ki_X1_append : LKI mX1_append 1 1 := ⟨k0_X1_append, g_mem 380 (by decide +kernel) (by decide +kernel), g_mem 23 (by decide +kernel) (by decide +kernel), rfl⟩
theorem k0_X2_copyTo : LK0 mX2_copyTo 1 := ⟨g_mem 266 (by decide +kernel) (by decide +kernel), g_mem 102 (by decide +kernel) (by decide +kernel), by decide +kernel, by decide⟩
theorem ki_X2_copyTo : LKI mX2_copyTo 1 2 := ⟨k0_X2_copyTo, g_mem 265 (by decide +kernel) (by decide +kernel), g_mem 2 (by decide +kernel) (by decide +kernel), rfl⟩
theorem k0_X2_copyFrom : LK0 mX2_copyFrom 1 := ⟨g_mem 676 (by decide +kernel) (by decide +kernel), g_mem 102 (by decide +kernel) (by decide +kernel), by decide +kernel, by decide⟩
theorem ki_X2_copyFrom : LKI mX2_copyFrom 1 2 := ⟨k0_X2_copyFrom, g_mem 675 (by decide +kernel) (by decide +kernel), g_mem 69 (by decide +kernel) (by decide +kernel), rfl⟩
theorem k0_X2_memberCell : LK0 mX2_memberCell 2 := ⟨g_mem 276 (by decide +kernel) (by decide +kernel), g_mem 102 (by decide +kernel) (by decide +kernel), by decide +kernel, by decide⟩
theorem k0_X2_phraseCell : LK0 mX2_phraseCell 2 := ⟨g_mem 334 (by decide +kernel) (by decide +kernel), g_mem 102 (by decide +kernel) (by decide +kernel), by decide +kernel, by decide⟩
theorem k0_X2_noteCell : LK0 mX2_noteCell 2 := ⟨g_mem 349 (by decide +kernel) (by decide +kernel), g_mem 102 (by decide +kernel) (by decide +kernel), by decide +kernel, by decide⟩
theorem k0_X2_members : LK0 mX2_members 0 := ⟨g_mem 257 (by decide +kernel) (by decide +kernel), g_mem 102 (by decide +kernel) (by decide +kernel), by decide +kernel, by decide⟩
theorem ki_X2_members : LKI mX2_members 0 2 := ⟨k0_X2_members, g_mem 256 (by decide +kernel) (by decide +kernel), g_mem 0 (by decide +kernel) (by decide +kernel), rfl⟩
theorem k0_X2_phrases : LK0 mX2_phrases 0 := ⟨g_mem 323 (by decide +kernel) (by decide +kernel), g_mem 102 (by decide +kernel) (by decide +kernel), by decide +kernel, by decide⟩
theorem ki_X2_phrases : LKI mX2_phrases 0 2 := ⟨k0_X2_phrases, g_mem 322 (by decide +kernel) (by decide +kernel), g_mem 10 (by decide +kernel) (by decide +kernel), rfl⟩
theorem k0_X2_notes : LK0 mX2_notes 0 := ⟨g_mem 338 (by decide +kernel) (by decide +kernel), g_mem 102 (by decide +kernel) (by decide +kernel), by decide +kernel, by decide⟩
theorem ki_X2_notes : LKI mX2_notes 0 2 := ⟨k0_X2_notes, g_mem 337 (by decide +kernel) (by decide +kernel), g_mem 13 (by decide +kernel) (by decide +kernel), rfl⟩
theorem k0_X2_tick : LK0 mX2_tick 0 := ⟨g_mem 353 (by decide +kernel) (by decide +kernel), g_mem 102 (by decide +kernel) (by decide +kernel), by decide +kernel, by decide⟩
theorem ki_X2_tick : LKI mX2_tick 0 2 := ⟨k0_X2_tick, g_mem 352 (by decide +kernel) (by decide +kernel), g_mem 16 (by decide +kernel) (by decide +kernel), rfl⟩
theorem k0_X2_hasMember : LK0 mX2_hasMember 1 := ⟨g_mem 284 (by decide +kernel) (by decide +kernel), g_mem 102 (by decide +kernel) (by decide +kernel), by decide +kernel, by decide⟩
theorem ki_X2_hasMember : LKI mX2_hasMember 1 2 := ⟨k0_X2_hasMember, g_mem 283 (by decide +kernel) (by decide +kernel), g_mem 4 (by decide +kernel) (by decide +kernel), rfl⟩
theorem k0_X2_hasPhrase : LK0 mX2_hasPhrase 1 := ⟨g_mem 431 (by decide +kernel) (by decide +kernel), g_mem 102 (by decide +kernel) (by decide +kernel), by decide +kernel, by decide⟩
theorem ki_X2_hasPhrase : LKI mX2_hasPhrase 1 2 := ⟨k0_X2_hasPhrase, g_mem 430 (by decide +kernel) (by decide +kernel), g_mem 33 (by decide +kernel) (by decide +kernel), rfl⟩
theorem k0_X2_hasNote : LK0 mX2_hasNote 1 := ⟨g_mem 565 (by decide +kernel) (by decide +kernel), g_mem 102 (by decide +kernel) (by decide +kernel), by decide +kernel, by decide⟩
theorem ki_X2_hasNote : LKI mX2_hasNote 1 2 := ⟨k0_X2_hasNote, g_mem 564 (by decide +kernel) (by decide +kernel), g_mem 52 (by decide +kernel) (by decide +kernel), rfl⟩
theorem k0_X2_settingOf : LK0 mX2_settingOf 1 := ⟨g_mem 307 (by decide +kernel) (by decide +kernel), g_mem 102 (by decide +kernel) (by decide +kernel), by decide +kernel, by decide⟩
theorem ki_X2_settingOf : LKI mX2_settingOf 1 2 := ⟨k0_X2_settingOf, g_mem 306 (by decide +kernel) (by decide +kernel), g_mem 7 (by decide +kernel) (by decide +kernel), rfl⟩
theorem k0_X2_changeSetting : LK0 mX2_changeSetting 2 := ⟨g_mem 311 (by decide +kernel) (by decide +kernel), g_mem 102 (by decide +kernel) (by decide +kernel), by decide +kernel, by decide⟩
theorem ki_X2_changeSetting : LKI mX2_changeSetting 2 2 := ⟨k0_X2_changeSetting, g_mem 310 (by decide +kernel) (by decide +kernel), g_mem 8 (by decide +kernel) (by decide +kernel), rfl⟩
theorem k0_X2_moveTick : LK0 mX2_moveTick 1 := ⟨g_mem 608 (by decide +kernel) (by decide +kernel), g_mem 102 (by decide +kernel) (by decide +kernel), by decide +kernel, by decide⟩
theorem ki_X2_moveTick : LKI mX2_moveTick 1 2 := ⟨k0_X2_moveTick, g_mem 607 (by decide +kernel) (by decide +kernel), g_mem 59 (by decide +kernel) (by decide +kernel), rfl⟩
theorem k0_X2_startMember : LK0 mX2_startMember 0 := ⟨g_mem 273 (by decide +kernel) (by decide +kernel), g_mem 102 (by decide +kernel) (by decide +kernel), by decide +kernel, by decide⟩
theorem ki_X2_startMember : LKI mX2_startMember 0 2 := ⟨k0_X2_startMember, g_mem 272 (by decide +kernel) (by decide +kernel), g_mem 3 (by decide +kernel) (by decide +kernel), rfl⟩
theorem k0_X2_priceOf : LK0 mX2_priceOf 1 := ⟨g_mem 291 (by decide +kernel) (by decide +kernel), g_mem 102 (by decide +kernel) (by decide +kernel), by decide +kernel, by decide⟩
theorem ki_X2_priceOf : LKI mX2_priceOf 1 2 := ⟨k0_X2_priceOf, g_mem 290 (by decide +kernel) (by decide +kernel), g_mem 5 (by decide +kernel) (by decide +kernel), rfl⟩
theorem k0_X2_changePrice : LK0 mX2_changePrice 2 := ⟨g_mem 295 (by decide +kernel) (by decide +kernel), g_mem 102 (by decide +kernel) (by decide +kernel), by decide +kernel, by decide⟩
theorem ki_X2_changePrice : LKI mX2_changePrice 2 2 := ⟨k0_X2_changePrice, g_mem 294 (by decide +kernel) (by decide +kernel), g_mem 6 (by decide +kernel) (by decide +kernel), rfl⟩
theorem k0_X2_memberProperty : LK0 mX2_memberProperty 2 := ⟨g_mem 402 (by decide +kernel) (by decide +kernel), g_mem 102 (by decide +kernel) (by decide +kernel), by decide +kernel, by decide⟩
theorem ki_X2_memberProperty : LKI mX2_memberProperty 2 2 := ⟨k0_X2_memberProperty, g_mem 401 (by decide +kernel) (by decide +kernel), g_mem 27 (by decide +kernel) (by decide +kernel), rfl⟩
theorem k0_X2_countOwned : LK0 mX2_countOwned 1 := ⟨g_mem 406 (by decide +kernel) (by decide +kernel), g_mem 102 (by decide +kernel) (by decide +kernel), by decide +kernel, by decide⟩
theorem ki_X2_countOwned : LKI mX2_countOwned 1 2 := ⟨k0_X2_countOwned, g_mem 405 (by decide +kernel) (by decide +kernel), g_mem 28 (by decide +kernel) (by decide +kernel), rfl⟩
theorem k0_X2_countUsesNoted : LK0 mX2_countUsesNoted 1 := ⟨g_mem 414 (by decide +kernel) (by decide +kernel), g_mem 102 (by decide +kernel) (by decide +kernel), by decide +kernel, by decide⟩
theorem ki_X2_countUsesNoted : LKI mX2_countUsesNoted 1 2 := ⟨k0_X2_countUsesNoted, g_mem 413 (by decide +kernel) (by decide +kernel), g_mem 30 (by decide +kernel) (by decide +kernel), rfl⟩
theorem k0_X2_sumGot : LK0 mX2_sumGot 1 := ⟨g_mem 422 (by decide +kernel) (by decide +kernel), g_mem 102 (by decide +kernel) (by decide +kernel), by decide +kernel, by decide⟩
theorem ki_X2_sumGot : LKI mX2_sumGot 1 2 := ⟨k0_X2_sumGot, g_mem 421 (by decide +kernel) (by decide +kernel), g_mem 32 (by decide +kernel) (by decide +kernel), rfl⟩
theorem k0_X2_countOf : LK0 mX2_countOf 1 := ⟨g_mem 319 (by decide +kernel) (by decide +kernel), g_mem 102 (by decide +kernel) (by decide +kernel), by decide +kernel, by decide⟩
theorem ki_X2_countOf : LKI mX2_countOf 1 2 := ⟨k0_X2_countOf, g_mem 318 (by decide +kernel) (by decide +kernel), g_mem 9 (by decide +kernel) (by decide +kernel), rfl⟩
theorem k0_X2_countLive : LK0 mX2_countLive 0 := ⟨g_mem 327 (by decide +kernel) (by decide +kernel), g_mem 102 (by decide +kernel) (by decide +kernel), by decide +kernel, by decide⟩
theorem ki_X2_countLive : LKI mX2_countLive 0 2 := ⟨k0_X2_countLive, g_mem 326 (by decide +kernel) (by decide +kernel), g_mem 11 (by decide +kernel) (by decide +kernel), rfl⟩
theorem k0_X2_countPaidBack : LK0 mX2_countPaidBack 0 := ⟨g_mem 342 (by decide +kernel) (by decide +kernel), g_mem 102 (by decide +kernel) (by decide +kernel), by decide +kernel, by decide⟩
theorem ki_X2_countPaidBack : LKI mX2_countPaidBack 0 2 := ⟨k0_X2_countPaidBack, g_mem 341 (by decide +kernel) (by decide +kernel), g_mem 14 (by decide +kernel) (by decide +kernel), rfl⟩
theorem k0_X2_countConflicts : LK0 mX2_countConflicts 0 := ⟨g_mem 357 (by decide +kernel) (by decide +kernel), g_mem 102 (by decide +kernel) (by decide +kernel), by decide +kernel, by decide⟩
theorem ki_X2_countConflicts : LKI mX2_countConflicts 0 2 := ⟨k0_X2_countConflicts, g_mem 356 (by decide +kernel) (by decide +kernel), g_mem 17 (by decide +kernel) (by decide +kernel), rfl⟩
theorem k0_X2_startPhrase : LK0 mX2_startPhrase 4 := ⟨g_mem 456 (by decide +kernel) (by decide +kernel), g_mem 102 (by decide +kernel) (by decide +kernel), by decide +kernel, by decide⟩
theorem ki_X2_startPhrase : LKI mX2_startPhrase 4 2 := ⟨k0_X2_startPhrase, g_mem 455 (by decide +kernel) (by decide +kernel), g_mem 37 (by decide +kernel) (by decide +kernel), rfl⟩
theorem k0_X2_phraseProperty : LK0 mX2_phraseProperty 2 := ⟨g_mem 464 (by decide +kernel) (by decide +kernel), g_mem 102 (by decide +kernel) (by decide +kernel), by decide +kernel, by decide⟩
theorem ki_X2_phraseProperty : LKI mX2_phraseProperty 2 2 := ⟨k0_X2_phraseProperty, g_mem 463 (by decide +kernel) (by decide +kernel), g_mem 38 (by decide +kernel) (by decide +kernel), rfl⟩
theorem k0_X2_ownerOf : LK0 mX2_ownerOf 1 := ⟨g_mem 410 (by decide +kernel) (by decide +kernel), g_mem 102 (by decide +kernel) (by decide +kernel), by decide +kernel, by decide⟩
theorem ki_X2_ownerOf : LKI mX2_ownerOf 1 2 := ⟨k0_X2_ownerOf, g_mem 409 (by decide +kernel) (by decide +kernel), g_mem 29 (by decide +kernel) (by decide +kernel), rfl⟩
theorem k0_X2_lengthOf : LK0 mX2_lengthOf 1 := ⟨g_mem 373 (by decide +kernel) (by decide +kernel), g_mem 102 (by decide +kernel) (by decide +kernel), by decide +kernel, by decide⟩
theorem ki_X2_lengthOf : LKI mX2_lengthOf 1 2 := ⟨k0_X2_lengthOf, g_mem 372 (by decide +kernel) (by decide +kernel), g_mem 21 (by decide +kernel) (by decide +kernel), rfl⟩
theorem k0_X2_targetOf : LK0 mX2_targetOf 1 := ⟨g_mem 393 (by decide +kernel) (by decide +kernel), g_mem 102 (by decide +kernel) (by decide +kernel), by decide +kernel, by decide⟩
theorem ki_X2_targetOf : LKI mX2_targetOf 1 2 := ⟨k0_X2_targetOf, g_mem 392 (by decide +kernel) (by decide +kernel), g_mem 26 (by decide +kernel) (by decide +kernel), rfl⟩
theorem k0_X2_parentOf : LK0 mX2_parentOf 1 := ⟨g_mem 553 (by decide +kernel) (by decide +kernel), g_mem 102 (by decide +kernel) (by decide +kernel), by decide +kernel, by decide⟩
theorem ki_X2_parentOf : LKI mX2_parentOf 1 2 := ⟨k0_X2_parentOf, g_mem 552 (by decide +kernel) (by decide +kernel), g_mem 50 (by decide +kernel) (by decide +kernel), rfl⟩
theorem k0_X2_isLive : LK0 mX2_isLive 1 := ⟨g_mem 331 (by decide +kernel) (by decide +kernel), g_mem 102 (by decide +kernel) (by decide +kernel), by decide +kernel, by decide⟩
theorem ki_X2_isLive : LKI mX2_isLive 1 2 := ⟨k0_X2_isLive, g_mem 330 (by decide +kernel) (by decide +kernel), g_mem 12 (by decide +kernel) (by decide +kernel), rfl⟩
theorem k0_X2_usesOf : LK0 mX2_usesOf 1 := ⟨g_mem 521 (by decide +kernel) (by decide +kernel), g_mem 102 (by decide +kernel) (by decide +kernel), by decide +kernel, by decide⟩
theorem ki_X2_usesOf : LKI mX2_usesOf 1 2 := ⟨k0_X2_usesOf, g_mem 520 (by decide +kernel) (by decide +kernel), g_mem 46 (by decide +kernel) (by decide +kernel), rfl⟩
theorem k0_X2_wordOf : LK0 mX2_wordOf 2 := ⟨g_mem 377 (by decide +kernel) (by decide +kernel), g_mem 102 (by decide +kernel) (by decide +kernel), by decide +kernel, by decide⟩
theorem ki_X2_wordOf : LKI mX2_wordOf 2 2 := ⟨k0_X2_wordOf, g_mem 376 (by decide +kernel) (by decide +kernel), g_mem 22 (by decide +kernel) (by decide +kernel), rfl⟩
theorem k0_X2_readInto : LK0 mX2_readInto 2 := ⟨g_mem 365 (by decide +kernel) (by decide +kernel), g_mem 102 (by decide +kernel) (by decide +kernel), by decide +kernel, by decide⟩
theorem ki_X2_readInto : LKI mX2_readInto 2 2 := ⟨k0_X2_readInto, g_mem 364 (by decide +kernel) (by decide +kernel), g_mem 19 (by decide +kernel) (by decide +kernel), rfl⟩
theorem k0_X2_likenessOf : LK0 mX2_likenessOf 2 := ⟨g_mem 478 (by decide +kernel) (by decide +kernel), g_mem 102 (by decide +kernel) (by decide +kernel), by decide +kernel, by decide⟩
theorem ki_X2_likenessOf : LKI mX2_likenessOf 2 2 := ⟨k0_X2_likenessOf, g_mem 477 (by decide +kernel) (by decide +kernel), g_mem 39 (by decide +kernel) (by decide +kernel), rfl⟩
theorem k0_X2_likenessTo : LK0 mX2_likenessTo 2 := ⟨g_mem 482 (by decide +kernel) (by decide +kernel), g_mem 102 (by decide +kernel) (by decide +kernel), by decide +kernel, by decide⟩
theorem ki_X2_likenessTo : LKI mX2_likenessTo 2 2 := ⟨k0_X2_likenessTo, g_mem 481 (by decide +kernel) (by decide +kernel), g_mem 40 (by decide +kernel) (by decide +kernel), rfl⟩
theorem k0_X2_conflictsOf : LK0 mX2_conflictsOf 1 := ⟨g_mem 361 (by decide +kernel) (by decide +kernel), g_mem 102 (by decide +kernel) (by decide +kernel), by decide +kernel, by decide⟩
theorem ki_X2_conflictsOf : LKI mX2_conflictsOf 1 2 := ⟨k0_X2_conflictsOf, g_mem 360 (by decide +kernel) (by decide +kernel), g_mem 18 (by decide +kernel) (by decide +kernel), rfl⟩
theorem k0_X2_standsAt : LK0 mX2_standsAt 3 := ⟨g_mem 389 (by decide +kernel) (by decide +kernel), g_mem 102 (by decide +kernel) (by decide +kernel), by decide +kernel, by decide⟩
theorem ki_X2_standsAt : LKI mX2_standsAt 3 2 := ⟨k0_X2_standsAt, g_mem 388 (by decide +kernel) (by decide +kernel), g_mem 25 (by decide +kernel) (by decide +kernel), rfl⟩
theorem k0_X2_isLiveAs : LK0 mX2_isLiveAs 2 := ⟨g_mem 385 (by decide +kernel) (by decide +kernel), g_mem 102 (by decide +kernel) (by decide +kernel), by decide +kernel, by decide⟩
theorem ki_X2_isLiveAs : LKI mX2_isLiveAs 2 2 := ⟨k0_X2_isLiveAs, g_mem 384 (by decide +kernel) (by decide +kernel), g_mem 24 (by decide +kernel) (by decide +kernel), rfl⟩
theorem k0_X2_giversOf : LK0 mX2_giversOf 2 := ⟨g_mem 504 (by decide +kernel) (by decide +kernel), g_mem 102 (by decide +kernel) (by decide +kernel), by decide +kernel, by decide⟩
theorem ki_X2_giversOf : LKI mX2_giversOf 2 2 := ⟨k0_X2_giversOf, g_mem 503 (by decide +kernel) (by decide +kernel), g_mem 43 (by decide +kernel) (by decide +kernel), rfl⟩
theorem k0_X2_gives : LK0 mX2_gives 3 := ⟨g_mem 508 (by decide +kernel) (by decide +kernel), g_mem 102 (by decide +kernel) (by decide +kernel), by decide +kernel, by decide⟩
theorem ki_X2_gives : LKI mX2_gives 3 2 := ⟨k0_X2_gives, g_mem 507 (by decide +kernel) (by decide +kernel), g_mem 44 (by decide +kernel) (by decide +kernel), rfl⟩
theorem k0_X2_feeFor : LK0 mX2_feeFor 3 := ⟨g_mem 533 (by decide +kernel) (by decide +kernel), g_mem 102 (by decide +kernel) (by decide +kernel), by decide +kernel, by decide⟩
theorem ki_X2_feeFor : LKI mX2_feeFor 3 2 := ⟨k0_X2_feeFor, g_mem 532 (by decide +kernel) (by decide +kernel), g_mem 47 (by decide +kernel) (by decide +kernel), rfl⟩
theorem k0_X2_noteProperty : LK0 mX2_noteProperty 2 := ⟨g_mem 418 (by decide +kernel) (by decide +kernel), g_mem 102 (by decide +kernel) (by decide +kernel), by decide +kernel, by decide⟩
theorem ki_X2_noteProperty : LKI mX2_noteProperty 2 2 := ⟨k0_X2_noteProperty, g_mem 417 (by decide +kernel) (by decide +kernel), g_mem 31 (by decide +kernel) (by decide +kernel), rfl⟩
theorem k0_X2_isPaidBack : LK0 mX2_isPaidBack 1 := ⟨g_mem 346 (by decide +kernel) (by decide +kernel), g_mem 102 (by decide +kernel) (by decide +kernel), by decide +kernel, by decide⟩
theorem ki_X2_isPaidBack : LKI mX2_isPaidBack 1 2 := ⟨k0_X2_isPaidBack, g_mem 345 (by decide +kernel) (by decide +kernel), g_mem 15 (by decide +kernel) (by decide +kernel), rfl⟩
theorem k0_X2_startNote : LK0 mX2_startNote 3 := ⟨g_mem 543 (by decide +kernel) (by decide +kernel), g_mem 102 (by decide +kernel) (by decide +kernel), by decide +kernel, by decide⟩
theorem ki_X2_startNote : LKI mX2_startNote 3 2 := ⟨k0_X2_startNote, g_mem 542 (by decide +kernel) (by decide +kernel), g_mem 48 (by decide +kernel) (by decide +kernel), rfl⟩
theorem k0_X2_splitFee : LK0 mX2_splitFee 1 := ⟨g_mem 548 (by decide +kernel) (by decide +kernel), g_mem 102 (by decide +kernel) (by decide +kernel), by decide +kernel, by decide⟩
theorem ki_X2_splitFee : LKI mX2_splitFee 1 2 := ⟨k0_X2_splitFee, g_mem 547 (by decide +kernel) (by decide +kernel), g_mem 49 (by decide +kernel) (by decide +kernel), rfl⟩
theorem k0_X2_moveMoney : LK0 mX2_moveMoney 2 := ⟨g_mem 557 (by decide +kernel) (by decide +kernel), g_mem 102 (by decide +kernel) (by decide +kernel), by decide +kernel, by decide⟩
theorem ki_X2_moveMoney : LKI mX2_moveMoney 2 2 := ⟨k0_X2_moveMoney, g_mem 556 (by decide +kernel) (by decide +kernel), g_mem 51 (by decide +kernel) (by decide +kernel), rfl⟩
theorem k0_X2_markEndings : LK0 mX2_markEndings 1 := ⟨g_mem 574 (by decide +kernel) (by decide +kernel), g_mem 102 (by decide +kernel) (by decide +kernel), by decide +kernel, by decide⟩
theorem ki_X2_markEndings : LKI mX2_markEndings 1 2 := ⟨k0_X2_markEndings, g_mem 573 (by decide +kernel) (by decide +kernel), g_mem 53 (by decide +kernel) (by decide +kernel), rfl⟩
theorem k0_X2_hasMarkedParent : LK0 mX2_hasMarkedParent 1 := ⟨g_mem 578 (by decide +kernel) (by decide +kernel), g_mem 102 (by decide +kernel) (by decide +kernel), by decide +kernel, by decide⟩
theorem ki_X2_hasMarkedParent : LKI mX2_hasMarkedParent 1 2 := ⟨k0_X2_hasMarkedParent, g_mem 577 (by decide +kernel) (by decide +kernel), g_mem 54 (by decide +kernel) (by decide +kernel), rfl⟩
theorem k0_X2_endMarked : LK0 mX2_endMarked 0 := ⟨g_mem 591 (by decide +kernel) (by decide +kernel), g_mem 102 (by decide +kernel) (by decide +kernel), by decide +kernel, by decide⟩
theorem ki_X2_endMarked : LKI mX2_endMarked 0 2 := ⟨k0_X2_endMarked, g_mem 590 (by decide +kernel) (by decide +kernel), g_mem 57 (by decide +kernel) (by decide +kernel), rfl⟩
theorem k0_X2_isOwed : LK0 mX2_isOwed 1 := ⟨g_mem 587 (by decide +kernel) (by decide +kernel), g_mem 102 (by decide +kernel) (by decide +kernel), by decide +kernel, by decide⟩
theorem ki_X2_isOwed : LKI mX2_isOwed 1 2 := ⟨k0_X2_isOwed, g_mem 586 (by decide +kernel) (by decide +kernel), g_mem 56 (by decide +kernel) (by decide +kernel), rfl⟩
theorem k0_X2_owedForMarked : LK0 mX2_owedForMarked 0 := ⟨g_mem 599 (by decide +kernel) (by decide +kernel), g_mem 102 (by decide +kernel) (by decide +kernel), by decide +kernel, by decide⟩
theorem ki_X2_owedForMarked : LKI mX2_owedForMarked 0 2 := ⟨k0_X2_owedForMarked, g_mem 598 (by decide +kernel) (by decide +kernel), g_mem 58 (by decide +kernel) (by decide +kernel), rfl⟩
theorem k0_X2_payBackMarked : LK0 mX2_payBackMarked 0 := ⟨g_mem 583 (by decide +kernel) (by decide +kernel), g_mem 102 (by decide +kernel) (by decide +kernel), by decide +kernel, by decide⟩
theorem ki_X2_payBackMarked : LKI mX2_payBackMarked 0 2 := ⟨k0_X2_payBackMarked, g_mem 582 (by decide +kernel) (by decide +kernel), g_mem 55 (by decide +kernel) (by decide +kernel), rfl⟩
theorem k0_X3_isLetter : LK0 mX3_isLetter 1 := ⟨g_mem 442 (by decide +kernel) (by decide +kernel), g_mem 107 (by decide +kernel) (by decide +kernel), by decide +kernel, by decide⟩
theorem k0_X3_append : LK0 mX3_append 1 := ⟨g_mem 651 (by decide +kernel) (by decide +kernel), g_mem 107 (by decide +kernel) (by decide +kernel), by decide +kernel, by decide⟩
theorem ki_X3_append : LKI mX3_append 1 3 := ⟨k0_X3_append, g_mem 650 (by decide +kernel) (by decide +kernel), g_mem 66 (by decide +kernel) (by decide +kernel), rfl⟩
theorem k0_X3_empty : LK0 mX3_empty 0 := ⟨g_mem 659 (by decide +kernel) (by decide +kernel), g_mem 107 (by decide +kernel) (by decide +kernel), by decide +kernel, by decide⟩
theorem ki_X3_empty : LKI mX3_empty 0 3 := ⟨k0_X3_empty, g_mem 658 (by decide +kernel) (by decide +kernel), g_mem 67 (by decide +kernel) (by decide +kernel), rfl⟩
theorem k0_X3_fault : LK0 mX3_fault 0 := ⟨g_mem 439 (by decide +kernel) (by decide +kernel), g_mem 107 (by decide +kernel) (by decide +kernel), by decide +kernel, by decide⟩
theorem ki_X3_fault : LKI mX3_fault 0 3 := ⟨k0_X3_fault, g_mem 438 (by decide +kernel) (by decide +kernel), g_mem 35 (by decide +kernel) (by decide +kernel), rfl⟩
theorem k0_X3_isFaulty : LK0 mX3_isFaulty 0 := ⟨g_mem 435 (by decide +kernel) (by decide +kernel), g_mem 107 (by decide +kernel) (by decide +kernel), by decide +kernel, by decide⟩
theorem ki_X3_isFaulty : LKI mX3_isFaulty 0 3 := ⟨k0_X3_isFaulty, g_mem 434 (by decide +kernel) (by decide +kernel), g_mem 34 (by decide +kernel) (by decide +kernel), rfl⟩
theorem k0_X3_readInto : LK0 mX3_readInto 1 := ⟨g_mem 450 (by decide +kernel) (by decide +kernel), g_mem 107 (by decide +kernel) (by decide +kernel), by decide +kernel, by decide⟩
theorem ki_X3_readInto : LKI mX3_readInto 1 3 := ⟨k0_X3_readInto, g_mem 449 (by decide +kernel) (by decide +kernel), g_mem 36 (by decide +kernel) (by decide +kernel), rfl⟩
theorem k0_X4_start : LK0 mX4_start 1 := ⟨g_mem 620 (by decide +kernel) (by decide +kernel), g_mem 108 (by decide +kernel) (by decide +kernel), by decide +kernel, by decide⟩
theorem ki_X4_start : LKI mX4_start 1 4 := ⟨k0_X4_start, g_mem 619 (by decide +kernel) (by decide +kernel), g_mem 61 (by decide +kernel) (by decide +kernel), rfl⟩
theorem k0_X4_open : LK0 mX4_open 1 := ⟨g_mem 624 (by decide +kernel) (by decide +kernel), g_mem 108 (by decide +kernel) (by decide +kernel), by decide +kernel, by decide⟩
theorem ki_X4_open : LKI mX4_open 1 4 := ⟨k0_X4_open, g_mem 623 (by decide +kernel) (by decide +kernel), g_mem 62 (by decide +kernel) (by decide +kernel), rfl⟩
theorem k0_X4_offer : LK0 mX4_offer 4 := ⟨g_mem 631 (by decide +kernel) (by decide +kernel), g_mem 108 (by decide +kernel) (by decide +kernel), by decide +kernel, by decide⟩
theorem ki_X4_offer : LKI mX4_offer 4 4 := ⟨k0_X4_offer, g_mem 630 (by decide +kernel) (by decide +kernel), g_mem 63 (by decide +kernel) (by decide +kernel), rfl⟩
theorem k0_X4_bestCost : LK0 mX4_bestCost 0 := ⟨g_mem 635 (by decide +kernel) (by decide +kernel), g_mem 108 (by decide +kernel) (by decide +kernel), by decide +kernel, by decide⟩
theorem ki_X4_bestCost : LKI mX4_bestCost 0 4 := ⟨k0_X4_bestCost, g_mem 634 (by decide +kernel) (by decide +kernel), g_mem 64 (by decide +kernel) (by decide +kernel), rfl⟩
theorem k0_X4_pieceAt : LK0 mX4_pieceAt 1 := ⟨g_mem 643 (by decide +kernel) (by decide +kernel), g_mem 108 (by decide +kernel) (by decide +kernel), by decide +kernel, by decide⟩
theorem ki_X4_pieceAt : LKI mX4_pieceAt 1 4 := ⟨k0_X4_pieceAt, g_mem 642 (by decide +kernel) (by decide +kernel), g_mem 65 (by decide +kernel) (by decide +kernel), rfl⟩
theorem k0_X5_measure : LK0 mX5_measure 2 := ⟨g_mem 486 (by decide +kernel) (by decide +kernel), g_mem 104 (by decide +kernel) (by decide +kernel), by decide +kernel, by decide⟩
theorem ki_X5_measure : LKI mX5_measure 2 5 := ⟨k0_X5_measure, g_mem 485 (by decide +kernel) (by decide +kernel), g_mem 41 (by decide +kernel) (by decide +kernel), rfl⟩
theorem k0_X5_distance : LK0 mX5_distance 2 := ⟨g_mem 493 (by decide +kernel) (by decide +kernel), g_mem 104 (by decide +kernel) (by decide +kernel), by decide +kernel, by decide⟩
theorem ki_X5_distance : LKI mX5_distance 2 5 := ⟨k0_X5_distance, g_mem 492 (by decide +kernel) (by decide +kernel), g_mem 42 (by decide +kernel) (by decide +kernel), rfl⟩
theorem k0_X6_addMember : LK0 mX6_addMember 0 := ⟨g_mem 253 (by decide +kernel) (by decide +kernel), g_mem 101 (by decide +kernel) (by decide +kernel), by decide +kernel, by decide⟩
theorem ki_X6_addMember : LKI mX6_addMember 0 6 := ⟨k0_X6_addMember, g_mem 251 (by decide +kernel) (by decide +kernel), g_mem 252 (by decide +kernel) (by decide +kernel), rfl⟩
theorem k0_X6_setPrice : LK0 mX6_setPrice 2 := ⟨g_mem 280 (by decide +kernel) (by decide +kernel), g_mem 101 (by decide +kernel) (by decide +kernel), by decide +kernel, by decide⟩
theorem ki_X6_setPrice : LKI mX6_setPrice 2 6 := ⟨k0_X6_setPrice, g_mem 278 (by decide +kernel) (by decide +kernel), g_mem 279 (by decide +kernel) (by decide +kernel), rfl⟩
theorem k0_X6_set : LK0 mX6_set 2 := ⟨g_mem 299 (by decide +kernel) (by decide +kernel), g_mem 101 (by decide +kernel) (by decide +kernel), by decide +kernel, by decide⟩
theorem ki_X6_set : LKI mX6_set 2 6 := ⟨k0_X6_set, g_mem 297 (by decide +kernel) (by decide +kernel), g_mem 298 (by decide +kernel) (by decide +kernel), rfl⟩
theorem k0_X6_count : LK0 mX6_count 1 := ⟨g_mem 315 (by decide +kernel) (by decide +kernel), g_mem 101 (by decide +kernel) (by decide +kernel), by decide +kernel, by decide⟩
theorem ki_X6_count : LKI mX6_count 1 6 := ⟨k0_X6_count, g_mem 313 (by decide +kernel) (by decide +kernel), g_mem 314 (by decide +kernel) (by decide +kernel), rfl⟩
theorem k0_X6_member : LK0 mX6_member 2 := ⟨g_mem 398 (by decide +kernel) (by decide +kernel), g_mem 101 (by decide +kernel) (by decide +kernel), by decide +kernel, by decide⟩
theorem ki_X6_member : LKI mX6_member 2 6 := ⟨k0_X6_member, g_mem 396 (by decide +kernel) (by decide +kernel), g_mem 397 (by decide +kernel) (by decide +kernel), rfl⟩
theorem k0_X6_addPhrase : LK0 mX6_addPhrase 3 := ⟨g_mem 426 (by decide +kernel) (by decide +kernel), g_mem 101 (by decide +kernel) (by decide +kernel), by decide +kernel, by decide⟩
theorem ki_X6_addPhrase : LKI mX6_addPhrase 3 6 := ⟨k0_X6_addPhrase, g_mem 424 (by decide +kernel) (by decide +kernel), g_mem 425 (by decide +kernel) (by decide +kernel), rfl⟩
theorem k0_X6_phrase : LK0 mX6_phrase 2 := ⟨g_mem 460 (by decide +kernel) (by decide +kernel), g_mem 101 (by decide +kernel) (by decide +kernel), by decide +kernel, by decide⟩
theorem ki_X6_phrase : LKI mX6_phrase 2 6 := ⟨k0_X6_phrase, g_mem 458 (by decide +kernel) (by decide +kernel), g_mem 459 (by decide +kernel) (by decide +kernel), rfl⟩
theorem k0_X6_word : LK0 mX6_word 2 := ⟨g_mem 468 (by decide +kernel) (by decide +kernel), g_mem 101 (by decide +kernel) (by decide +kernel), by decide +kernel, by decide⟩
theorem ki_X6_word : LKI mX6_word 2 6 := ⟨k0_X6_word, g_mem 466 (by decide +kernel) (by decide +kernel), g_mem 467 (by decide +kernel) (by decide +kernel), rfl⟩
theorem k0_X6_score : LK0 mX6_score 2 := ⟨g_mem 474 (by decide +kernel) (by decide +kernel), g_mem 101 (by decide +kernel) (by decide +kernel), by decide +kernel, by decide⟩
theorem ki_X6_score : LKI mX6_score 2 6 := ⟨k0_X6_score, g_mem 472 (by decide +kernel) (by decide +kernel), g_mem 473 (by decide +kernel) (by decide +kernel), rfl⟩
theorem k0_X6_agreed : LK0 mX6_agreed 0 := ⟨g_mem 498 (by decide +kernel) (by decide +kernel), g_mem 101 (by decide +kernel) (by decide +kernel), by decide +kernel, by decide⟩
theorem ki_X6_agreed : LKI mX6_agreed 0 6 := ⟨k0_X6_agreed, g_mem 496 (by decide +kernel) (by decide +kernel), g_mem 497 (by decide +kernel) (by decide +kernel), rfl⟩
theorem k0_X6_match : LK0 mX6_match 0 := ⟨g_mem 512 (by decide +kernel) (by decide +kernel), g_mem 101 (by decide +kernel) (by decide +kernel), by decide +kernel, by decide⟩
theorem ki_X6_match : LKI mX6_match 0 6 := ⟨k0_X6_match, g_mem 510 (by decide +kernel) (by decide +kernel), g_mem 511 (by decide +kernel) (by decide +kernel), rfl⟩
theorem k0_X6_alike : LK0 mX6_alike 1 := ⟨g_mem 525 (by decide +kernel) (by decide +kernel), g_mem 101 (by decide +kernel) (by decide +kernel), by decide +kernel, by decide⟩
theorem ki_X6_alike : LKI mX6_alike 1 6 := ⟨k0_X6_alike, g_mem 523 (by decide +kernel) (by decide +kernel), g_mem 524 (by decide +kernel) (by decide +kernel), rfl⟩
theorem k0_X6_fee : LK0 mX6_fee 1 := ⟨g_mem 529 (by decide +kernel) (by decide +kernel), g_mem 101 (by decide +kernel) (by decide +kernel), by decide +kernel, by decide⟩
theorem ki_X6_fee : LKI mX6_fee 1 6 := ⟨k0_X6_fee, g_mem 527 (by decide +kernel) (by decide +kernel), g_mem 528 (by decide +kernel) (by decide +kernel), rfl⟩
theorem k0_X6_use : LK0 mX6_use 1 := ⟨g_mem 538 (by decide +kernel) (by decide +kernel), g_mem 101 (by decide +kernel) (by decide +kernel), by decide +kernel, by decide⟩
theorem ki_X6_use : LKI mX6_use 1 6 := ⟨k0_X6_use, g_mem 536 (by decide +kernel) (by decide +kernel), g_mem 537 (by decide +kernel) (by decide +kernel), rfl⟩
theorem k0_X6_note : LK0 mX6_note 2 := ⟨g_mem 561 (by decide +kernel) (by decide +kernel), g_mem 101 (by decide +kernel) (by decide +kernel), by decide +kernel, by decide⟩
theorem ki_X6_note : LKI mX6_note 2 6 := ⟨k0_X6_note, g_mem 559 (by decide +kernel) (by decide +kernel), g_mem 560 (by decide +kernel) (by decide +kernel), rfl⟩
theorem k0_X6_retract : LK0 mX6_retract 1 := ⟨g_mem 570 (by decide +kernel) (by decide +kernel), g_mem 101 (by decide +kernel) (by decide +kernel), by decide +kernel, by decide⟩
theorem ki_X6_retract : LKI mX6_retract 1 6 := ⟨k0_X6_retract, g_mem 568 (by decide +kernel) (by decide +kernel), g_mem 569 (by decide +kernel) (by decide +kernel), rfl⟩
theorem k0_X6_wouldPayBack : LK0 mX6_wouldPayBack 1 := ⟨g_mem 595 (by decide +kernel) (by decide +kernel), g_mem 101 (by decide +kernel) (by decide +kernel), by decide +kernel, by decide⟩
theorem ki_X6_wouldPayBack : LKI mX6_wouldPayBack 1 6 := ⟨k0_X6_wouldPayBack, g_mem 593 (by decide +kernel) (by decide +kernel), g_mem 594 (by decide +kernel) (by decide +kernel), rfl⟩
theorem k0_X6_pass : LK0 mX6_pass 1 := ⟨g_mem 603 (by decide +kernel) (by decide +kernel), g_mem 101 (by decide +kernel) (by decide +kernel), by decide +kernel, by decide⟩
theorem ki_X6_pass : LKI mX6_pass 1 6 := ⟨k0_X6_pass, g_mem 601 (by decide +kernel) (by decide +kernel), g_mem 602 (by decide +kernel) (by decide +kernel), rfl⟩
theorem k0_X6_cheapest : LK0 mX6_cheapest 1 := ⟨g_mem 612 (by decide +kernel) (by decide +kernel), g_mem 101 (by decide +kernel) (by decide +kernel), by decide +kernel, by decide⟩
theorem ki_X6_cheapest : LKI mX6_cheapest 1 6 := ⟨k0_X6_cheapest, g_mem 610 (by decide +kernel) (by decide +kernel), g_mem 611 (by decide +kernel) (by decide +kernel), rfl⟩
theorem k0_X6_piece : LK0 mX6_piece 2 := ⟨g_mem 639 (by decide +kernel) (by decide +kernel), g_mem 101 (by decide +kernel) (by decide +kernel), by decide +kernel, by decide⟩
theorem ki_X6_piece : LKI mX6_piece 2 6 := ⟨k0_X6_piece, g_mem 637 (by decide +kernel) (by decide +kernel), g_mem 638 (by decide +kernel) (by decide +kernel), rfl⟩
theorem k0_X6_type : LK0 mX6_type 1 := ⟨g_mem 647 (by decide +kernel) (by decide +kernel), g_mem 101 (by decide +kernel) (by decide +kernel), by decide +kernel, by decide⟩
theorem ki_X6_type : LKI mX6_type 1 6 := ⟨k0_X6_type, g_mem 645 (by decide +kernel) (by decide +kernel), g_mem 646 (by decide +kernel) (by decide +kernel), rfl⟩
theorem k0_X6_clearText : LK0 mX6_clearText 0 := ⟨g_mem 655 (by decide +kernel) (by decide +kernel), g_mem 101 (by decide +kernel) (by decide +kernel), by decide +kernel, by decide⟩
theorem ki_X6_clearText : LKI mX6_clearText 0 6 := ⟨k0_X6_clearText, g_mem 653 (by decide +kernel) (by decide +kernel), g_mem 654 (by decide +kernel) (by decide +kernel), rfl⟩
theorem k0_X6_textFault : LK0 mX6_textFault 0 := ⟨g_mem 663 (by decide +kernel) (by decide +kernel), g_mem 101 (by decide +kernel) (by decide +kernel), by decide +kernel, by decide⟩
theorem ki_X6_textFault : LKI mX6_textFault 0 6 := ⟨k0_X6_textFault, g_mem 661 (by decide +kernel) (by decide +kernel), g_mem 662 (by decide +kernel) (by decide +kernel), rfl⟩
theorem k0_X6_undo : LK0 mX6_undo 0 := ⟨g_mem 668 (by decide +kernel) (by decide +kernel), g_mem 101 (by decide +kernel) (by decide +kernel), by decide +kernel, by decide⟩
theorem ki_X6_undo : LKI mX6_undo 0 6 := ⟨k0_X6_undo, g_mem 666 (by decide +kernel) (by decide +kernel), g_mem 667 (by decide +kernel) (by decide +kernel), rfl⟩
theorem k0_X6_digest : LK0 mX6_digest 0 := ⟨g_mem 680 (by decide +kernel) (by decide +kernel), g_mem 101 (by decide +kernel) (by decide +kernel), by decide +kernel, by decide⟩
theorem ki_X6_digest : LKI mX6_digest 0 6 := ⟨k0_X6_digest, g_mem 678 (by decide +kernel) (by decide +kernel), g_mem 679 (by decide +kernel) (by decide +kernel), rfl⟩
theorem k0_X6_hashPhrase : LK0 mX6_hashPhrase 2 := ⟨g_mem 686 (by decide +kernel) (by decide +kernel), g_mem 101 (by decide +kernel) (by decide +kernel), by decide +kernel, by decide⟩
theorem ki_X6_hashPhrase : LKI mX6_hashPhrase 2 6 := ⟨k0_X6_hashPhrase, g_mem 685 (by decide +kernel) (by decide +kernel), g_mem 70 (by decide +kernel) (by decide +kernel), rfl⟩
theorem k0_X6_findMatch : LK0 mX6_findMatch 0 := ⟨g_mem 516 (by decide +kernel) (by decide +kernel), g_mem 101 (by decide +kernel) (by decide +kernel), by decide +kernel, by decide⟩
theorem ki_X6_findMatch : LKI mX6_findMatch 0 6 := ⟨k0_X6_findMatch, g_mem 515 (by decide +kernel) (by decide +kernel), g_mem 45 (by decide +kernel) (by decide +kernel), rfl⟩
theorem k0_X6_findWays : LK0 mX6_findWays 1 := ⟨g_mem 616 (by decide +kernel) (by decide +kernel), g_mem 101 (by decide +kernel) (by decide +kernel), by decide +kernel, by decide⟩
theorem ki_X6_findWays : LKI mX6_findWays 1 6 := ⟨k0_X6_findWays, g_mem 615 (by decide +kernel) (by decide +kernel), g_mem 60 (by decide +kernel) (by decide +kernel), rfl⟩
theorem k0_X7_in : LK0 mX7_in 3 := ⟨g_mem 759 (by decide +kernel) (by decide +kernel), g_mem 109 (by decide +kernel) (by decide +kernel), by decide +kernel, by decide⟩
theorem k0_X7_copies : LK0 mX7_copies 2 := ⟨g_mem 748 (by decide +kernel) (by decide +kernel), g_mem 109 (by decide +kernel) (by decide +kernel), by decide +kernel, by decide⟩
theorem ki_X7_copies : LKI mX7_copies 2 7 := ⟨k0_X7_copies, g_mem 747 (by decide +kernel) (by decide +kernel), g_mem 72 (by decide +kernel) (by decide +kernel), rfl⟩
theorem k0_X7_records : LK0 mX7_records 0 := ⟨g_mem 744 (by decide +kernel) (by decide +kernel), g_mem 109 (by decide +kernel) (by decide +kernel), by decide +kernel, by decide⟩
theorem ki_X7_records : LKI mX7_records 0 7 := ⟨k0_X7_records, g_mem 743 (by decide +kernel) (by decide +kernel), g_mem 71 (by decide +kernel) (by decide +kernel), rfl⟩
theorem k0_X7_isMember : LK0 mX7_isMember 1 := ⟨g_mem 756 (by decide +kernel) (by decide +kernel), g_mem 109 (by decide +kernel) (by decide +kernel), by decide +kernel, by decide⟩
theorem ki_X7_isMember : LKI mX7_isMember 1 7 := ⟨k0_X7_isMember, g_mem 755 (by decide +kernel) (by decide +kernel), g_mem 73 (by decide +kernel) (by decide +kernel), rfl⟩
theorem k0_X7_isPhrase : LK0 mX7_isPhrase 1 := ⟨g_mem 841 (by decide +kernel) (by decide +kernel), g_mem 109 (by decide +kernel) (by decide +kernel), by decide +kernel, by decide⟩
theorem ki_X7_isPhrase : LKI mX7_isPhrase 1 7 := ⟨k0_X7_isPhrase, g_mem 840 (by decide +kernel) (by decide +kernel), g_mem 88 (by decide +kernel) (by decide +kernel), rfl⟩
theorem k0_X7_of : LK0 mX7_of 2 := ⟨g_mem 785 (by decide +kernel) (by decide +kernel), g_mem 109 (by decide +kernel) (by decide +kernel), by decide +kernel, by decide⟩
theorem ki_X7_of : LKI mX7_of 2 7 := ⟨k0_X7_of, g_mem 784 (by decide +kernel) (by decide +kernel), g_mem 77 (by decide +kernel) (by decide +kernel), rfl⟩
theorem k0_X7_ofNote : LK0 mX7_ofNote 2 := ⟨g_mem 793 (by decide +kernel) (by decide +kernel), g_mem 109 (by decide +kernel) (by decide +kernel), by decide +kernel, by decide⟩
theorem ki_X7_ofNote : LKI mX7_ofNote 2 7 := ⟨k0_X7_ofNote, g_mem 792 (by decide +kernel) (by decide +kernel), g_mem 79 (by decide +kernel) (by decide +kernel), rfl⟩
theorem k0_X7_price : LK0 mX7_price 1 := ⟨g_mem 765 (by decide +kernel) (by decide +kernel), g_mem 109 (by decide +kernel) (by decide +kernel), by decide +kernel, by decide⟩
theorem ki_X7_price : LKI mX7_price 1 7 := ⟨k0_X7_price, g_mem 764 (by decide +kernel) (by decide +kernel), g_mem 74 (by decide +kernel) (by decide +kernel), rfl⟩
theorem k0_X7_pays : LK0 mX7_pays 2 := ⟨g_mem 902 (by decide +kernel) (by decide +kernel), g_mem 109 (by decide +kernel) (by decide +kernel), by decide +kernel, by decide⟩
theorem ki_X7_pays : LKI mX7_pays 2 7 := ⟨k0_X7_pays, g_mem 901 (by decide +kernel) (by decide +kernel), g_mem 94 (by decide +kernel) (by decide +kernel), rfl⟩
theorem k0_X7_setsOne : LK0 mX7_setsOne 1 := ⟨g_mem 813 (by decide +kernel) (by decide +kernel), g_mem 109 (by decide +kernel) (by decide +kernel), by decide +kernel, by decide⟩
theorem ki_X7_setsOne : LKI mX7_setsOne 1 7 := ⟨k0_X7_setsOne, g_mem 812 (by decide +kernel) (by decide +kernel), g_mem 84 (by decide +kernel) (by decide +kernel), rfl⟩
theorem k0_X7_setsOther : LK0 mX7_setsOther 1 := ⟨g_mem 817 (by decide +kernel) (by decide +kernel), g_mem 109 (by decide +kernel) (by decide +kernel), by decide +kernel, by decide⟩
theorem ki_X7_setsOther : LKI mX7_setsOther 1 7 := ⟨k0_X7_setsOther, g_mem 816 (by decide +kernel) (by decide +kernel), g_mem 85 (by decide +kernel) (by decide +kernel), rfl⟩
theorem k0_X7_setsText : LK0 mX7_setsText 0 := ⟨g_mem 850 (by decide +kernel) (by decide +kernel), g_mem 109 (by decide +kernel) (by decide +kernel), by decide +kernel, by decide⟩
theorem ki_X7_setsText : LKI mX7_setsText 0 7 := ⟨k0_X7_setsText, g_mem 849 (by decide +kernel) (by decide +kernel), g_mem 89 (by decide +kernel) (by decide +kernel), rfl⟩
theorem k0_X7_least : LK0 mX7_least 2 := ⟨g_mem 824 (by decide +kernel) (by decide +kernel), g_mem 109 (by decide +kernel) (by decide +kernel), by decide +kernel, by decide⟩
theorem k0_X7_scoreNow : LK0 mX7_scoreNow 0 := ⟨g_mem 821 (by decide +kernel) (by decide +kernel), g_mem 109 (by decide +kernel) (by decide +kernel), by decide +kernel, by decide⟩
theorem ki_X7_scoreNow : LKI mX7_scoreNow 0 7 := ⟨k0_X7_scoreNow, g_mem 820 (by decide +kernel) (by decide +kernel), g_mem 86 (by decide +kernel) (by decide +kernel), rfl⟩
theorem k0_X7_scoreOf : LK0 mX7_scoreOf 2 := ⟨g_mem 809 (by decide +kernel) (by decide +kernel), g_mem 109 (by decide +kernel) (by decide +kernel), by decide +kernel, by decide⟩
theorem ki_X7_scoreOf : LKI mX7_scoreOf 2 7 := ⟨k0_X7_scoreOf, g_mem 808 (by decide +kernel) (by decide +kernel), g_mem 83 (by decide +kernel) (by decide +kernel), rfl⟩
theorem k0_X7_textScore : LK0 mX7_textScore 1 := ⟨g_mem 874 (by decide +kernel) (by decide +kernel), g_mem 109 (by decide +kernel) (by decide +kernel), by decide +kernel, by decide⟩
theorem ki_X7_textScore : LKI mX7_textScore 1 7 := ⟨k0_X7_textScore, g_mem 873 (by decide +kernel) (by decide +kernel), g_mem 91 (by decide +kernel) (by decide +kernel), rfl⟩
theorem k0_X7_addMember : LK0 mX7_addMember 0 := ⟨g_mem 739 (by decide +kernel) (by decide +kernel), g_mem 109 (by decide +kernel) (by decide +kernel), by decide +kernel, by decide⟩
theorem ki_X7_addMember : LKI mX7_addMember 0 7 := ⟨k0_X7_addMember, g_mem 737 (by decide +kernel) (by decide +kernel), g_mem 738 (by decide +kernel) (by decide +kernel), rfl⟩
theorem k0_X7_setPrice : LK0 mX7_setPrice 2 := ⟨g_mem 752 (by decide +kernel) (by decide +kernel), g_mem 109 (by decide +kernel) (by decide +kernel), by decide +kernel, by decide⟩
theorem ki_X7_setPrice : LKI mX7_setPrice 2 7 := ⟨k0_X7_setPrice, g_mem 750 (by decide +kernel) (by decide +kernel), g_mem 751 (by decide +kernel) (by decide +kernel), rfl⟩
theorem k0_X7_set : LK0 mX7_set 2 := ⟨g_mem 769 (by decide +kernel) (by decide +kernel), g_mem 109 (by decide +kernel) (by decide +kernel), by decide +kernel, by decide⟩
theorem ki_X7_set : LKI mX7_set 2 7 := ⟨k0_X7_set, g_mem 767 (by decide +kernel) (by decide +kernel), g_mem 768 (by decide +kernel) (by decide +kernel), rfl⟩
theorem k0_X7_areInConflict : LK0 mX7_areInConflict 2 := ⟨g_mem 805 (by decide +kernel) (by decide +kernel), g_mem 109 (by decide +kernel) (by decide +kernel), by decide +kernel, by decide⟩
theorem ki_X7_areInConflict : LKI mX7_areInConflict 2 7 := ⟨k0_X7_areInConflict, g_mem 804 (by decide +kernel) (by decide +kernel), g_mem 82 (by decide +kernel) (by decide +kernel), rfl⟩
theorem k0_X7_conflicts : LK0 mX7_conflicts 1 := ⟨g_mem 801 (by decide +kernel) (by decide +kernel), g_mem 109 (by decide +kernel) (by decide +kernel), by decide +kernel, by decide⟩
theorem ki_X7_conflicts : LKI mX7_conflicts 1 7 := ⟨k0_X7_conflicts, g_mem 800 (by decide +kernel) (by decide +kernel), g_mem 81 (by decide +kernel) (by decide +kernel), rfl⟩
theorem k0_X7_live : LK0 mX7_live 0 := ⟨g_mem 781 (by decide +kernel) (by decide +kernel), g_mem 109 (by decide +kernel) (by decide +kernel), by decide +kernel, by decide⟩
theorem ki_X7_live : LKI mX7_live 0 7 := ⟨k0_X7_live, g_mem 780 (by decide +kernel) (by decide +kernel), g_mem 76 (by decide +kernel) (by decide +kernel), rfl⟩
theorem k0_X7_paidBack : LK0 mX7_paidBack 0 := ⟨g_mem 789 (by decide +kernel) (by decide +kernel), g_mem 109 (by decide +kernel) (by decide +kernel), by decide +kernel, by decide⟩
theorem ki_X7_paidBack : LKI mX7_paidBack 0 7 := ⟨k0_X7_paidBack, g_mem 788 (by decide +kernel) (by decide +kernel), g_mem 78 (by decide +kernel) (by decide +kernel), rfl⟩
theorem k0_X7_allConflicts : LK0 mX7_allConflicts 0 := ⟨g_mem 797 (by decide +kernel) (by decide +kernel), g_mem 109 (by decide +kernel) (by decide +kernel), by decide +kernel, by decide⟩
theorem ki_X7_allConflicts : LKI mX7_allConflicts 0 7 := ⟨k0_X7_allConflicts, g_mem 796 (by decide +kernel) (by decide +kernel), g_mem 80 (by decide +kernel) (by decide +kernel), rfl⟩
theorem k0_X7_counted : LK0 mX7_counted 1 := ⟨g_mem 777 (by decide +kernel) (by decide +kernel), g_mem 109 (by decide +kernel) (by decide +kernel), by decide +kernel, by decide⟩
theorem ki_X7_counted : LKI mX7_counted 1 7 := ⟨k0_X7_counted, g_mem 776 (by decide +kernel) (by decide +kernel), g_mem 75 (by decide +kernel) (by decide +kernel), rfl⟩
theorem k0_X7_count : LK0 mX7_count 1 := ⟨g_mem 773 (by decide +kernel) (by decide +kernel), g_mem 109 (by decide +kernel) (by decide +kernel), by decide +kernel, by decide⟩
theorem ki_X7_count : LKI mX7_count 1 7 := ⟨k0_X7_count, g_mem 771 (by decide +kernel) (by decide +kernel), g_mem 772 (by decide +kernel) (by decide +kernel), rfl⟩
theorem k0_X7_memberNow : LK0 mX7_memberNow 2 := ⟨g_mem 832 (by decide +kernel) (by decide +kernel), g_mem 109 (by decide +kernel) (by decide +kernel), by decide +kernel, by decide⟩
theorem ki_X7_memberNow : LKI mX7_memberNow 2 7 := ⟨k0_X7_memberNow, g_mem 831 (by decide +kernel) (by decide +kernel), g_mem 87 (by decide +kernel) (by decide +kernel), rfl⟩
theorem k0_X7_member : LK0 mX7_member 2 := ⟨g_mem 828 (by decide +kernel) (by decide +kernel), g_mem 109 (by decide +kernel) (by decide +kernel), by decide +kernel, by decide⟩
theorem ki_X7_member : LKI mX7_member 2 7 := ⟨k0_X7_member, g_mem 826 (by decide +kernel) (by decide +kernel), g_mem 827 (by decide +kernel) (by decide +kernel), rfl⟩
theorem k0_X7_addPhrase : LK0 mX7_addPhrase 3 := ⟨g_mem 836 (by decide +kernel) (by decide +kernel), g_mem 109 (by decide +kernel) (by decide +kernel), by decide +kernel, by decide⟩
theorem ki_X7_addPhrase : LKI mX7_addPhrase 3 7 := ⟨k0_X7_addPhrase, g_mem 834 (by decide +kernel) (by decide +kernel), g_mem 835 (by decide +kernel) (by decide +kernel), rfl⟩
theorem k0_X7_phrase : LK0 mX7_phrase 2 := ⟨g_mem 854 (by decide +kernel) (by decide +kernel), g_mem 109 (by decide +kernel) (by decide +kernel), by decide +kernel, by decide⟩
theorem ki_X7_phrase : LKI mX7_phrase 2 7 := ⟨k0_X7_phrase, g_mem 852 (by decide +kernel) (by decide +kernel), g_mem 853 (by decide +kernel) (by decide +kernel), rfl⟩
theorem k0_X7_word : LK0 mX7_word 2 := ⟨g_mem 858 (by decide +kernel) (by decide +kernel), g_mem 109 (by decide +kernel) (by decide +kernel), by decide +kernel, by decide⟩
theorem ki_X7_word : LKI mX7_word 2 7 := ⟨k0_X7_word, g_mem 856 (by decide +kernel) (by decide +kernel), g_mem 857 (by decide +kernel) (by decide +kernel), rfl⟩
theorem k0_X7_score : LK0 mX7_score 2 := ⟨g_mem 862 (by decide +kernel) (by decide +kernel), g_mem 109 (by decide +kernel) (by decide +kernel), by decide +kernel, by decide⟩
theorem ki_X7_score : LKI mX7_score 2 7 := ⟨k0_X7_score, g_mem 860 (by decide +kernel) (by decide +kernel), g_mem 861 (by decide +kernel) (by decide +kernel), rfl⟩
theorem k0_X7_gives : LK0 mX7_gives 2 := ⟨g_mem 870 (by decide +kernel) (by decide +kernel), g_mem 109 (by decide +kernel) (by decide +kernel), by decide +kernel, by decide⟩
theorem ki_X7_gives : LKI mX7_gives 2 7 := ⟨k0_X7_gives, g_mem 869 (by decide +kernel) (by decide +kernel), g_mem 90 (by decide +kernel) (by decide +kernel), rfl⟩
theorem k0_X7_agreed : LK0 mX7_agreed 0 := ⟨g_mem 866 (by decide +kernel) (by decide +kernel), g_mem 109 (by decide +kernel) (by decide +kernel), by decide +kernel, by decide⟩
theorem ki_X7_agreed : LKI mX7_agreed 0 7 := ⟨k0_X7_agreed, g_mem 864 (by decide +kernel) (by decide +kernel), g_mem 865 (by decide +kernel) (by decide +kernel), rfl⟩
theorem k0_X7_found : LK0 mX7_found 0 := ⟨g_mem 882 (by decide +kernel) (by decide +kernel), g_mem 109 (by decide +kernel) (by decide +kernel), by decide +kernel, by decide⟩
theorem ki_X7_found : LKI mX7_found 0 7 := ⟨k0_X7_found, g_mem 881 (by decide +kernel) (by decide +kernel), g_mem 92 (by decide +kernel) (by decide +kernel), rfl⟩
theorem k0_X7_match : LK0 mX7_match 0 := ⟨g_mem 878 (by decide +kernel) (by decide +kernel), g_mem 109 (by decide +kernel) (by decide +kernel), by decide +kernel, by decide⟩
theorem ki_X7_match : LKI mX7_match 0 7 := ⟨k0_X7_match, g_mem 876 (by decide +kernel) (by decide +kernel), g_mem 877 (by decide +kernel) (by decide +kernel), rfl⟩
theorem k0_X7_alike : LK0 mX7_alike 1 := ⟨g_mem 886 (by decide +kernel) (by decide +kernel), g_mem 109 (by decide +kernel) (by decide +kernel), by decide +kernel, by decide⟩
theorem ki_X7_alike : LKI mX7_alike 1 7 := ⟨k0_X7_alike, g_mem 884 (by decide +kernel) (by decide +kernel), g_mem 885 (by decide +kernel) (by decide +kernel), rfl⟩
theorem k0_X7_feeOf : LK0 mX7_feeOf 3 := ⟨g_mem 894 (by decide +kernel) (by decide +kernel), g_mem 109 (by decide +kernel) (by decide +kernel), by decide +kernel, by decide⟩
theorem ki_X7_feeOf : LKI mX7_feeOf 3 7 := ⟨k0_X7_feeOf, g_mem 893 (by decide +kernel) (by decide +kernel), g_mem 93 (by decide +kernel) (by decide +kernel), rfl⟩
theorem k0_X7_fee : LK0 mX7_fee 1 := ⟨g_mem 890 (by decide +kernel) (by decide +kernel), g_mem 109 (by decide +kernel) (by decide +kernel), by decide +kernel, by decide⟩
theorem ki_X7_fee : LKI mX7_fee 1 7 := ⟨k0_X7_fee, g_mem 888 (by decide +kernel) (by decide +kernel), g_mem 889 (by decide +kernel) (by decide +kernel), rfl⟩
theorem k0_X7_use : LK0 mX7_use 1 := ⟨g_mem 898 (by decide +kernel) (by decide +kernel), g_mem 109 (by decide +kernel) (by decide +kernel), by decide +kernel, by decide⟩
theorem ki_X7_use : LKI mX7_use 1 7 := ⟨k0_X7_use, g_mem 896 (by decide +kernel) (by decide +kernel), g_mem 897 (by decide +kernel) (by decide +kernel), rfl⟩
theorem k0_X7_note : LK0 mX7_note 2 := ⟨g_mem 906 (by decide +kernel) (by decide +kernel), g_mem 109 (by decide +kernel) (by decide +kernel), by decide +kernel, by decide⟩
theorem ki_X7_note : LKI mX7_note 2 7 := ⟨k0_X7_note, g_mem 904 (by decide +kernel) (by decide +kernel), g_mem 905 (by decide +kernel) (by decide +kernel), rfl⟩
theorem k0_X7_ends : LK0 mX7_ends 1 := ⟨g_mem 914 (by decide +kernel) (by decide +kernel), g_mem 109 (by decide +kernel) (by decide +kernel), by decide +kernel, by decide⟩
theorem ki_X7_ends : LKI mX7_ends 1 7 := ⟨k0_X7_ends, g_mem 913 (by decide +kernel) (by decide +kernel), g_mem 95 (by decide +kernel) (by decide +kernel), rfl⟩
theorem k0_X7_goesBack : LK0 mX7_goesBack 1 := ⟨g_mem 918 (by decide +kernel) (by decide +kernel), g_mem 109 (by decide +kernel) (by decide +kernel), by decide +kernel, by decide⟩
theorem ki_X7_goesBack : LKI mX7_goesBack 1 7 := ⟨k0_X7_goesBack, g_mem 917 (by decide +kernel) (by decide +kernel), g_mem 96 (by decide +kernel) (by decide +kernel), rfl⟩
theorem k0_X7_retract : LK0 mX7_retract 1 := ⟨g_mem 910 (by decide +kernel) (by decide +kernel), g_mem 109 (by decide +kernel) (by decide +kernel), by decide +kernel, by decide⟩
theorem ki_X7_retract : LKI mX7_retract 1 7 := ⟨k0_X7_retract, g_mem 908 (by decide +kernel) (by decide +kernel), g_mem 909 (by decide +kernel) (by decide +kernel), rfl⟩
theorem k0_X7_wouldPayBack : LK0 mX7_wouldPayBack 1 := ⟨g_mem 922 (by decide +kernel) (by decide +kernel), g_mem 109 (by decide +kernel) (by decide +kernel), by decide +kernel, by decide⟩
theorem ki_X7_wouldPayBack : LKI mX7_wouldPayBack 1 7 := ⟨k0_X7_wouldPayBack, g_mem 920 (by decide +kernel) (by decide +kernel), g_mem 921 (by decide +kernel) (by decide +kernel), rfl⟩
theorem k0_X7_pass : LK0 mX7_pass 1 := ⟨g_mem 926 (by decide +kernel) (by decide +kernel), g_mem 109 (by decide +kernel) (by decide +kernel), by decide +kernel, by decide⟩
theorem ki_X7_pass : LKI mX7_pass 1 7 := ⟨k0_X7_pass, g_mem 924 (by decide +kernel) (by decide +kernel), g_mem 925 (by decide +kernel) (by decide +kernel), rfl⟩
theorem k0_X7_standsAt : LK0 mX7_standsAt 2 := ⟨g_mem 938 (by decide +kernel) (by decide +kernel), g_mem 109 (by decide +kernel) (by decide +kernel), by decide +kernel, by decide⟩
theorem ki_X7_standsAt : LKI mX7_standsAt 2 7 := ⟨k0_X7_standsAt, g_mem 937 (by decide +kernel) (by decide +kernel), g_mem 98 (by decide +kernel) (by decide +kernel), rfl⟩
theorem k0_X7_composes : LK0 mX7_composes 1 := ⟨g_mem 934 (by decide +kernel) (by decide +kernel), g_mem 109 (by decide +kernel) (by decide +kernel), by decide +kernel, by decide⟩
theorem ki_X7_composes : LKI mX7_composes 1 7 := ⟨k0_X7_composes, g_mem 933 (by decide +kernel) (by decide +kernel), g_mem 97 (by decide +kernel) (by decide +kernel), rfl⟩
theorem k0_X7_cheapest : LK0 mX7_cheapest 1 := ⟨g_mem 930 (by decide +kernel) (by decide +kernel), g_mem 109 (by decide +kernel) (by decide +kernel), by decide +kernel, by decide⟩
theorem ki_X7_cheapest : LKI mX7_cheapest 1 7 := ⟨k0_X7_cheapest, g_mem 928 (by decide +kernel) (by decide +kernel), g_mem 929 (by decide +kernel) (by decide +kernel), rfl⟩
theorem k0_X7_piece : LK0 mX7_piece 2 := ⟨g_mem 942 (by decide +kernel) (by decide +kernel), g_mem 109 (by decide +kernel) (by decide +kernel), by decide +kernel, by decide⟩
theorem ki_X7_piece : LKI mX7_piece 2 7 := ⟨k0_X7_piece, g_mem 940 (by decide +kernel) (by decide +kernel), g_mem 941 (by decide +kernel) (by decide +kernel), rfl⟩
theorem k0_X7_type : LK0 mX7_type 1 := ⟨g_mem 946 (by decide +kernel) (by decide +kernel), g_mem 109 (by decide +kernel) (by decide +kernel), by decide +kernel, by decide⟩
theorem ki_X7_type : LKI mX7_type 1 7 := ⟨k0_X7_type, g_mem 944 (by decide +kernel) (by decide +kernel), g_mem 945 (by decide +kernel) (by decide +kernel), rfl⟩
theorem k0_X7_clearText : LK0 mX7_clearText 0 := ⟨g_mem 950 (by decide +kernel) (by decide +kernel), g_mem 109 (by decide +kernel) (by decide +kernel), by decide +kernel, by decide⟩
theorem ki_X7_clearText : LKI mX7_clearText 0 7 := ⟨k0_X7_clearText, g_mem 948 (by decide +kernel) (by decide +kernel), g_mem 949 (by decide +kernel) (by decide +kernel), rfl⟩
theorem k0_X7_textFault : LK0 mX7_textFault 0 := ⟨g_mem 845 (by decide +kernel) (by decide +kernel), g_mem 109 (by decide +kernel) (by decide +kernel), by decide +kernel, by decide⟩
theorem ki_X7_textFault : LKI mX7_textFault 0 7 := ⟨k0_X7_textFault, g_mem 843 (by decide +kernel) (by decide +kernel), g_mem 844 (by decide +kernel) (by decide +kernel), rfl⟩
theorem k0_X7_undo : LK0 mX7_undo 0 := ⟨g_mem 955 (by decide +kernel) (by decide +kernel), g_mem 109 (by decide +kernel) (by decide +kernel), by decide +kernel, by decide⟩
theorem ki_X7_undo : LKI mX7_undo 0 7 := ⟨k0_X7_undo, g_mem 953 (by decide +kernel) (by decide +kernel), g_mem 954 (by decide +kernel) (by decide +kernel), rfl⟩
theorem k0_X7_adds : LK0 mX7_adds 1 := ⟨g_mem 964 (by decide +kernel) (by decide +kernel), g_mem 109 (by decide +kernel) (by decide +kernel), by decide +kernel, by decide⟩
theorem ki_X7_adds : LKI mX7_adds 1 7 := ⟨k0_X7_adds, g_mem 963 (by decide +kernel) (by decide +kernel), g_mem 99 (by decide +kernel) (by decide +kernel), rfl⟩
theorem k0_X7_digest : LK0 mX7_digest 0 := ⟨g_mem 959 (by decide +kernel) (by decide +kernel), g_mem 109 (by decide +kernel) (by decide +kernel), by decide +kernel, by decide⟩
theorem ki_X7_digest : LKI mX7_digest 0 7 := ⟨k0_X7_digest, g_mem 957 (by decide +kernel) (by decide +kernel), g_mem 958 (by decide +kernel) (by decide +kernel), rfl⟩
theorem ac_2_39 : ACp 2 39 := ⟨g_mem 159 (by decide +kernel) (by decide +kernel), g_mem 161 (by decide +kernel) (by decide +kernel), g_mem 160 (by decide +kernel) (by decide +kernel), g_mem 105 (by decide +kernel) (by decide +kernel)⟩
theorem lk_8_13 : LKV 8 13 mX6_addMember 0 6 := ⟨ki_X6_addMember, g_mem 250 (by decide +kernel) (by decide +kernel)⟩
theorem lk_6_44 : LKN 6 44 mX2_members 0 2 := ⟨ki_X2_members, "PhrasePool", n_mem 154 (by decide +kernel) (by decide +kernel) (by decide +kernel)⟩
theorem lk_6_49 : LKN 6 49 mX0_keep 1 0 := ⟨ki_X0_keep, "PhrasePool", n_mem 159 (by decide +kernel) (by decide +kernel) (by decide +kernel)⟩
theorem lk_0_22 : LKN 0 22 mX2_copyTo 1 2 := ⟨ki_X2_copyTo, "PhrasePool", n_mem 163 (by decide +kernel) (by decide +kernel) (by decide +kernel)⟩
theorem lm_0_29 : Lmin 0 29 := ⟨g_mem 267 (by decide +kernel) (by decide +kernel), g_mem 268 (by decide +kernel) (by decide +kernel), g_mem 110 (by decide +kernel) (by decide +kernel), g_mem 269 (by decide +kernel) (by decide +kernel)⟩
theorem lk_6_53 : LKN 6 53 mX2_startMember 0 2 := ⟨ki_X2_startMember, "PhrasePool", n_mem 170 (by decide +kernel) (by decide +kernel) (by decide +kernel)⟩
theorem lk_2_55 : LKS 2 55 mX2_memberCell 2 := ⟨k0_X2_memberCell, g_mem 274 (by decide +kernel) (by decide +kernel), g_mem 275 (by decide +kernel) (by decide +kernel)⟩
theorem lk_8_18 : LKV 8 18 mX6_setPrice 2 6 := ⟨ki_X6_setPrice, g_mem 277 (by decide +kernel) (by decide +kernel)⟩
theorem lk_6_56 : LKN 6 56 mX2_hasMember 1 2 := ⟨ki_X2_hasMember, "PhrasePool", n_mem 181 (by decide +kernel) (by decide +kernel) (by decide +kernel)⟩
theorem lk_2_45 : LKV 2 45 mX2_members 0 2 := ⟨ki_X2_members, g_mem 285 (by decide +kernel) (by decide +kernel)⟩
theorem lk_6_62 : LKN 6 62 mX2_priceOf 1 2 := ⟨ki_X2_priceOf, "PhrasePool", n_mem 188 (by decide +kernel) (by decide +kernel) (by decide +kernel)⟩
theorem lk_6_66 : LKN 6 66 mX2_changePrice 2 2 := ⟨ki_X2_changePrice, "PhrasePool", n_mem 192 (by decide +kernel) (by decide +kernel) (by decide +kernel)⟩
theorem lk_8_23 : LKV 8 23 mX6_set 2 6 := ⟨ki_X6_set, g_mem 296 (by decide +kernel) (by decide +kernel)⟩
theorem lk_6_77 : LKN 6 77 mX2_settingOf 1 2 := ⟨ki_X2_settingOf, "PhrasePool", n_mem 204 (by decide +kernel) (by decide +kernel) (by decide +kernel)⟩
theorem lk_6_80 : LKN 6 80 mX2_changeSetting 2 2 := ⟨ki_X2_changeSetting, "PhrasePool", n_mem 208 (by decide +kernel) (by decide +kernel) (by decide +kernel)⟩
theorem lk_8_27 : LKV 8 27 mX6_count 1 6 := ⟨ki_X6_count, g_mem 312 (by decide +kernel) (by decide +kernel)⟩
theorem lk_6_87 : LKN 6 87 mX2_countOf 1 2 := ⟨ki_X2_countOf, "PhrasePool", n_mem 216 (by decide +kernel) (by decide +kernel) (by decide +kernel)⟩
theorem lk_2_49 : LKV 2 49 mX2_phrases 0 2 := ⟨ki_X2_phrases, g_mem 320 (by decide +kernel) (by decide +kernel)⟩
theorem lk_2_82 : LKV 2 82 mX2_countLive 0 2 := ⟨ki_X2_countLive, g_mem 324 (by decide +kernel) (by decide +kernel)⟩
theorem lk_2_69 : LKV 2 69 mX2_isLive 1 2 := ⟨ki_X2_isLive, g_mem 328 (by decide +kernel) (by decide +kernel)⟩
theorem lk_2_100 : LKS 2 100 mX2_phraseCell 2 := ⟨k0_X2_phraseCell, g_mem 332 (by decide +kernel) (by decide +kernel), g_mem 333 (by decide +kernel) (by decide +kernel)⟩
theorem lk_2_52 : LKV 2 52 mX2_notes 0 2 := ⟨ki_X2_notes, g_mem 335 (by decide +kernel) (by decide +kernel)⟩
theorem lk_2_85 : LKV 2 85 mX2_countPaidBack 0 2 := ⟨ki_X2_countPaidBack, g_mem 339 (by decide +kernel) (by decide +kernel)⟩
theorem lk_2_79 : LKV 2 79 mX2_isPaidBack 1 2 := ⟨ki_X2_isPaidBack, g_mem 343 (by decide +kernel) (by decide +kernel)⟩
theorem lk_2_153 : LKS 2 153 mX2_noteCell 2 := ⟨k0_X2_noteCell, g_mem 347 (by decide +kernel) (by decide +kernel), g_mem 348 (by decide +kernel) (by decide +kernel)⟩
theorem lk_2_88 : LKV 2 88 mX2_tick 0 2 := ⟨ki_X2_tick, g_mem 350 (by decide +kernel) (by decide +kernel)⟩
theorem lk_2_91 : LKV 2 91 mX2_countConflicts 0 2 := ⟨ki_X2_countConflicts, g_mem 354 (by decide +kernel) (by decide +kernel)⟩
theorem lk_2_97 : LKV 2 97 mX2_conflictsOf 1 2 := ⟨ki_X2_conflictsOf, g_mem 358 (by decide +kernel) (by decide +kernel)⟩
theorem lk_2_123 : LKV 2 123 mX2_readInto 2 2 := ⟨ki_X2_readInto, g_mem 362 (by decide +kernel) (by decide +kernel)⟩
theorem lk_2_110 : LKN 2 110 mX1_clear 0 1 := ⟨ki_X1_clear, "PhrasePool", n_mem 266 (by decide +kernel) (by decide +kernel) (by decide +kernel)⟩
theorem lk_2_113 : LKV 2 113 mX2_lengthOf 1 2 := ⟨ki_X2_lengthOf, g_mem 370 (by decide +kernel) (by decide +kernel)⟩
theorem lk_2_116 : LKV 2 116 mX2_wordOf 2 2 := ⟨ki_X2_wordOf, g_mem 374 (by decide +kernel) (by decide +kernel)⟩
theorem lk_2_119 : LKN 2 119 mX1_append 1 1 := ⟨ki_X1_append, "PhrasePool", n_mem 278 (by decide +kernel) (by decide +kernel) (by decide +kernel)⟩
theorem lk_2_135 : LKV 2 135 mX2_isLiveAs 2 2 := ⟨ki_X2_isLiveAs, g_mem 382 (by decide +kernel) (by decide +kernel)⟩
theorem lk_2_142 : LKV 2 142 mX2_standsAt 3 2 := ⟨ki_X2_standsAt, g_mem 386 (by decide +kernel) (by decide +kernel)⟩
theorem lk_2_139 : LKV 2 139 mX2_targetOf 1 2 := ⟨ki_X2_targetOf, g_mem 390 (by decide +kernel) (by decide +kernel)⟩
theorem lk_2_94 : LKV 2 94 mX2_settingOf 1 2 := ⟨ki_X2_settingOf, g_mem 394 (by decide +kernel) (by decide +kernel)⟩
theorem lk_8_32 : LKV 8 32 mX6_member 2 6 := ⟨ki_X6_member, g_mem 395 (by decide +kernel) (by decide +kernel)⟩
theorem lk_6_90 : LKN 6 90 mX2_memberProperty 2 2 := ⟨ki_X2_memberProperty, "PhrasePool", n_mem 299 (by decide +kernel) (by decide +kernel) (by decide +kernel)⟩
theorem lk_2_59 : LKV 2 59 mX2_countOwned 1 2 := ⟨ki_X2_countOwned, g_mem 403 (by decide +kernel) (by decide +kernel)⟩
theorem lk_2_73 : LKV 2 73 mX2_ownerOf 1 2 := ⟨ki_X2_ownerOf, g_mem 407 (by decide +kernel) (by decide +kernel)⟩
theorem lk_2_63 : LKV 2 63 mX2_countUsesNoted 1 2 := ⟨ki_X2_countUsesNoted, g_mem 411 (by decide +kernel) (by decide +kernel)⟩
theorem lk_2_76 : LKV 2 76 mX2_noteProperty 2 2 := ⟨ki_X2_noteProperty, g_mem 415 (by decide +kernel) (by decide +kernel)⟩
theorem lk_2_66 : LKV 2 66 mX2_sumGot 1 2 := ⟨ki_X2_sumGot, g_mem 419 (by decide +kernel) (by decide +kernel)⟩
theorem lk_8_36 : LKV 8 36 mX6_addPhrase 3 6 := ⟨ki_X6_addPhrase, g_mem 423 (by decide +kernel) (by decide +kernel)⟩
theorem lk_6_95 : LKN 6 95 mX2_hasPhrase 1 2 := ⟨ki_X2_hasPhrase, "PhrasePool", n_mem 328 (by decide +kernel) (by decide +kernel) (by decide +kernel)⟩
theorem lk_6_98 : LKN 6 98 mX3_isFaulty 0 3 := ⟨ki_X3_isFaulty, "PhrasePool", n_mem 332 (by decide +kernel) (by decide +kernel) (by decide +kernel)⟩
theorem lk_3_24 : LKV 3 24 mX3_fault 0 3 := ⟨ki_X3_fault, g_mem 436 (by decide +kernel) (by decide +kernel)⟩
theorem lk_3_19 : LKS 3 19 mX3_isLetter 1 := ⟨k0_X3_isLetter, g_mem 440 (by decide +kernel) (by decide +kernel), g_mem 441 (by decide +kernel) (by decide +kernel)⟩
theorem lk_6_102 : LKN 6 102 mX2_isLive 1 2 := ⟨ki_X2_isLive, "PhrasePool", n_mem 344 (by decide +kernel) (by decide +kernel) (by decide +kernel)⟩
theorem lk_6_106 : LKN 6 106 mX2_phrases 0 2 := ⟨ki_X2_phrases, "PhrasePool", n_mem 346 (by decide +kernel) (by decide +kernel) (by decide +kernel)⟩
theorem lk_6_109 : LKN 6 109 mX3_readInto 1 3 := ⟨ki_X3_readInto, "PhrasePool", n_mem 347 (by decide +kernel) (by decide +kernel) (by decide +kernel)⟩
theorem lk_3_28 : LKN 3 28 mX1_clear 0 1 := ⟨ki_X1_clear, "PhrasePool", n_mem 351 (by decide +kernel) (by decide +kernel) (by decide +kernel)⟩
theorem lk_3_33 : LKN 3 33 mX1_append 1 1 := ⟨ki_X1_append, "PhrasePool", n_mem 352 (by decide +kernel) (by decide +kernel) (by decide +kernel)⟩
theorem lk_6_113 : LKN 6 113 mX2_startPhrase 4 2 := ⟨ki_X2_startPhrase, "PhrasePool", n_mem 353 (by decide +kernel) (by decide +kernel) (by decide +kernel)⟩
theorem lk_8_41 : LKV 8 41 mX6_phrase 2 6 := ⟨ki_X6_phrase, g_mem 457 (by decide +kernel) (by decide +kernel)⟩
theorem lk_6_117 : LKN 6 117 mX2_phraseProperty 2 2 := ⟨ki_X2_phraseProperty, "PhrasePool", n_mem 361 (by decide +kernel) (by decide +kernel) (by decide +kernel)⟩
theorem lk_8_45 : LKV 8 45 mX6_word 2 6 := ⟨ki_X6_word, g_mem 465 (by decide +kernel) (by decide +kernel)⟩
theorem lk_6_120 : LKN 6 120 mX2_lengthOf 1 2 := ⟨ki_X2_lengthOf, "PhrasePool", n_mem 369 (by decide +kernel) (by decide +kernel) (by decide +kernel)⟩
theorem lk_6_123 : LKN 6 123 mX2_wordOf 2 2 := ⟨ki_X2_wordOf, "PhrasePool", n_mem 370 (by decide +kernel) (by decide +kernel) (by decide +kernel)⟩
theorem lk_8_49 : LKV 8 49 mX6_score 2 6 := ⟨ki_X6_score, g_mem 471 (by decide +kernel) (by decide +kernel)⟩
theorem lk_6_126 : LKN 6 126 mX2_likenessOf 2 2 := ⟨ki_X2_likenessOf, "PhrasePool", n_mem 375 (by decide +kernel) (by decide +kernel) (by decide +kernel)⟩
theorem lk_2_127 : LKV 2 127 mX2_likenessTo 2 2 := ⟨ki_X2_likenessTo, g_mem 479 (by decide +kernel) (by decide +kernel)⟩
theorem lk_2_131 : LKN 2 131 mX5_measure 2 5 := ⟨ki_X5_measure, "PhrasePool", n_mem 383 (by decide +kernel) (by decide +kernel) (by decide +kernel)⟩
theorem lm_5_22 : Lmax 5 22 := ⟨g_mem 487 (by decide +kernel) (by decide +kernel), g_mem 488 (by decide +kernel) (by decide +kernel), g_mem 110 (by decide +kernel) (by decide +kernel), g_mem 489 (by decide +kernel) (by decide +kernel)⟩
theorem lk_5_28 : LKV 5 28 mX5_distance 2 5 := ⟨ki_X5_distance, g_mem 490 (by decide +kernel) (by decide +kernel)⟩
theorem lm_5_36 : Lmin 5 36 := ⟨g_mem 494 (by decide +kernel) (by decide +kernel), g_mem 268 (by decide +kernel) (by decide +kernel), g_mem 110 (by decide +kernel) (by decide +kernel), g_mem 269 (by decide +kernel) (by decide +kernel)⟩
theorem lk_8_53 : LKV 8 53 mX6_agreed 0 6 := ⟨ki_X6_agreed, g_mem 495 (by decide +kernel) (by decide +kernel)⟩
theorem lk_6_129 : LKN 6 129 mX2_isLiveAs 2 2 := ⟨ki_X2_isLiveAs, "PhrasePool", n_mem 399 (by decide +kernel) (by decide +kernel) (by decide +kernel)⟩
theorem lk_6_133 : LKN 6 133 mX2_targetOf 1 2 := ⟨ki_X2_targetOf, "PhrasePool", n_mem 400 (by decide +kernel) (by decide +kernel) (by decide +kernel)⟩
theorem lk_6_136 : LKN 6 136 mX2_giversOf 2 2 := ⟨ki_X2_giversOf, "PhrasePool", n_mem 401 (by decide +kernel) (by decide +kernel) (by decide +kernel)⟩
theorem lk_2_146 : LKV 2 146 mX2_gives 3 2 := ⟨ki_X2_gives, g_mem 505 (by decide +kernel) (by decide +kernel)⟩
theorem lk_8_57 : LKV 8 57 mX6_match 0 6 := ⟨ki_X6_match, g_mem 509 (by decide +kernel) (by decide +kernel)⟩
theorem lk_6_140 : LKV 6 140 mX6_findMatch 0 6 := ⟨ki_X6_findMatch, g_mem 513 (by decide +kernel) (by decide +kernel)⟩
theorem lk_6_143 : LKN 6 143 mX2_likenessTo 2 2 := ⟨ki_X2_likenessTo, "PhrasePool", n_mem 417 (by decide +kernel) (by decide +kernel) (by decide +kernel)⟩
theorem lk_6_215 : LKN 6 215 mX2_usesOf 1 2 := ⟨ki_X2_usesOf, "PhrasePool", n_mem 418 (by decide +kernel) (by decide +kernel) (by decide +kernel)⟩
theorem lk_8_61 : LKV 8 61 mX6_alike 1 6 := ⟨ki_X6_alike, g_mem 522 (by decide +kernel) (by decide +kernel)⟩
theorem lk_8_65 : LKV 8 65 mX6_fee 1 6 := ⟨ki_X6_fee, g_mem 526 (by decide +kernel) (by decide +kernel)⟩
theorem lk_6_147 : LKN 6 147 mX2_feeFor 3 2 := ⟨ki_X2_feeFor, "PhrasePool", n_mem 430 (by decide +kernel) (by decide +kernel) (by decide +kernel)⟩
theorem lk_2_150 : LKV 2 150 mX2_priceOf 1 2 := ⟨ki_X2_priceOf, g_mem 534 (by decide +kernel) (by decide +kernel)⟩
theorem lk_8_69 : LKV 8 69 mX6_use 1 6 := ⟨ki_X6_use, g_mem 535 (by decide +kernel) (by decide +kernel)⟩
theorem lk_6_151 : LKN 6 151 mX2_notes 0 2 := ⟨ki_X2_notes, "PhrasePool", n_mem 439 (by decide +kernel) (by decide +kernel) (by decide +kernel)⟩
theorem lk_6_154 : LKN 6 154 mX2_startNote 3 2 := ⟨ki_X2_startNote, "PhrasePool", n_mem 440 (by decide +kernel) (by decide +kernel) (by decide +kernel)⟩
theorem lk_2_156 : LKV 2 156 mX2_feeFor 3 2 := ⟨ki_X2_feeFor, g_mem 544 (by decide +kernel) (by decide +kernel)⟩
theorem lk_2_160 : LKV 2 160 mX2_splitFee 1 2 := ⟨ki_X2_splitFee, g_mem 545 (by decide +kernel) (by decide +kernel)⟩
theorem lk_2_168 : LKV 2 168 mX2_parentOf 1 2 := ⟨ki_X2_parentOf, g_mem 550 (by decide +kernel) (by decide +kernel)⟩
theorem lk_2_163 : LKV 2 163 mX2_moveMoney 2 2 := ⟨ki_X2_moveMoney, g_mem 554 (by decide +kernel) (by decide +kernel)⟩
theorem lk_8_73 : LKV 8 73 mX6_note 2 6 := ⟨ki_X6_note, g_mem 558 (by decide +kernel) (by decide +kernel)⟩
theorem lk_6_157 : LKN 6 157 mX2_hasNote 1 2 := ⟨ki_X2_hasNote, "PhrasePool", n_mem 462 (by decide +kernel) (by decide +kernel) (by decide +kernel)⟩
theorem lk_6_160 : LKN 6 160 mX2_noteProperty 2 2 := ⟨ki_X2_noteProperty, "PhrasePool", n_mem 466 (by decide +kernel) (by decide +kernel) (by decide +kernel)⟩
theorem lk_8_77 : LKV 8 77 mX6_retract 1 6 := ⟨ki_X6_retract, g_mem 567 (by decide +kernel) (by decide +kernel)⟩
theorem lk_6_163 : LKN 6 163 mX2_markEndings 1 2 := ⟨ki_X2_markEndings, "PhrasePool", n_mem 471 (by decide +kernel) (by decide +kernel) (by decide +kernel)⟩
theorem lk_2_171 : LKV 2 171 mX2_hasMarkedParent 1 2 := ⟨ki_X2_hasMarkedParent, g_mem 575 (by decide +kernel) (by decide +kernel)⟩
theorem lk_2_174 : LKV 2 174 mX2_likenessOf 2 2 := ⟨ki_X2_likenessOf, g_mem 579 (by decide +kernel) (by decide +kernel)⟩
theorem lk_6_167 : LKN 6 167 mX2_payBackMarked 0 2 := ⟨ki_X2_payBackMarked, "PhrasePool", n_mem 480 (by decide +kernel) (by decide +kernel) (by decide +kernel)⟩
theorem lk_2_177 : LKV 2 177 mX2_isOwed 1 2 := ⟨ki_X2_isOwed, g_mem 584 (by decide +kernel) (by decide +kernel)⟩
theorem lk_6_170 : LKN 6 170 mX2_endMarked 0 2 := ⟨ki_X2_endMarked, "PhrasePool", n_mem 488 (by decide +kernel) (by decide +kernel) (by decide +kernel)⟩
theorem lk_8_81 : LKV 8 81 mX6_wouldPayBack 1 6 := ⟨ki_X6_wouldPayBack, g_mem 592 (by decide +kernel) (by decide +kernel)⟩
theorem lk_6_173 : LKN 6 173 mX2_owedForMarked 0 2 := ⟨ki_X2_owedForMarked, "PhrasePool", n_mem 496 (by decide +kernel) (by decide +kernel) (by decide +kernel)⟩
theorem lk_8_85 : LKV 8 85 mX6_pass 1 6 := ⟨ki_X6_pass, g_mem 600 (by decide +kernel) (by decide +kernel)⟩
theorem lk_6_176 : LKN 6 176 mX2_tick 0 2 := ⟨ki_X2_tick, "PhrasePool", n_mem 504 (by decide +kernel) (by decide +kernel) (by decide +kernel)⟩
theorem lk_6_179 : LKN 6 179 mX2_moveTick 1 2 := ⟨ki_X2_moveTick, "PhrasePool", n_mem 505 (by decide +kernel) (by decide +kernel) (by decide +kernel)⟩
theorem lk_8_89 : LKV 8 89 mX6_cheapest 1 6 := ⟨ki_X6_cheapest, g_mem 609 (by decide +kernel) (by decide +kernel)⟩
theorem lk_6_182 : LKV 6 182 mX6_findWays 1 6 := ⟨ki_X6_findWays, g_mem 613 (by decide +kernel) (by decide +kernel)⟩
theorem lk_6_219 : LKN 6 219 mX4_start 1 4 := ⟨ki_X4_start, "PhrasePool", n_mem 517 (by decide +kernel) (by decide +kernel) (by decide +kernel)⟩
theorem lk_4_28 : LKV 4 28 mX4_open 1 4 := ⟨ki_X4_open, g_mem 621 (by decide +kernel) (by decide +kernel)⟩
theorem lk_6_222 : LKN 6 222 mX4_open 1 4 := ⟨ki_X4_open, "PhrasePool", n_mem 526 (by decide +kernel) (by decide +kernel) (by decide +kernel)⟩
theorem lk_6_225 : LKN 6 225 mX2_standsAt 3 2 := ⟨ki_X2_standsAt, "PhrasePool", n_mem 527 (by decide +kernel) (by decide +kernel) (by decide +kernel)⟩
theorem lk_6_229 : LKN 6 229 mX4_offer 4 4 := ⟨ki_X4_offer, "PhrasePool", n_mem 528 (by decide +kernel) (by decide +kernel) (by decide +kernel)⟩
theorem lk_6_185 : LKN 6 185 mX4_bestCost 0 4 := ⟨ki_X4_bestCost, "PhrasePool", n_mem 532 (by decide +kernel) (by decide +kernel) (by decide +kernel)⟩
theorem lk_8_93 : LKV 8 93 mX6_piece 2 6 := ⟨ki_X6_piece, g_mem 636 (by decide +kernel) (by decide +kernel)⟩
theorem lk_6_188 : LKN 6 188 mX4_pieceAt 1 4 := ⟨ki_X4_pieceAt, "PhrasePool", n_mem 540 (by decide +kernel) (by decide +kernel) (by decide +kernel)⟩
theorem lk_8_97 : LKV 8 97 mX6_type 1 6 := ⟨ki_X6_type, g_mem 644 (by decide +kernel) (by decide +kernel)⟩
theorem lk_6_191 : LKN 6 191 mX3_append 1 3 := ⟨ki_X3_append, "PhrasePool", n_mem 548 (by decide +kernel) (by decide +kernel) (by decide +kernel)⟩
theorem lk_8_101 : LKV 8 101 mX6_clearText 0 6 := ⟨ki_X6_clearText, g_mem 652 (by decide +kernel) (by decide +kernel)⟩
theorem lk_6_194 : LKN 6 194 mX3_empty 0 3 := ⟨ki_X3_empty, "PhrasePool", n_mem 556 (by decide +kernel) (by decide +kernel) (by decide +kernel)⟩
theorem lk_8_105 : LKV 8 105 mX6_textFault 0 6 := ⟨ki_X6_textFault, g_mem 660 (by decide +kernel) (by decide +kernel)⟩
theorem lk_6_197 : LKN 6 197 mX3_fault 0 3 := ⟨ki_X3_fault, "PhrasePool", n_mem 564 (by decide +kernel) (by decide +kernel) (by decide +kernel)⟩
theorem lk_8_109 : LKV 8 109 mX6_undo 0 6 := ⟨ki_X6_undo, g_mem 665 (by decide +kernel) (by decide +kernel)⟩
theorem lk_6_203 : LKN 6 203 mX0_restoreInto 1 0 := ⟨ki_X0_restoreInto, "PhrasePool", n_mem 569 (by decide +kernel) (by decide +kernel) (by decide +kernel)⟩
theorem lk_0_35 : LKN 0 35 mX2_copyFrom 1 2 := ⟨ki_X2_copyFrom, "PhrasePool", n_mem 573 (by decide +kernel) (by decide +kernel) (by decide +kernel)⟩
theorem lk_8_113 : LKV 8 113 mX6_digest 0 6 := ⟨ki_X6_digest, g_mem 677 (by decide +kernel) (by decide +kernel)⟩
theorem lk_6_211 : LKV 6 211 mX6_hashPhrase 2 6 := ⟨ki_X6_hashPhrase, g_mem 683 (by decide +kernel) (by decide +kernel)⟩
theorem lk_8_17 : LKV 8 17 mX7_addMember 0 7 := ⟨ki_X7_addMember, g_mem 736 (by decide +kernel) (by decide +kernel)⟩
theorem lk_7_80 : LKV 7 80 mX7_records 0 7 := ⟨ki_X7_records, g_mem 741 (by decide +kernel) (by decide +kernel)⟩
theorem lk_7_41 : LKV 7 41 mX7_copies 2 7 := ⟨ki_X7_copies, g_mem 745 (by decide +kernel) (by decide +kernel)⟩
theorem lk_8_22 : LKV 8 22 mX7_setPrice 2 7 := ⟨ki_X7_setPrice, g_mem 749 (by decide +kernel) (by decide +kernel)⟩
theorem lk_7_83 : LKV 7 83 mX7_isMember 1 7 := ⟨ki_X7_isMember, g_mem 753 (by decide +kernel) (by decide +kernel)⟩
theorem lk_7_45 : LKS 7 45 mX7_in 3 := ⟨k0_X7_in, g_mem 757 (by decide +kernel) (by decide +kernel), g_mem 758 (by decide +kernel) (by decide +kernel)⟩
theorem lk_7_89 : LKV 7 89 mX7_price 1 7 := ⟨ki_X7_price, g_mem 762 (by decide +kernel) (by decide +kernel)⟩
theorem lk_8_26 : LKV 8 26 mX7_set 2 7 := ⟨ki_X7_set, g_mem 766 (by decide +kernel) (by decide +kernel)⟩
theorem lk_8_31 : LKV 8 31 mX7_count 1 7 := ⟨ki_X7_count, g_mem 770 (by decide +kernel) (by decide +kernel)⟩
theorem lk_7_115 : LKV 7 115 mX7_counted 1 7 := ⟨ki_X7_counted, g_mem 774 (by decide +kernel) (by decide +kernel)⟩
theorem lk_7_106 : LKV 7 106 mX7_live 0 7 := ⟨ki_X7_live, g_mem 778 (by decide +kernel) (by decide +kernel)⟩
theorem lk_7_49 : LKV 7 49 mX7_of 2 7 := ⟨ki_X7_of, g_mem 782 (by decide +kernel) (by decide +kernel)⟩
theorem lk_7_109 : LKV 7 109 mX7_paidBack 0 7 := ⟨ki_X7_paidBack, g_mem 786 (by decide +kernel) (by decide +kernel)⟩
theorem lk_7_100 : LKV 7 100 mX7_ofNote 2 7 := ⟨ki_X7_ofNote, g_mem 790 (by decide +kernel) (by decide +kernel)⟩
theorem lk_7_112 : LKV 7 112 mX7_allConflicts 0 7 := ⟨ki_X7_allConflicts, g_mem 794 (by decide +kernel) (by decide +kernel)⟩
theorem lk_7_103 : LKV 7 103 mX7_conflicts 1 7 := ⟨ki_X7_conflicts, g_mem 798 (by decide +kernel) (by decide +kernel)⟩
theorem lk_7_96 : LKV 7 96 mX7_areInConflict 2 7 := ⟨ki_X7_areInConflict, g_mem 802 (by decide +kernel) (by decide +kernel)⟩
theorem lk_7_93 : LKV 7 93 mX7_scoreOf 2 7 := ⟨ki_X7_scoreOf, g_mem 806 (by decide +kernel) (by decide +kernel)⟩
theorem lk_7_65 : LKV 7 65 mX7_setsOne 1 7 := ⟨ki_X7_setsOne, g_mem 810 (by decide +kernel) (by decide +kernel)⟩
theorem lk_7_69 : LKV 7 69 mX7_setsOther 1 7 := ⟨ki_X7_setsOther, g_mem 814 (by decide +kernel) (by decide +kernel)⟩
theorem lk_7_72 : LKV 7 72 mX7_scoreNow 0 7 := ⟨ki_X7_scoreNow, g_mem 818 (by decide +kernel) (by decide +kernel)⟩
theorem lk_7_62 : LKS 7 62 mX7_least 2 := ⟨k0_X7_least, g_mem 822 (by decide +kernel) (by decide +kernel), g_mem 823 (by decide +kernel) (by decide +kernel)⟩
theorem lk_8_35 : LKV 8 35 mX7_member 2 7 := ⟨ki_X7_member, g_mem 825 (by decide +kernel) (by decide +kernel)⟩
theorem lk_7_118 : LKV 7 118 mX7_memberNow 2 7 := ⟨ki_X7_memberNow, g_mem 829 (by decide +kernel) (by decide +kernel)⟩
theorem lk_8_40 : LKV 8 40 mX7_addPhrase 3 7 := ⟨ki_X7_addPhrase, g_mem 833 (by decide +kernel) (by decide +kernel)⟩
theorem lk_7_122 : LKV 7 122 mX7_isPhrase 1 7 := ⟨ki_X7_isPhrase, g_mem 838 (by decide +kernel) (by decide +kernel)⟩
theorem lk_7_125 : LKV 7 125 mX7_textFault 0 7 := ⟨ki_X7_textFault, g_mem 842 (by decide +kernel) (by decide +kernel)⟩
theorem lk_7_76 : LKV 7 76 mX7_setsText 0 7 := ⟨ki_X7_setsText, g_mem 847 (by decide +kernel) (by decide +kernel)⟩
theorem lk_8_44 : LKV 8 44 mX7_phrase 2 7 := ⟨ki_X7_phrase, g_mem 851 (by decide +kernel) (by decide +kernel)⟩
theorem lk_8_48 : LKV 8 48 mX7_word 2 7 := ⟨ki_X7_word, g_mem 855 (by decide +kernel) (by decide +kernel)⟩
theorem lk_8_52 : LKV 8 52 mX7_score 2 7 := ⟨ki_X7_score, g_mem 859 (by decide +kernel) (by decide +kernel)⟩
theorem lk_8_56 : LKV 8 56 mX7_agreed 0 7 := ⟨ki_X7_agreed, g_mem 863 (by decide +kernel) (by decide +kernel)⟩
theorem lk_7_132 : LKV 7 132 mX7_gives 2 7 := ⟨ki_X7_gives, g_mem 867 (by decide +kernel) (by decide +kernel)⟩
theorem lk_7_129 : LKV 7 129 mX7_textScore 1 7 := ⟨ki_X7_textScore, g_mem 871 (by decide +kernel) (by decide +kernel)⟩
theorem lk_8_60 : LKV 8 60 mX7_match 0 7 := ⟨ki_X7_match, g_mem 875 (by decide +kernel) (by decide +kernel)⟩
theorem lk_7_135 : LKV 7 135 mX7_found 0 7 := ⟨ki_X7_found, g_mem 879 (by decide +kernel) (by decide +kernel)⟩
theorem lk_8_64 : LKV 8 64 mX7_alike 1 7 := ⟨ki_X7_alike, g_mem 883 (by decide +kernel) (by decide +kernel)⟩
theorem lk_8_68 : LKV 8 68 mX7_fee 1 7 := ⟨ki_X7_fee, g_mem 887 (by decide +kernel) (by decide +kernel)⟩
theorem lk_7_138 : LKV 7 138 mX7_feeOf 3 7 := ⟨ki_X7_feeOf, g_mem 891 (by decide +kernel) (by decide +kernel)⟩
theorem lk_8_72 : LKV 8 72 mX7_use 1 7 := ⟨ki_X7_use, g_mem 895 (by decide +kernel) (by decide +kernel)⟩
theorem lk_7_142 : LKV 7 142 mX7_pays 2 7 := ⟨ki_X7_pays, g_mem 899 (by decide +kernel) (by decide +kernel)⟩
theorem lk_8_76 : LKV 8 76 mX7_note 2 7 := ⟨ki_X7_note, g_mem 903 (by decide +kernel) (by decide +kernel)⟩
theorem lk_8_80 : LKV 8 80 mX7_retract 1 7 := ⟨ki_X7_retract, g_mem 907 (by decide +kernel) (by decide +kernel)⟩
theorem lk_7_145 : LKV 7 145 mX7_ends 1 7 := ⟨ki_X7_ends, g_mem 911 (by decide +kernel) (by decide +kernel)⟩
theorem lk_7_148 : LKV 7 148 mX7_goesBack 1 7 := ⟨ki_X7_goesBack, g_mem 915 (by decide +kernel) (by decide +kernel)⟩
theorem lk_8_84 : LKV 8 84 mX7_wouldPayBack 1 7 := ⟨ki_X7_wouldPayBack, g_mem 919 (by decide +kernel) (by decide +kernel)⟩
theorem lk_8_88 : LKV 8 88 mX7_pass 1 7 := ⟨ki_X7_pass, g_mem 923 (by decide +kernel) (by decide +kernel)⟩
theorem lk_8_92 : LKV 8 92 mX7_cheapest 1 7 := ⟨ki_X7_cheapest, g_mem 927 (by decide +kernel) (by decide +kernel)⟩
theorem lk_7_154 : LKV 7 154 mX7_composes 1 7 := ⟨ki_X7_composes, g_mem 931 (by decide +kernel) (by decide +kernel)⟩
theorem lk_7_151 : LKV 7 151 mX7_standsAt 2 7 := ⟨ki_X7_standsAt, g_mem 935 (by decide +kernel) (by decide +kernel)⟩
theorem lk_8_96 : LKV 8 96 mX7_piece 2 7 := ⟨ki_X7_piece, g_mem 939 (by decide +kernel) (by decide +kernel)⟩
theorem lk_8_100 : LKV 8 100 mX7_type 1 7 := ⟨ki_X7_type, g_mem 943 (by decide +kernel) (by decide +kernel)⟩
theorem lk_8_104 : LKV 8 104 mX7_clearText 0 7 := ⟨ki_X7_clearText, g_mem 947 (by decide +kernel) (by decide +kernel)⟩
theorem lk_8_108 : LKV 8 108 mX7_textFault 0 7 := ⟨ki_X7_textFault, g_mem 951 (by decide +kernel) (by decide +kernel)⟩
theorem lk_8_112 : LKV 8 112 mX7_undo 0 7 := ⟨ki_X7_undo, g_mem 952 (by decide +kernel) (by decide +kernel)⟩
theorem lk_8_117 : LKV 8 117 mX7_digest 0 7 := ⟨ki_X7_digest, g_mem 956 (by decide +kernel) (by decide +kernel)⟩
theorem lk_7_165 : LKV 7 165 mX7_adds 1 7 := ⟨ki_X7_adds, g_mem 961 (by decide +kernel) (by decide +kernel)⟩
theorem lk_7_169 : LKV 7 169 mX7_phrase 2 7 := ⟨ki_X7_phrase, g_mem 966 (by decide +kernel) (by decide +kernel)⟩
end
