section
-- ===== PART A: goes FIRST, ahead of the names: the tables' words, and 'selects' of the private methods out of them =====
/-- a private method of a class that the tables say can be made, by its rows of tables_1 -/
def lw_okq (q : MethodName × Nat) : Prop := (q.1.cls ≠ "java/lang/invoke/MethodHandle" ∧ q.1.cls ≠ "java/lang/invoke/VarHandle") ∧ Cond.instantiable q.1.cls q.2 ∈ tables_1 ∧ Cond.privateMethod q.1 ∈ tables_1 ∧ Cond.instanceMethod q.1 ∈ tables_1
theorem lw_p0 : lw_okq (⟨"PhrasePool$State", "members", "()I"⟩, 5) := ⟨⟨by decide +kernel, by decide +kernel⟩, List.mem_of_getElem? (i := 20) (by decide +kernel), List.mem_of_getElem? (i := 155) (by decide +kernel), List.mem_of_getElem? (i := 156) (by decide +kernel)⟩
theorem lw_p1 : lw_okq (⟨"PhrasePool$History", "keep", "(LPhrasePool$State;)V"⟩, 3) := ⟨⟨by decide +kernel, by decide +kernel⟩, List.mem_of_getElem? (i := 79) (by decide +kernel), List.mem_of_getElem? (i := 160) (by decide +kernel), List.mem_of_getElem? (i := 161) (by decide +kernel)⟩
theorem lw_p2 : lw_okq (⟨"PhrasePool$State", "copyTo", "([I)V"⟩, 5) := ⟨⟨by decide +kernel, by decide +kernel⟩, List.mem_of_getElem? (i := 20) (by decide +kernel), List.mem_of_getElem? (i := 164) (by decide +kernel), List.mem_of_getElem? (i := 165) (by decide +kernel)⟩
theorem lw_p3 : lw_okq (⟨"PhrasePool$State", "startMember", "()I"⟩, 5) := ⟨⟨by decide +kernel, by decide +kernel⟩, List.mem_of_getElem? (i := 20) (by decide +kernel), List.mem_of_getElem? (i := 171) (by decide +kernel), List.mem_of_getElem? (i := 172) (by decide +kernel)⟩
theorem lw_p4 : lw_okq (⟨"PhrasePool$State", "hasMember", "(I)Z"⟩, 5) := ⟨⟨by decide +kernel, by decide +kernel⟩, List.mem_of_getElem? (i := 20) (by decide +kernel), List.mem_of_getElem? (i := 182) (by decide +kernel), List.mem_of_getElem? (i := 183) (by decide +kernel)⟩
theorem lw_p5 : lw_okq (⟨"PhrasePool$State", "priceOf", "(I)I"⟩, 5) := ⟨⟨by decide +kernel, by decide +kernel⟩, List.mem_of_getElem? (i := 20) (by decide +kernel), List.mem_of_getElem? (i := 189) (by decide +kernel), List.mem_of_getElem? (i := 190) (by decide +kernel)⟩
theorem lw_p6 : lw_okq (⟨"PhrasePool$State", "changePrice", "(II)V"⟩, 5) := ⟨⟨by decide +kernel, by decide +kernel⟩, List.mem_of_getElem? (i := 20) (by decide +kernel), List.mem_of_getElem? (i := 193) (by decide +kernel), List.mem_of_getElem? (i := 194) (by decide +kernel)⟩
theorem lw_p7 : lw_okq (⟨"PhrasePool$State", "settingOf", "(I)I"⟩, 5) := ⟨⟨by decide +kernel, by decide +kernel⟩, List.mem_of_getElem? (i := 20) (by decide +kernel), List.mem_of_getElem? (i := 205) (by decide +kernel), List.mem_of_getElem? (i := 206) (by decide +kernel)⟩
theorem lw_p8 : lw_okq (⟨"PhrasePool$State", "changeSetting", "(II)V"⟩, 5) := ⟨⟨by decide +kernel, by decide +kernel⟩, List.mem_of_getElem? (i := 20) (by decide +kernel), List.mem_of_getElem? (i := 209) (by decide +kernel), List.mem_of_getElem? (i := 210) (by decide +kernel)⟩
theorem lw_p9 : lw_okq (⟨"PhrasePool$State", "countOf", "(I)I"⟩, 5) := ⟨⟨by decide +kernel, by decide +kernel⟩, List.mem_of_getElem? (i := 20) (by decide +kernel), List.mem_of_getElem? (i := 217) (by decide +kernel), List.mem_of_getElem? (i := 218) (by decide +kernel)⟩
theorem lw_p10 : lw_okq (⟨"PhrasePool$State", "phrases", "()I"⟩, 5) := ⟨⟨by decide +kernel, by decide +kernel⟩, List.mem_of_getElem? (i := 20) (by decide +kernel), List.mem_of_getElem? (i := 221) (by decide +kernel), List.mem_of_getElem? (i := 222) (by decide +kernel)⟩
theorem lw_p11 : lw_okq (⟨"PhrasePool$State", "countLive", "()I"⟩, 5) := ⟨⟨by decide +kernel, by decide +kernel⟩, List.mem_of_getElem? (i := 20) (by decide +kernel), List.mem_of_getElem? (i := 225) (by decide +kernel), List.mem_of_getElem? (i := 226) (by decide +kernel)⟩
theorem lw_p12 : lw_okq (⟨"PhrasePool$State", "isLive", "(I)Z"⟩, 5) := ⟨⟨by decide +kernel, by decide +kernel⟩, List.mem_of_getElem? (i := 20) (by decide +kernel), List.mem_of_getElem? (i := 229) (by decide +kernel), List.mem_of_getElem? (i := 230) (by decide +kernel)⟩
theorem lw_p13 : lw_okq (⟨"PhrasePool$State", "notes", "()I"⟩, 5) := ⟨⟨by decide +kernel, by decide +kernel⟩, List.mem_of_getElem? (i := 20) (by decide +kernel), List.mem_of_getElem? (i := 236) (by decide +kernel), List.mem_of_getElem? (i := 237) (by decide +kernel)⟩
theorem lw_p14 : lw_okq (⟨"PhrasePool$State", "countPaidBack", "()I"⟩, 5) := ⟨⟨by decide +kernel, by decide +kernel⟩, List.mem_of_getElem? (i := 20) (by decide +kernel), List.mem_of_getElem? (i := 240) (by decide +kernel), List.mem_of_getElem? (i := 241) (by decide +kernel)⟩
theorem lw_p15 : lw_okq (⟨"PhrasePool$State", "isPaidBack", "(I)Z"⟩, 5) := ⟨⟨by decide +kernel, by decide +kernel⟩, List.mem_of_getElem? (i := 20) (by decide +kernel), List.mem_of_getElem? (i := 244) (by decide +kernel), List.mem_of_getElem? (i := 245) (by decide +kernel)⟩
def lw_privs_1 : List (MethodName × Nat) := [(⟨"PhrasePool$State", "members", "()I"⟩, 5), (⟨"PhrasePool$History", "keep", "(LPhrasePool$State;)V"⟩, 3), (⟨"PhrasePool$State", "copyTo", "([I)V"⟩, 5), (⟨"PhrasePool$State", "startMember", "()I"⟩, 5), (⟨"PhrasePool$State", "hasMember", "(I)Z"⟩, 5), (⟨"PhrasePool$State", "priceOf", "(I)I"⟩, 5), (⟨"PhrasePool$State", "changePrice", "(II)V"⟩, 5), (⟨"PhrasePool$State", "settingOf", "(I)I"⟩, 5), (⟨"PhrasePool$State", "changeSetting", "(II)V"⟩, 5), (⟨"PhrasePool$State", "countOf", "(I)I"⟩, 5), (⟨"PhrasePool$State", "phrases", "()I"⟩, 5), (⟨"PhrasePool$State", "countLive", "()I"⟩, 5), (⟨"PhrasePool$State", "isLive", "(I)Z"⟩, 5), (⟨"PhrasePool$State", "notes", "()I"⟩, 5), (⟨"PhrasePool$State", "countPaidBack", "()I"⟩, 5), (⟨"PhrasePool$State", "isPaidBack", "(I)Z"⟩, 5)]
theorem lw_r1 : ∀ q ∈ lw_privs_1, lw_okq q := List.forall_mem_cons.mpr ⟨lw_p0, List.forall_mem_cons.mpr ⟨lw_p1, List.forall_mem_cons.mpr ⟨lw_p2, List.forall_mem_cons.mpr ⟨lw_p3, List.forall_mem_cons.mpr ⟨lw_p4, List.forall_mem_cons.mpr ⟨lw_p5, List.forall_mem_cons.mpr ⟨lw_p6, List.forall_mem_cons.mpr ⟨lw_p7, List.forall_mem_cons.mpr ⟨lw_p8, List.forall_mem_cons.mpr ⟨lw_p9, List.forall_mem_cons.mpr ⟨lw_p10, List.forall_mem_cons.mpr ⟨lw_p11, List.forall_mem_cons.mpr ⟨lw_p12, List.forall_mem_cons.mpr ⟨lw_p13, List.forall_mem_cons.mpr ⟨lw_p14, List.forall_mem_cons.mpr ⟨lw_p15, fun _ h => absurd h List.not_mem_nil⟩⟩⟩⟩⟩⟩⟩⟩⟩⟩⟩⟩⟩⟩⟩⟩
theorem lw_p16 : lw_okq (⟨"PhrasePool$State", "tick", "()I"⟩, 5) := ⟨⟨by decide +kernel, by decide +kernel⟩, List.mem_of_getElem? (i := 20) (by decide +kernel), List.mem_of_getElem? (i := 251) (by decide +kernel), List.mem_of_getElem? (i := 252) (by decide +kernel)⟩
theorem lw_p17 : lw_okq (⟨"PhrasePool$State", "countConflicts", "()I"⟩, 5) := ⟨⟨by decide +kernel, by decide +kernel⟩, List.mem_of_getElem? (i := 20) (by decide +kernel), List.mem_of_getElem? (i := 255) (by decide +kernel), List.mem_of_getElem? (i := 256) (by decide +kernel)⟩
theorem lw_p18 : lw_okq (⟨"PhrasePool$State", "conflictsOf", "(I)I"⟩, 5) := ⟨⟨by decide +kernel, by decide +kernel⟩, List.mem_of_getElem? (i := 20) (by decide +kernel), List.mem_of_getElem? (i := 259) (by decide +kernel), List.mem_of_getElem? (i := 260) (by decide +kernel)⟩
theorem lw_p19 : lw_okq (⟨"PhrasePool$State", "readInto", "(LPhrasePool$Sentence;I)V"⟩, 5) := ⟨⟨by decide +kernel, by decide +kernel⟩, List.mem_of_getElem? (i := 20) (by decide +kernel), List.mem_of_getElem? (i := 263) (by decide +kernel), List.mem_of_getElem? (i := 264) (by decide +kernel)⟩
theorem lw_p20 : lw_okq (⟨"PhrasePool$Sentence", "clear", "()V"⟩, 2) := ⟨⟨by decide +kernel, by decide +kernel⟩, List.mem_of_getElem? (i := 26) (by decide +kernel), List.mem_of_getElem? (i := 267) (by decide +kernel), List.mem_of_getElem? (i := 268) (by decide +kernel)⟩
theorem lw_p21 : lw_okq (⟨"PhrasePool$State", "lengthOf", "(I)I"⟩, 5) := ⟨⟨by decide +kernel, by decide +kernel⟩, List.mem_of_getElem? (i := 20) (by decide +kernel), List.mem_of_getElem? (i := 271) (by decide +kernel), List.mem_of_getElem? (i := 272) (by decide +kernel)⟩
theorem lw_p22 : lw_okq (⟨"PhrasePool$State", "wordOf", "(II)I"⟩, 5) := ⟨⟨by decide +kernel, by decide +kernel⟩, List.mem_of_getElem? (i := 20) (by decide +kernel), List.mem_of_getElem? (i := 275) (by decide +kernel), List.mem_of_getElem? (i := 276) (by decide +kernel)⟩
theorem lw_p23 : lw_okq (⟨"PhrasePool$Sentence", "append", "(I)V"⟩, 2) := ⟨⟨by decide +kernel, by decide +kernel⟩, List.mem_of_getElem? (i := 26) (by decide +kernel), List.mem_of_getElem? (i := 279) (by decide +kernel), List.mem_of_getElem? (i := 280) (by decide +kernel)⟩
theorem lw_p24 : lw_okq (⟨"PhrasePool$State", "isLiveAs", "(ILPhrasePool$Sentence;)Z"⟩, 5) := ⟨⟨by decide +kernel, by decide +kernel⟩, List.mem_of_getElem? (i := 20) (by decide +kernel), List.mem_of_getElem? (i := 283) (by decide +kernel), List.mem_of_getElem? (i := 284) (by decide +kernel)⟩
theorem lw_p25 : lw_okq (⟨"PhrasePool$State", "standsAt", "(ILPhrasePool$Sentence;I)Z"⟩, 5) := ⟨⟨by decide +kernel, by decide +kernel⟩, List.mem_of_getElem? (i := 20) (by decide +kernel), List.mem_of_getElem? (i := 287) (by decide +kernel), List.mem_of_getElem? (i := 288) (by decide +kernel)⟩
theorem lw_p26 : lw_okq (⟨"PhrasePool$State", "targetOf", "(I)I"⟩, 5) := ⟨⟨by decide +kernel, by decide +kernel⟩, List.mem_of_getElem? (i := 20) (by decide +kernel), List.mem_of_getElem? (i := 291) (by decide +kernel), List.mem_of_getElem? (i := 292) (by decide +kernel)⟩
theorem lw_p27 : lw_okq (⟨"PhrasePool$State", "memberProperty", "(II)I"⟩, 5) := ⟨⟨by decide +kernel, by decide +kernel⟩, List.mem_of_getElem? (i := 20) (by decide +kernel), List.mem_of_getElem? (i := 300) (by decide +kernel), List.mem_of_getElem? (i := 301) (by decide +kernel)⟩
theorem lw_p28 : lw_okq (⟨"PhrasePool$State", "countOwned", "(I)I"⟩, 5) := ⟨⟨by decide +kernel, by decide +kernel⟩, List.mem_of_getElem? (i := 20) (by decide +kernel), List.mem_of_getElem? (i := 304) (by decide +kernel), List.mem_of_getElem? (i := 305) (by decide +kernel)⟩
theorem lw_p29 : lw_okq (⟨"PhrasePool$State", "ownerOf", "(I)I"⟩, 5) := ⟨⟨by decide +kernel, by decide +kernel⟩, List.mem_of_getElem? (i := 20) (by decide +kernel), List.mem_of_getElem? (i := 308) (by decide +kernel), List.mem_of_getElem? (i := 309) (by decide +kernel)⟩
theorem lw_p30 : lw_okq (⟨"PhrasePool$State", "countUsesNoted", "(I)I"⟩, 5) := ⟨⟨by decide +kernel, by decide +kernel⟩, List.mem_of_getElem? (i := 20) (by decide +kernel), List.mem_of_getElem? (i := 312) (by decide +kernel), List.mem_of_getElem? (i := 313) (by decide +kernel)⟩
theorem lw_p31 : lw_okq (⟨"PhrasePool$State", "noteProperty", "(II)I"⟩, 5) := ⟨⟨by decide +kernel, by decide +kernel⟩, List.mem_of_getElem? (i := 20) (by decide +kernel), List.mem_of_getElem? (i := 316) (by decide +kernel), List.mem_of_getElem? (i := 317) (by decide +kernel)⟩
def lw_privs_2 : List (MethodName × Nat) := [(⟨"PhrasePool$State", "tick", "()I"⟩, 5), (⟨"PhrasePool$State", "countConflicts", "()I"⟩, 5), (⟨"PhrasePool$State", "conflictsOf", "(I)I"⟩, 5), (⟨"PhrasePool$State", "readInto", "(LPhrasePool$Sentence;I)V"⟩, 5), (⟨"PhrasePool$Sentence", "clear", "()V"⟩, 2), (⟨"PhrasePool$State", "lengthOf", "(I)I"⟩, 5), (⟨"PhrasePool$State", "wordOf", "(II)I"⟩, 5), (⟨"PhrasePool$Sentence", "append", "(I)V"⟩, 2), (⟨"PhrasePool$State", "isLiveAs", "(ILPhrasePool$Sentence;)Z"⟩, 5), (⟨"PhrasePool$State", "standsAt", "(ILPhrasePool$Sentence;I)Z"⟩, 5), (⟨"PhrasePool$State", "targetOf", "(I)I"⟩, 5), (⟨"PhrasePool$State", "memberProperty", "(II)I"⟩, 5), (⟨"PhrasePool$State", "countOwned", "(I)I"⟩, 5), (⟨"PhrasePool$State", "ownerOf", "(I)I"⟩, 5), (⟨"PhrasePool$State", "countUsesNoted", "(I)I"⟩, 5), (⟨"PhrasePool$State", "noteProperty", "(II)I"⟩, 5)]
theorem lw_r2 : ∀ q ∈ lw_privs_2, lw_okq q := List.forall_mem_cons.mpr ⟨lw_p16, List.forall_mem_cons.mpr ⟨lw_p17, List.forall_mem_cons.mpr ⟨lw_p18, List.forall_mem_cons.mpr ⟨lw_p19, List.forall_mem_cons.mpr ⟨lw_p20, List.forall_mem_cons.mpr ⟨lw_p21, List.forall_mem_cons.mpr ⟨lw_p22, List.forall_mem_cons.mpr ⟨lw_p23, List.forall_mem_cons.mpr ⟨lw_p24, List.forall_mem_cons.mpr ⟨lw_p25, List.forall_mem_cons.mpr ⟨lw_p26, List.forall_mem_cons.mpr ⟨lw_p27, List.forall_mem_cons.mpr ⟨lw_p28, List.forall_mem_cons.mpr ⟨lw_p29, List.forall_mem_cons.mpr ⟨lw_p30, List.forall_mem_cons.mpr ⟨lw_p31, fun _ h => absurd h List.not_mem_nil⟩⟩⟩⟩⟩⟩⟩⟩⟩⟩⟩⟩⟩⟩⟩⟩
theorem lw_p32 : lw_okq (⟨"PhrasePool$State", "sumGot", "(I)I"⟩, 5) := ⟨⟨by decide +kernel, by decide +kernel⟩, List.mem_of_getElem? (i := 20) (by decide +kernel), List.mem_of_getElem? (i := 320) (by decide +kernel), List.mem_of_getElem? (i := 321) (by decide +kernel)⟩
theorem lw_p33 : lw_okq (⟨"PhrasePool$State", "hasPhrase", "(I)Z"⟩, 5) := ⟨⟨by decide +kernel, by decide +kernel⟩, List.mem_of_getElem? (i := 20) (by decide +kernel), List.mem_of_getElem? (i := 329) (by decide +kernel), List.mem_of_getElem? (i := 330) (by decide +kernel)⟩
theorem lw_p34 : lw_okq (⟨"PhrasePool$Text", "isFaulty", "()Z"⟩, 2) := ⟨⟨by decide +kernel, by decide +kernel⟩, List.mem_of_getElem? (i := 97) (by decide +kernel), List.mem_of_getElem? (i := 333) (by decide +kernel), List.mem_of_getElem? (i := 334) (by decide +kernel)⟩
theorem lw_p35 : lw_okq (⟨"PhrasePool$Text", "fault", "()I"⟩, 2) := ⟨⟨by decide +kernel, by decide +kernel⟩, List.mem_of_getElem? (i := 97) (by decide +kernel), List.mem_of_getElem? (i := 337) (by decide +kernel), List.mem_of_getElem? (i := 338) (by decide +kernel)⟩
theorem lw_p36 : lw_okq (⟨"PhrasePool$Text", "readInto", "(LPhrasePool$Sentence;)V"⟩, 2) := ⟨⟨by decide +kernel, by decide +kernel⟩, List.mem_of_getElem? (i := 97) (by decide +kernel), List.mem_of_getElem? (i := 348) (by decide +kernel), List.mem_of_getElem? (i := 349) (by decide +kernel)⟩
theorem lw_p37 : lw_okq (⟨"PhrasePool$State", "startPhrase", "(IIILPhrasePool$Sentence;)I"⟩, 5) := ⟨⟨by decide +kernel, by decide +kernel⟩, List.mem_of_getElem? (i := 20) (by decide +kernel), List.mem_of_getElem? (i := 354) (by decide +kernel), List.mem_of_getElem? (i := 355) (by decide +kernel)⟩
theorem lw_p38 : lw_okq (⟨"PhrasePool$State", "phraseProperty", "(II)I"⟩, 5) := ⟨⟨by decide +kernel, by decide +kernel⟩, List.mem_of_getElem? (i := 20) (by decide +kernel), List.mem_of_getElem? (i := 362) (by decide +kernel), List.mem_of_getElem? (i := 363) (by decide +kernel)⟩
theorem lw_p39 : lw_okq (⟨"PhrasePool$State", "likenessOf", "(II)I"⟩, 5) := ⟨⟨by decide +kernel, by decide +kernel⟩, List.mem_of_getElem? (i := 20) (by decide +kernel), List.mem_of_getElem? (i := 376) (by decide +kernel), List.mem_of_getElem? (i := 377) (by decide +kernel)⟩
theorem lw_p40 : lw_okq (⟨"PhrasePool$State", "likenessTo", "(LPhrasePool$Sentence;I)I"⟩, 5) := ⟨⟨by decide +kernel, by decide +kernel⟩, List.mem_of_getElem? (i := 20) (by decide +kernel), List.mem_of_getElem? (i := 380) (by decide +kernel), List.mem_of_getElem? (i := 381) (by decide +kernel)⟩
theorem lw_p41 : lw_okq (⟨"PhrasePool$Yardstick", "measure", "(LPhrasePool$Sentence;LPhrasePool$Sentence;)I"⟩, 1) := ⟨⟨by decide +kernel, by decide +kernel⟩, List.mem_of_getElem? (i := 46) (by decide +kernel), List.mem_of_getElem? (i := 384) (by decide +kernel), List.mem_of_getElem? (i := 385) (by decide +kernel)⟩
theorem lw_p42 : lw_okq (⟨"PhrasePool$Yardstick", "distance", "(LPhrasePool$Sentence;LPhrasePool$Sentence;)I"⟩, 1) := ⟨⟨by decide +kernel, by decide +kernel⟩, List.mem_of_getElem? (i := 46) (by decide +kernel), List.mem_of_getElem? (i := 391) (by decide +kernel), List.mem_of_getElem? (i := 392) (by decide +kernel)⟩
theorem lw_p43 : lw_okq (⟨"PhrasePool$State", "giversOf", "(ILPhrasePool$Sentence;)I"⟩, 5) := ⟨⟨by decide +kernel, by decide +kernel⟩, List.mem_of_getElem? (i := 20) (by decide +kernel), List.mem_of_getElem? (i := 402) (by decide +kernel), List.mem_of_getElem? (i := 403) (by decide +kernel)⟩
theorem lw_p44 : lw_okq (⟨"PhrasePool$State", "gives", "(IILPhrasePool$Sentence;)Z"⟩, 5) := ⟨⟨by decide +kernel, by decide +kernel⟩, List.mem_of_getElem? (i := 20) (by decide +kernel), List.mem_of_getElem? (i := 406) (by decide +kernel), List.mem_of_getElem? (i := 407) (by decide +kernel)⟩
theorem lw_p45 : lw_okq (⟨"PhrasePool", "findMatch", "()I"⟩, 5) := ⟨⟨by decide +kernel, by decide +kernel⟩, List.mem_of_getElem? (i := 12) (by decide +kernel), List.mem_of_getElem? (i := 414) (by decide +kernel), List.mem_of_getElem? (i := 415) (by decide +kernel)⟩
theorem lw_p46 : lw_okq (⟨"PhrasePool$State", "usesOf", "(I)I"⟩, 5) := ⟨⟨by decide +kernel, by decide +kernel⟩, List.mem_of_getElem? (i := 20) (by decide +kernel), List.mem_of_getElem? (i := 419) (by decide +kernel), List.mem_of_getElem? (i := 420) (by decide +kernel)⟩
theorem lw_p47 : lw_okq (⟨"PhrasePool$State", "feeFor", "(III)I"⟩, 5) := ⟨⟨by decide +kernel, by decide +kernel⟩, List.mem_of_getElem? (i := 20) (by decide +kernel), List.mem_of_getElem? (i := 431) (by decide +kernel), List.mem_of_getElem? (i := 432) (by decide +kernel)⟩
def lw_privs_3 : List (MethodName × Nat) := [(⟨"PhrasePool$State", "sumGot", "(I)I"⟩, 5), (⟨"PhrasePool$State", "hasPhrase", "(I)Z"⟩, 5), (⟨"PhrasePool$Text", "isFaulty", "()Z"⟩, 2), (⟨"PhrasePool$Text", "fault", "()I"⟩, 2), (⟨"PhrasePool$Text", "readInto", "(LPhrasePool$Sentence;)V"⟩, 2), (⟨"PhrasePool$State", "startPhrase", "(IIILPhrasePool$Sentence;)I"⟩, 5), (⟨"PhrasePool$State", "phraseProperty", "(II)I"⟩, 5), (⟨"PhrasePool$State", "likenessOf", "(II)I"⟩, 5), (⟨"PhrasePool$State", "likenessTo", "(LPhrasePool$Sentence;I)I"⟩, 5), (⟨"PhrasePool$Yardstick", "measure", "(LPhrasePool$Sentence;LPhrasePool$Sentence;)I"⟩, 1), (⟨"PhrasePool$Yardstick", "distance", "(LPhrasePool$Sentence;LPhrasePool$Sentence;)I"⟩, 1), (⟨"PhrasePool$State", "giversOf", "(ILPhrasePool$Sentence;)I"⟩, 5), (⟨"PhrasePool$State", "gives", "(IILPhrasePool$Sentence;)Z"⟩, 5), (⟨"PhrasePool", "findMatch", "()I"⟩, 5), (⟨"PhrasePool$State", "usesOf", "(I)I"⟩, 5), (⟨"PhrasePool$State", "feeFor", "(III)I"⟩, 5)]
theorem lw_r3 : ∀ q ∈ lw_privs_3, lw_okq q := List.forall_mem_cons.mpr ⟨lw_p32, List.forall_mem_cons.mpr ⟨lw_p33, List.forall_mem_cons.mpr ⟨lw_p34, List.forall_mem_cons.mpr ⟨lw_p35, List.forall_mem_cons.mpr ⟨lw_p36, List.forall_mem_cons.mpr ⟨lw_p37, List.forall_mem_cons.mpr ⟨lw_p38, List.forall_mem_cons.mpr ⟨lw_p39, List.forall_mem_cons.mpr ⟨lw_p40, List.forall_mem_cons.mpr ⟨lw_p41, List.forall_mem_cons.mpr ⟨lw_p42, List.forall_mem_cons.mpr ⟨lw_p43, List.forall_mem_cons.mpr ⟨lw_p44, List.forall_mem_cons.mpr ⟨lw_p45, List.forall_mem_cons.mpr ⟨lw_p46, List.forall_mem_cons.mpr ⟨lw_p47, fun _ h => absurd h List.not_mem_nil⟩⟩⟩⟩⟩⟩⟩⟩⟩⟩⟩⟩⟩⟩⟩⟩
theorem lw_p48 : lw_okq (⟨"PhrasePool$State", "startNote", "(III)I"⟩, 5) := ⟨⟨by decide +kernel, by decide +kernel⟩, List.mem_of_getElem? (i := 20) (by decide +kernel), List.mem_of_getElem? (i := 441) (by decide +kernel), List.mem_of_getElem? (i := 442) (by decide +kernel)⟩
theorem lw_p49 : lw_okq (⟨"PhrasePool$State", "splitFee", "(I)V"⟩, 5) := ⟨⟨by decide +kernel, by decide +kernel⟩, List.mem_of_getElem? (i := 20) (by decide +kernel), List.mem_of_getElem? (i := 446) (by decide +kernel), List.mem_of_getElem? (i := 447) (by decide +kernel)⟩
theorem lw_p50 : lw_okq (⟨"PhrasePool$State", "parentOf", "(I)I"⟩, 5) := ⟨⟨by decide +kernel, by decide +kernel⟩, List.mem_of_getElem? (i := 20) (by decide +kernel), List.mem_of_getElem? (i := 451) (by decide +kernel), List.mem_of_getElem? (i := 452) (by decide +kernel)⟩
theorem lw_p51 : lw_okq (⟨"PhrasePool$State", "moveMoney", "(II)V"⟩, 5) := ⟨⟨by decide +kernel, by decide +kernel⟩, List.mem_of_getElem? (i := 20) (by decide +kernel), List.mem_of_getElem? (i := 455) (by decide +kernel), List.mem_of_getElem? (i := 456) (by decide +kernel)⟩
theorem lw_p52 : lw_okq (⟨"PhrasePool$State", "hasNote", "(I)Z"⟩, 5) := ⟨⟨by decide +kernel, by decide +kernel⟩, List.mem_of_getElem? (i := 20) (by decide +kernel), List.mem_of_getElem? (i := 463) (by decide +kernel), List.mem_of_getElem? (i := 464) (by decide +kernel)⟩
theorem lw_p53 : lw_okq (⟨"PhrasePool$State", "markEndings", "(I)V"⟩, 5) := ⟨⟨by decide +kernel, by decide +kernel⟩, List.mem_of_getElem? (i := 20) (by decide +kernel), List.mem_of_getElem? (i := 472) (by decide +kernel), List.mem_of_getElem? (i := 473) (by decide +kernel)⟩
theorem lw_p54 : lw_okq (⟨"PhrasePool$State", "hasMarkedParent", "(I)Z"⟩, 5) := ⟨⟨by decide +kernel, by decide +kernel⟩, List.mem_of_getElem? (i := 20) (by decide +kernel), List.mem_of_getElem? (i := 476) (by decide +kernel), List.mem_of_getElem? (i := 477) (by decide +kernel)⟩
theorem lw_p55 : lw_okq (⟨"PhrasePool$State", "payBackMarked", "()V"⟩, 5) := ⟨⟨by decide +kernel, by decide +kernel⟩, List.mem_of_getElem? (i := 20) (by decide +kernel), List.mem_of_getElem? (i := 481) (by decide +kernel), List.mem_of_getElem? (i := 482) (by decide +kernel)⟩
theorem lw_p56 : lw_okq (⟨"PhrasePool$State", "isOwed", "(I)Z"⟩, 5) := ⟨⟨by decide +kernel, by decide +kernel⟩, List.mem_of_getElem? (i := 20) (by decide +kernel), List.mem_of_getElem? (i := 485) (by decide +kernel), List.mem_of_getElem? (i := 486) (by decide +kernel)⟩
theorem lw_p57 : lw_okq (⟨"PhrasePool$State", "endMarked", "()I"⟩, 5) := ⟨⟨by decide +kernel, by decide +kernel⟩, List.mem_of_getElem? (i := 20) (by decide +kernel), List.mem_of_getElem? (i := 489) (by decide +kernel), List.mem_of_getElem? (i := 490) (by decide +kernel)⟩
theorem lw_p58 : lw_okq (⟨"PhrasePool$State", "owedForMarked", "()I"⟩, 5) := ⟨⟨by decide +kernel, by decide +kernel⟩, List.mem_of_getElem? (i := 20) (by decide +kernel), List.mem_of_getElem? (i := 497) (by decide +kernel), List.mem_of_getElem? (i := 498) (by decide +kernel)⟩
theorem lw_p59 : lw_okq (⟨"PhrasePool$State", "moveTick", "(I)I"⟩, 5) := ⟨⟨by decide +kernel, by decide +kernel⟩, List.mem_of_getElem? (i := 20) (by decide +kernel), List.mem_of_getElem? (i := 506) (by decide +kernel), List.mem_of_getElem? (i := 507) (by decide +kernel)⟩
theorem lw_p60 : lw_okq (⟨"PhrasePool", "findWays", "(I)V"⟩, 5) := ⟨⟨by decide +kernel, by decide +kernel⟩, List.mem_of_getElem? (i := 12) (by decide +kernel), List.mem_of_getElem? (i := 514) (by decide +kernel), List.mem_of_getElem? (i := 515) (by decide +kernel)⟩
theorem lw_p61 : lw_okq (⟨"PhrasePool$Ways", "start", "(I)V"⟩, 5) := ⟨⟨by decide +kernel, by decide +kernel⟩, List.mem_of_getElem? (i := 113) (by decide +kernel), List.mem_of_getElem? (i := 518) (by decide +kernel), List.mem_of_getElem? (i := 519) (by decide +kernel)⟩
theorem lw_p62 : lw_okq (⟨"PhrasePool$Ways", "open", "(I)V"⟩, 5) := ⟨⟨by decide +kernel, by decide +kernel⟩, List.mem_of_getElem? (i := 113) (by decide +kernel), List.mem_of_getElem? (i := 522) (by decide +kernel), List.mem_of_getElem? (i := 523) (by decide +kernel)⟩
theorem lw_p63 : lw_okq (⟨"PhrasePool$Ways", "offer", "(IIII)V"⟩, 5) := ⟨⟨by decide +kernel, by decide +kernel⟩, List.mem_of_getElem? (i := 113) (by decide +kernel), List.mem_of_getElem? (i := 529) (by decide +kernel), List.mem_of_getElem? (i := 530) (by decide +kernel)⟩
def lw_privs_4 : List (MethodName × Nat) := [(⟨"PhrasePool$State", "startNote", "(III)I"⟩, 5), (⟨"PhrasePool$State", "splitFee", "(I)V"⟩, 5), (⟨"PhrasePool$State", "parentOf", "(I)I"⟩, 5), (⟨"PhrasePool$State", "moveMoney", "(II)V"⟩, 5), (⟨"PhrasePool$State", "hasNote", "(I)Z"⟩, 5), (⟨"PhrasePool$State", "markEndings", "(I)V"⟩, 5), (⟨"PhrasePool$State", "hasMarkedParent", "(I)Z"⟩, 5), (⟨"PhrasePool$State", "payBackMarked", "()V"⟩, 5), (⟨"PhrasePool$State", "isOwed", "(I)Z"⟩, 5), (⟨"PhrasePool$State", "endMarked", "()I"⟩, 5), (⟨"PhrasePool$State", "owedForMarked", "()I"⟩, 5), (⟨"PhrasePool$State", "moveTick", "(I)I"⟩, 5), (⟨"PhrasePool", "findWays", "(I)V"⟩, 5), (⟨"PhrasePool$Ways", "start", "(I)V"⟩, 5), (⟨"PhrasePool$Ways", "open", "(I)V"⟩, 5), (⟨"PhrasePool$Ways", "offer", "(IIII)V"⟩, 5)]
theorem lw_r4 : ∀ q ∈ lw_privs_4, lw_okq q := List.forall_mem_cons.mpr ⟨lw_p48, List.forall_mem_cons.mpr ⟨lw_p49, List.forall_mem_cons.mpr ⟨lw_p50, List.forall_mem_cons.mpr ⟨lw_p51, List.forall_mem_cons.mpr ⟨lw_p52, List.forall_mem_cons.mpr ⟨lw_p53, List.forall_mem_cons.mpr ⟨lw_p54, List.forall_mem_cons.mpr ⟨lw_p55, List.forall_mem_cons.mpr ⟨lw_p56, List.forall_mem_cons.mpr ⟨lw_p57, List.forall_mem_cons.mpr ⟨lw_p58, List.forall_mem_cons.mpr ⟨lw_p59, List.forall_mem_cons.mpr ⟨lw_p60, List.forall_mem_cons.mpr ⟨lw_p61, List.forall_mem_cons.mpr ⟨lw_p62, List.forall_mem_cons.mpr ⟨lw_p63, fun _ h => absurd h List.not_mem_nil⟩⟩⟩⟩⟩⟩⟩⟩⟩⟩⟩⟩⟩⟩⟩⟩
theorem lw_p64 : lw_okq (⟨"PhrasePool$Ways", "bestCost", "()I"⟩, 5) := ⟨⟨by decide +kernel, by decide +kernel⟩, List.mem_of_getElem? (i := 113) (by decide +kernel), List.mem_of_getElem? (i := 533) (by decide +kernel), List.mem_of_getElem? (i := 534) (by decide +kernel)⟩
theorem lw_p65 : lw_okq (⟨"PhrasePool$Ways", "pieceAt", "(I)I"⟩, 5) := ⟨⟨by decide +kernel, by decide +kernel⟩, List.mem_of_getElem? (i := 113) (by decide +kernel), List.mem_of_getElem? (i := 541) (by decide +kernel), List.mem_of_getElem? (i := 542) (by decide +kernel)⟩
theorem lw_p66 : lw_okq (⟨"PhrasePool$Text", "append", "(I)I"⟩, 2) := ⟨⟨by decide +kernel, by decide +kernel⟩, List.mem_of_getElem? (i := 97) (by decide +kernel), List.mem_of_getElem? (i := 549) (by decide +kernel), List.mem_of_getElem? (i := 550) (by decide +kernel)⟩
theorem lw_p67 : lw_okq (⟨"PhrasePool$Text", "empty", "()I"⟩, 2) := ⟨⟨by decide +kernel, by decide +kernel⟩, List.mem_of_getElem? (i := 97) (by decide +kernel), List.mem_of_getElem? (i := 557) (by decide +kernel), List.mem_of_getElem? (i := 558) (by decide +kernel)⟩
theorem lw_p68 : lw_okq (⟨"PhrasePool$History", "restoreInto", "(LPhrasePool$State;)I"⟩, 3) := ⟨⟨by decide +kernel, by decide +kernel⟩, List.mem_of_getElem? (i := 79) (by decide +kernel), List.mem_of_getElem? (i := 570) (by decide +kernel), List.mem_of_getElem? (i := 571) (by decide +kernel)⟩
theorem lw_p69 : lw_okq (⟨"PhrasePool$State", "copyFrom", "([I)V"⟩, 5) := ⟨⟨by decide +kernel, by decide +kernel⟩, List.mem_of_getElem? (i := 20) (by decide +kernel), List.mem_of_getElem? (i := 574) (by decide +kernel), List.mem_of_getElem? (i := 575) (by decide +kernel)⟩
theorem lw_p70 : lw_okq (⟨"PhrasePool", "hashPhrase", "(JI)J"⟩, 5) := ⟨⟨by decide +kernel, by decide +kernel⟩, List.mem_of_getElem? (i := 12) (by decide +kernel), List.mem_of_getElem? (i := 584) (by decide +kernel), List.mem_of_getElem? (i := 585) (by decide +kernel)⟩
theorem lw_p71 : lw_okq (⟨"PhrasePoolModel", "records", "()V"⟩, 14) := ⟨⟨by decide +kernel, by decide +kernel⟩, List.mem_of_getElem? (i := 588) (by decide +kernel), List.mem_of_getElem? (i := 642) (by decide +kernel), List.mem_of_getElem? (i := 643) (by decide +kernel)⟩
theorem lw_p72 : lw_okq (⟨"PhrasePoolModel", "copies", "(II)V"⟩, 14) := ⟨⟨by decide +kernel, by decide +kernel⟩, List.mem_of_getElem? (i := 588) (by decide +kernel), List.mem_of_getElem? (i := 646) (by decide +kernel), List.mem_of_getElem? (i := 647) (by decide +kernel)⟩
theorem lw_p73 : lw_okq (⟨"PhrasePoolModel", "isMember", "(I)Z"⟩, 14) := ⟨⟨by decide +kernel, by decide +kernel⟩, List.mem_of_getElem? (i := 588) (by decide +kernel), List.mem_of_getElem? (i := 654) (by decide +kernel), List.mem_of_getElem? (i := 655) (by decide +kernel)⟩
theorem lw_p74 : lw_okq (⟨"PhrasePoolModel", "price", "(I)I"⟩, 14) := ⟨⟨by decide +kernel, by decide +kernel⟩, List.mem_of_getElem? (i := 588) (by decide +kernel), List.mem_of_getElem? (i := 663) (by decide +kernel), List.mem_of_getElem? (i := 664) (by decide +kernel)⟩
theorem lw_p75 : lw_okq (⟨"PhrasePoolModel", "counted", "(I)I"⟩, 14) := ⟨⟨by decide +kernel, by decide +kernel⟩, List.mem_of_getElem? (i := 588) (by decide +kernel), List.mem_of_getElem? (i := 675) (by decide +kernel), List.mem_of_getElem? (i := 676) (by decide +kernel)⟩
theorem lw_p76 : lw_okq (⟨"PhrasePoolModel", "live", "()I"⟩, 14) := ⟨⟨by decide +kernel, by decide +kernel⟩, List.mem_of_getElem? (i := 588) (by decide +kernel), List.mem_of_getElem? (i := 679) (by decide +kernel), List.mem_of_getElem? (i := 680) (by decide +kernel)⟩
theorem lw_p77 : lw_okq (⟨"PhrasePoolModel", "of", "(II)I"⟩, 14) := ⟨⟨by decide +kernel, by decide +kernel⟩, List.mem_of_getElem? (i := 588) (by decide +kernel), List.mem_of_getElem? (i := 683) (by decide +kernel), List.mem_of_getElem? (i := 684) (by decide +kernel)⟩
theorem lw_p78 : lw_okq (⟨"PhrasePoolModel", "paidBack", "()I"⟩, 14) := ⟨⟨by decide +kernel, by decide +kernel⟩, List.mem_of_getElem? (i := 588) (by decide +kernel), List.mem_of_getElem? (i := 687) (by decide +kernel), List.mem_of_getElem? (i := 688) (by decide +kernel)⟩
theorem lw_p79 : lw_okq (⟨"PhrasePoolModel", "ofNote", "(II)I"⟩, 14) := ⟨⟨by decide +kernel, by decide +kernel⟩, List.mem_of_getElem? (i := 588) (by decide +kernel), List.mem_of_getElem? (i := 691) (by decide +kernel), List.mem_of_getElem? (i := 692) (by decide +kernel)⟩
def lw_privs_5 : List (MethodName × Nat) := [(⟨"PhrasePool$Ways", "bestCost", "()I"⟩, 5), (⟨"PhrasePool$Ways", "pieceAt", "(I)I"⟩, 5), (⟨"PhrasePool$Text", "append", "(I)I"⟩, 2), (⟨"PhrasePool$Text", "empty", "()I"⟩, 2), (⟨"PhrasePool$History", "restoreInto", "(LPhrasePool$State;)I"⟩, 3), (⟨"PhrasePool$State", "copyFrom", "([I)V"⟩, 5), (⟨"PhrasePool", "hashPhrase", "(JI)J"⟩, 5), (⟨"PhrasePoolModel", "records", "()V"⟩, 14), (⟨"PhrasePoolModel", "copies", "(II)V"⟩, 14), (⟨"PhrasePoolModel", "isMember", "(I)Z"⟩, 14), (⟨"PhrasePoolModel", "price", "(I)I"⟩, 14), (⟨"PhrasePoolModel", "counted", "(I)I"⟩, 14), (⟨"PhrasePoolModel", "live", "()I"⟩, 14), (⟨"PhrasePoolModel", "of", "(II)I"⟩, 14), (⟨"PhrasePoolModel", "paidBack", "()I"⟩, 14), (⟨"PhrasePoolModel", "ofNote", "(II)I"⟩, 14)]
theorem lw_r5 : ∀ q ∈ lw_privs_5, lw_okq q := List.forall_mem_cons.mpr ⟨lw_p64, List.forall_mem_cons.mpr ⟨lw_p65, List.forall_mem_cons.mpr ⟨lw_p66, List.forall_mem_cons.mpr ⟨lw_p67, List.forall_mem_cons.mpr ⟨lw_p68, List.forall_mem_cons.mpr ⟨lw_p69, List.forall_mem_cons.mpr ⟨lw_p70, List.forall_mem_cons.mpr ⟨lw_p71, List.forall_mem_cons.mpr ⟨lw_p72, List.forall_mem_cons.mpr ⟨lw_p73, List.forall_mem_cons.mpr ⟨lw_p74, List.forall_mem_cons.mpr ⟨lw_p75, List.forall_mem_cons.mpr ⟨lw_p76, List.forall_mem_cons.mpr ⟨lw_p77, List.forall_mem_cons.mpr ⟨lw_p78, List.forall_mem_cons.mpr ⟨lw_p79, fun _ h => absurd h List.not_mem_nil⟩⟩⟩⟩⟩⟩⟩⟩⟩⟩⟩⟩⟩⟩⟩⟩
theorem lw_p80 : lw_okq (⟨"PhrasePoolModel", "allConflicts", "()I"⟩, 14) := ⟨⟨by decide +kernel, by decide +kernel⟩, List.mem_of_getElem? (i := 588) (by decide +kernel), List.mem_of_getElem? (i := 695) (by decide +kernel), List.mem_of_getElem? (i := 696) (by decide +kernel)⟩
theorem lw_p81 : lw_okq (⟨"PhrasePoolModel", "conflicts", "(I)I"⟩, 14) := ⟨⟨by decide +kernel, by decide +kernel⟩, List.mem_of_getElem? (i := 588) (by decide +kernel), List.mem_of_getElem? (i := 699) (by decide +kernel), List.mem_of_getElem? (i := 700) (by decide +kernel)⟩
theorem lw_p82 : lw_okq (⟨"PhrasePoolModel", "areInConflict", "(II)Z"⟩, 14) := ⟨⟨by decide +kernel, by decide +kernel⟩, List.mem_of_getElem? (i := 588) (by decide +kernel), List.mem_of_getElem? (i := 703) (by decide +kernel), List.mem_of_getElem? (i := 704) (by decide +kernel)⟩
theorem lw_p83 : lw_okq (⟨"PhrasePoolModel", "scoreOf", "(II)I"⟩, 14) := ⟨⟨by decide +kernel, by decide +kernel⟩, List.mem_of_getElem? (i := 588) (by decide +kernel), List.mem_of_getElem? (i := 707) (by decide +kernel), List.mem_of_getElem? (i := 708) (by decide +kernel)⟩
theorem lw_p84 : lw_okq (⟨"PhrasePoolModel", "setsOne", "(I)V"⟩, 14) := ⟨⟨by decide +kernel, by decide +kernel⟩, List.mem_of_getElem? (i := 588) (by decide +kernel), List.mem_of_getElem? (i := 711) (by decide +kernel), List.mem_of_getElem? (i := 712) (by decide +kernel)⟩
theorem lw_p85 : lw_okq (⟨"PhrasePoolModel", "setsOther", "(I)V"⟩, 14) := ⟨⟨by decide +kernel, by decide +kernel⟩, List.mem_of_getElem? (i := 588) (by decide +kernel), List.mem_of_getElem? (i := 715) (by decide +kernel), List.mem_of_getElem? (i := 716) (by decide +kernel)⟩
theorem lw_p86 : lw_okq (⟨"PhrasePoolModel", "scoreNow", "()I"⟩, 14) := ⟨⟨by decide +kernel, by decide +kernel⟩, List.mem_of_getElem? (i := 588) (by decide +kernel), List.mem_of_getElem? (i := 719) (by decide +kernel), List.mem_of_getElem? (i := 720) (by decide +kernel)⟩
theorem lw_p87 : lw_okq (⟨"PhrasePoolModel", "memberNow", "(II)I"⟩, 14) := ⟨⟨by decide +kernel, by decide +kernel⟩, List.mem_of_getElem? (i := 588) (by decide +kernel), List.mem_of_getElem? (i := 730) (by decide +kernel), List.mem_of_getElem? (i := 731) (by decide +kernel)⟩
theorem lw_p88 : lw_okq (⟨"PhrasePoolModel", "isPhrase", "(I)Z"⟩, 14) := ⟨⟨by decide +kernel, by decide +kernel⟩, List.mem_of_getElem? (i := 588) (by decide +kernel), List.mem_of_getElem? (i := 739) (by decide +kernel), List.mem_of_getElem? (i := 740) (by decide +kernel)⟩
theorem lw_p89 : lw_okq (⟨"PhrasePoolModel", "setsText", "()V"⟩, 14) := ⟨⟨by decide +kernel, by decide +kernel⟩, List.mem_of_getElem? (i := 588) (by decide +kernel), List.mem_of_getElem? (i := 748) (by decide +kernel), List.mem_of_getElem? (i := 749) (by decide +kernel)⟩
theorem lw_p90 : lw_okq (⟨"PhrasePoolModel", "gives", "(II)Z"⟩, 14) := ⟨⟨by decide +kernel, by decide +kernel⟩, List.mem_of_getElem? (i := 588) (by decide +kernel), List.mem_of_getElem? (i := 768) (by decide +kernel), List.mem_of_getElem? (i := 769) (by decide +kernel)⟩
theorem lw_p91 : lw_okq (⟨"PhrasePoolModel", "textScore", "(I)I"⟩, 14) := ⟨⟨by decide +kernel, by decide +kernel⟩, List.mem_of_getElem? (i := 588) (by decide +kernel), List.mem_of_getElem? (i := 772) (by decide +kernel), List.mem_of_getElem? (i := 773) (by decide +kernel)⟩
theorem lw_p92 : lw_okq (⟨"PhrasePoolModel", "found", "()I"⟩, 14) := ⟨⟨by decide +kernel, by decide +kernel⟩, List.mem_of_getElem? (i := 588) (by decide +kernel), List.mem_of_getElem? (i := 780) (by decide +kernel), List.mem_of_getElem? (i := 781) (by decide +kernel)⟩
theorem lw_p93 : lw_okq (⟨"PhrasePoolModel", "feeOf", "(III)I"⟩, 14) := ⟨⟨by decide +kernel, by decide +kernel⟩, List.mem_of_getElem? (i := 588) (by decide +kernel), List.mem_of_getElem? (i := 792) (by decide +kernel), List.mem_of_getElem? (i := 793) (by decide +kernel)⟩
theorem lw_p94 : lw_okq (⟨"PhrasePoolModel", "pays", "(II)V"⟩, 14) := ⟨⟨by decide +kernel, by decide +kernel⟩, List.mem_of_getElem? (i := 588) (by decide +kernel), List.mem_of_getElem? (i := 800) (by decide +kernel), List.mem_of_getElem? (i := 801) (by decide +kernel)⟩
theorem lw_p95 : lw_okq (⟨"PhrasePoolModel", "ends", "(I)I"⟩, 14) := ⟨⟨by decide +kernel, by decide +kernel⟩, List.mem_of_getElem? (i := 588) (by decide +kernel), List.mem_of_getElem? (i := 812) (by decide +kernel), List.mem_of_getElem? (i := 813) (by decide +kernel)⟩
def lw_privs_6 : List (MethodName × Nat) := [(⟨"PhrasePoolModel", "allConflicts", "()I"⟩, 14), (⟨"PhrasePoolModel", "conflicts", "(I)I"⟩, 14), (⟨"PhrasePoolModel", "areInConflict", "(II)Z"⟩, 14), (⟨"PhrasePoolModel", "scoreOf", "(II)I"⟩, 14), (⟨"PhrasePoolModel", "setsOne", "(I)V"⟩, 14), (⟨"PhrasePoolModel", "setsOther", "(I)V"⟩, 14), (⟨"PhrasePoolModel", "scoreNow", "()I"⟩, 14), (⟨"PhrasePoolModel", "memberNow", "(II)I"⟩, 14), (⟨"PhrasePoolModel", "isPhrase", "(I)Z"⟩, 14), (⟨"PhrasePoolModel", "setsText", "()V"⟩, 14), (⟨"PhrasePoolModel", "gives", "(II)Z"⟩, 14), (⟨"PhrasePoolModel", "textScore", "(I)I"⟩, 14), (⟨"PhrasePoolModel", "found", "()I"⟩, 14), (⟨"PhrasePoolModel", "feeOf", "(III)I"⟩, 14), (⟨"PhrasePoolModel", "pays", "(II)V"⟩, 14), (⟨"PhrasePoolModel", "ends", "(I)I"⟩, 14)]
theorem lw_r6 : ∀ q ∈ lw_privs_6, lw_okq q := List.forall_mem_cons.mpr ⟨lw_p80, List.forall_mem_cons.mpr ⟨lw_p81, List.forall_mem_cons.mpr ⟨lw_p82, List.forall_mem_cons.mpr ⟨lw_p83, List.forall_mem_cons.mpr ⟨lw_p84, List.forall_mem_cons.mpr ⟨lw_p85, List.forall_mem_cons.mpr ⟨lw_p86, List.forall_mem_cons.mpr ⟨lw_p87, List.forall_mem_cons.mpr ⟨lw_p88, List.forall_mem_cons.mpr ⟨lw_p89, List.forall_mem_cons.mpr ⟨lw_p90, List.forall_mem_cons.mpr ⟨lw_p91, List.forall_mem_cons.mpr ⟨lw_p92, List.forall_mem_cons.mpr ⟨lw_p93, List.forall_mem_cons.mpr ⟨lw_p94, List.forall_mem_cons.mpr ⟨lw_p95, fun _ h => absurd h List.not_mem_nil⟩⟩⟩⟩⟩⟩⟩⟩⟩⟩⟩⟩⟩⟩⟩⟩
theorem lw_p96 : lw_okq (⟨"PhrasePoolModel", "goesBack", "(I)Z"⟩, 14) := ⟨⟨by decide +kernel, by decide +kernel⟩, List.mem_of_getElem? (i := 588) (by decide +kernel), List.mem_of_getElem? (i := 816) (by decide +kernel), List.mem_of_getElem? (i := 817) (by decide +kernel)⟩
theorem lw_p97 : lw_okq (⟨"PhrasePoolModel", "composes", "(I)V"⟩, 14) := ⟨⟨by decide +kernel, by decide +kernel⟩, List.mem_of_getElem? (i := 588) (by decide +kernel), List.mem_of_getElem? (i := 832) (by decide +kernel), List.mem_of_getElem? (i := 833) (by decide +kernel)⟩
theorem lw_p98 : lw_okq (⟨"PhrasePoolModel", "standsAt", "(II)Z"⟩, 14) := ⟨⟨by decide +kernel, by decide +kernel⟩, List.mem_of_getElem? (i := 588) (by decide +kernel), List.mem_of_getElem? (i := 836) (by decide +kernel), List.mem_of_getElem? (i := 837) (by decide +kernel)⟩
theorem lw_p99 : lw_okq (⟨"PhrasePoolModel", "adds", "(J)V"⟩, 14) := ⟨⟨by decide +kernel, by decide +kernel⟩, List.mem_of_getElem? (i := 588) (by decide +kernel), List.mem_of_getElem? (i := 862) (by decide +kernel), List.mem_of_getElem? (i := 863) (by decide +kernel)⟩
def lw_privs_7 : List (MethodName × Nat) := [(⟨"PhrasePoolModel", "goesBack", "(I)Z"⟩, 14), (⟨"PhrasePoolModel", "composes", "(I)V"⟩, 14), (⟨"PhrasePoolModel", "standsAt", "(II)Z"⟩, 14), (⟨"PhrasePoolModel", "adds", "(J)V"⟩, 14)]
theorem lw_r7 : ∀ q ∈ lw_privs_7, lw_okq q := List.forall_mem_cons.mpr ⟨lw_p96, List.forall_mem_cons.mpr ⟨lw_p97, List.forall_mem_cons.mpr ⟨lw_p98, List.forall_mem_cons.mpr ⟨lw_p99, fun _ h => absurd h List.not_mem_nil⟩⟩⟩⟩
def lw_privs : List (MethodName × Nat) := lw_privs_1 ++ (lw_privs_2 ++ (lw_privs_3 ++ (lw_privs_4 ++ (lw_privs_5 ++ (lw_privs_6 ++ (lw_privs_7))))))
def lw_tbl : List Cond := k2_sels lw_privs ++ tables_1
theorem lw_privs_ok : ∀ q ∈ lw_privs, lw_okq q := by
  show ∀ q ∈ lw_privs_1 ++ (lw_privs_2 ++ (lw_privs_3 ++ (lw_privs_4 ++ (lw_privs_5 ++ (lw_privs_6 ++ (lw_privs_7)))))), lw_okq q
  exact List.forall_mem_append.mpr ⟨lw_r1, List.forall_mem_append.mpr ⟨lw_r2, List.forall_mem_append.mpr ⟨lw_r3, List.forall_mem_append.mpr ⟨lw_r4, List.forall_mem_append.mpr ⟨lw_r5, List.forall_mem_append.mpr ⟨lw_r6, lw_r7⟩⟩⟩⟩⟩⟩
-- ===== end of PART A; names: by program out of claim/NAMES.whole.lean.txt =====
/-! ===== BEGIN new T[n][m]: the outer array a place, the inner ones among the pooled ===== -/
/-- f, but v at every address of l -/
def vr_up {α : Type} (f : Nat → α) (l : List Nat) (v : α) : Nat → α := fun a => if a ∈ l then v else f a
theorem vr_up_in {α : Type} {f : Nat → α} {l : List Nat} {v : α} {a : Nat} (h : a ∈ l) : vr_up f l v a = v := if_pos h
theorem vr_up_ne {α : Type} {f : Nat → α} {l : List Nat} {v : α} {a : Nat} (h : a ∉ l) : vr_up f l v a = f a := if_neg h
theorem vr_rows {L l : List Nat} {f : Nat → va_E} {e : va_E} (h : ∀ a, a ∈ l → a ∉ L) : va_pl L f ++ l.map (fun a => (a, e)) = va_pl (L ++ l) (vr_up f l e) := by
  unfold va_pl
  rw [List.map_append]
  congr 1
  · apply List.map_congr_left
    intro a ha
    rw [vr_up_ne (fun q => h a q ha)]
  · apply List.map_congr_left
    intro a ha
    rw [vr_up_in ha]
theorem vr_lay {X rows : va_W} {x : Nat × va_E} {pl : va_W} {D : va_G} {cl : List vw_C} {H : Heap} (hP : va_P D cl (((X ++ pl) ++ [x]) ++ rows) H) : va_P D cl ((X ++ [x]) ++ (pl ++ rows)) H := by
  rw [List.append_assoc (X ++ pl)] at hP
  have h := va_P.swap hP
  rw [← List.append_assoc X] at h
  have h2 := va_P.swap h
  rw [List.append_assoc (X ++ [x])] at h2
  exact h2
theorem vr_layD {X rows : va_W} {x : Nat × va_E} {pl : va_W} {A : Nat → Prop} (hD : va_D A (((X ++ pl) ++ [x]) ++ rows)) : va_D A ((X ++ [x]) ++ (pl ++ rows)) := by
  rw [List.append_assoc (X ++ pl)] at hD
  have h := va_D.swap hD
  rw [← List.append_assoc X] at h
  have h2 := va_D.swap h
  rw [List.append_assoc (X ++ [x])] at h2
  exact h2
theorem vr_outer (c : ClassId) (N h0 : Nat) : ∀ i : Nat, Jvm.Free.Multi.outerC c N h0 i = arrV c N (fun j => va_rf (if j < i then some (h0 + 1 + j) else none))
  | 0 => by
    show ({ cls := c, slots := Array.replicate N .null, vm := .none } : Cell) = _
    rw [arrV_new]
    refine congrArg (arrV c N) (funext fun j => ?_)
    simp [va_rf]
  | i + 1 => by
    show (Jvm.Free.Multi.outerC c N h0 i).setSlot i (.ref (h0 + 1 + i)) = _
    rw [vr_outer c N h0 i, arrV_store]
    refine congrArg (arrV c N) (funext fun j => ?_)
    by_cases e : j = i
    · subst e
      simp [updV, va_rf]
    · by_cases h : j < i
      · simp [updV, e, h, Nat.lt_succ_of_lt h]
      · simp [updV, e, h, show ¬ j < i + 1 by omega]
section VGM
variable {p : Program} {l : Launch} {e : Env} {R : Room} {s : State} {m : MethodId} {args : Array Value} {below : List Frame} {meth : Method} {c : Code} {H : Heap} {locs : List Loc} {cells slots : Nat} {Q : State → Prop}
variable {cc : ByteArray} {pc : Nat} {ls : Array Slot} {rest : List Value} {D : va_G} {cl : List vw_C} {A : Nat → Prop} {a : Nat} {tys : List (ClassId × FieldType)} {ws : va_W} {H0 : Heap}
theorem va_mna {X : va_W} {L : List Nat} {f : Nat → va_E} {cc : ByteArray} (hexec : p.tables.exec = Jvm.exec) (hb : c.code = cc) {own : String} {index : Nat} {ty : FieldType} {cy : ClassId} (hown : s.vm.findClass own = some m.cls) (hclink : (Cond.classLink own index ("[" ++ (FieldType.array ty).toString)).before args s = true) (hover : (Cond.arrayOver (.array ty)).before args s = true) (harr : (Cond.arrayClass ty).before args s = true) (hcy : s.vm.findClass (FieldType.array ty).toString = some cy)
    (hK : va_K D cl tys s) (hP : va_P D cl (X ++ va_pl L f) H) (hD : va_D A (X ++ va_pl L f)) (hS : va_S A H0 H locs) (hA : ∀ q, H0.size ≤ q → A q) {n k : Int32} {N' K' : Nat} {z : vp_A} (hn : ¬ n < 0) (hk : ¬ k < 0) (hN : n.toNatClampNeg = N') (hM : k.toNatClampNeg = K')
    (hb1 : N' * 4 ≤ 536870912) (hb2 : K' * componentBytes ty ≤ 536870912) (hb3 : K' ≤ 536870912) (hdf : fits ty (defaultValue ty) = true) (hdd : (defaultValue ty).isDefault = true) (hcells : cells + (1 + N') ≤ R.cells) (hslots : slots + (N' + N' * K') ≤ R.slots) (hz : ∀ c : ClassId, Jvm.Free.Multi.innerC c K' (defaultValue ty) = vp_cell c z) (hdg : decode cc pc = .ok (.multianewarray index 2, 4))
    (kk : ∀ (q : Nat) (r : Nat → Nat) (cA : ClassId) (H1 : Heap), (∀ i j : Nat, i < N' → j < N' → r i = r j → i = j) → (∀ i : Nat, i < N' → r i ∉ L) → va_K D cl (tys ++ [(cA, .array ty)]) s →
      va_P D cl ((X ++ [(q, .inl (cA, N', .inr (.inr (.inr (.inr (fun i => if i < N' then some (r i) else none))))))]) ++ va_pl (L ++ (List.range N').map r) (vr_up f ((List.range N').map r) (.inl (cy, z)))) H1 → va_D A ((X ++ [(q, .inl (cA, N', .inr (.inr (.inr (.inr (fun i => if i < N' then some (r i) else none))))))]) ++ va_pl (L ++ (List.range N').map r) (vr_up f ((List.range N').map r) (.inl (cy, z)))) → va_S A H0 H1 locs →
      W p l e R s m args below meth c H1 locs (cells + 1 + N') (slots + N' + N' * K') Q (F0 m (pc + 4) ls (.ref q :: rest))) : W p l e R s m args below meth c H locs cells slots Q (F0 m pc ls (.int k :: .int n :: rest)) := by
  subst hN
  subst hM
  intro T hT Xs
  obtain ⟨vm₁, cA, comp, -, fA, fC, hO, -, X', step⟩ := Xs.multianewarray2F hexec hown hclink hover harr (g := F0 m pc ls (.int k :: .int n :: rest)) rfl (by rw [hb]; exact hdg) rfl hn hk hb1 hb2 hb3 hdf hdd hcells hslots
  have ec : some cy = some comp := hcy.symm.trans fC
  cases ec
  generalize hF : Jvm.Free.Multi.fill (T.setVm vm₁) cA cy n.toNatClampNeg k.toNatClampNeg (defaultValue ty) n.toNatClampNeg = F at X' step
  have hTh : (T.setVm vm₁).heap = H := hT
  obtain ⟨f1, f2, -, -⟩ := Jvm.Free.Multi.fill_facts (T.setVm vm₁) cA cy n.toNatClampNeg k.toNatClampNeg (defaultValue ty) n.toNatClampNeg
  rw [hF, hTh] at f1 f2
  have hold : ∀ x : Nat, x < H.size → F.heap[x]? = H[x]? := fun x hx => by
    have := Jvm.Free.Multi.fill_old (T.setVm vm₁) cA cy n.toNatClampNeg k.toNatClampNeg (defaultValue ty) (a := x) (by rw [hTh]; exact hx) n.toNatClampNeg
    rw [hF, hTh] at this
    exact this
  have hrow : ∀ j : Nat, j < n.toNatClampNeg → F.heap[H.size + 1 + j]? = some (vp_cell cy z) := fun j hj => by
    have := Jvm.Free.Multi.fill_inner (T.setVm vm₁) cA cy n.toNatClampNeg k.toNatClampNeg (defaultValue ty) n.toNatClampNeg j hj
    rw [hF, hTh, hz] at this
    exact this
  have hout : Jvm.Free.Multi.outerC cA n.toNatClampNeg H.size n.toNatClampNeg = vp_cell cA (n.toNatClampNeg, .inr (.inr (.inr (.inr (fun i => if i < n.toNatClampNeg then some (H.size + 1 + i) else none))))) := by
    rw [vp_cell_q]
    exact vr_outer cA n.toNatClampNeg H.size n.toNatClampNeg
  rw [hout] at f2
  have hlt : ∀ a, a ∈ L → a < H.size := fun a ha => by
    obtain ⟨k9, hk9⟩ := va_pl_get (X := X) (f := f) ha
    exact (hP k9 _ hk9).lt
  have hnl : ∀ i : Nat, i < n.toNatClampNeg → H.size + 1 + i ∉ L := fun i _ h => by
    have := hlt _ h
    omega
  have hnm : ∀ a, a ∈ (List.range n.toNatClampNeg).map (fun i => H.size + 1 + i) → a ∉ L := fun a ha h => by
    obtain ⟨i, -, rfl⟩ := List.mem_map.mp ha
    have := hlt _ h
    omega
  have hP0 : va_P D cl (X ++ va_pl L f) F.heap := hP.kept (fun k9 x hx => hold x.1 ((hP k9 x hx).lt))
  have hP1 : va_P D cl ((X ++ va_pl L f) ++ [(H.size, .inl (cA, n.toNatClampNeg, .inr (.inr (.inr (.inr (fun i => if i < n.toNatClampNeg then some (H.size + 1 + i) else none))))))]) F.heap := hP0.app (fun k9 x hx => by
    have h0 : k9 < 1 := (List.getElem?_eq_some_iff.mp hx).1
    rw [show k9 = 0 by omega] at hx
    cases hx
    exact f2)
  have hP2 : va_P D cl (((X ++ va_pl L f) ++ [(H.size, .inl (cA, n.toNatClampNeg, .inr (.inr (.inr (.inr (fun i => if i < n.toNatClampNeg then some (H.size + 1 + i) else none))))))]) ++ ((List.range n.toNatClampNeg).map (fun i => H.size + 1 + i)).map (fun a => (a, .inl (cy, z)))) F.heap := hP1.app (fun k9 x hx => by
    obtain ⟨a, ha, rfl⟩ := List.mem_map.mp (List.mem_of_getElem? hx)
    obtain ⟨i, hi, rfl⟩ := List.mem_map.mp ha
    exact hrow i (List.mem_range.mp hi))
  have hD2 : va_D A (((X ++ va_pl L f) ++ [(H.size, .inl (cA, n.toNatClampNeg, .inr (.inr (.inr (.inr (fun i => if i < n.toNatClampNeg then some (H.size + 1 + i) else none))))))]) ++ ((List.range n.toNatClampNeg).map (fun i => H.size + 1 + i)).map (fun a => (a, .inl (cy, z)))) := by
    have hD1 := hD.push (e := .inl (cA, n.toNatClampNeg, .inr (.inr (.inr (.inr (fun i => if i < n.toNatClampNeg then some (H.size + 1 + i) else none)))))) hP rfl (hA _ hS.1)
    generalize hW1 : (X ++ va_pl L f) ++ [(H.size, .inl (cA, n.toNatClampNeg, .inr (.inr (.inr (.inr (fun i => if i < n.toNatClampNeg then some (H.size + 1 + i) else none))))))] = W1 at hD1 hP1 ⊢
    have hle : ∀ (k9 : Nat) (x : Nat × va_E), W1[k9]? = some x → x.1 ≤ H.size := fun k9 x hx => by
      rw [← hW1] at hx
      by_cases hl : k9 < (X ++ va_pl L f).length
      · rw [List.getElem?_append_left hl] at hx
        exact Nat.le_of_lt ((hP k9 x hx).lt)
      · rw [List.getElem?_append_right (by omega)] at hx
        have h0 : k9 - (X ++ va_pl L f).length < 1 := (List.getElem?_eq_some_iff.mp hx).1
        rw [show k9 - (X ++ va_pl L f).length = 0 by omega] at hx
        cases hx
        exact Nat.le_refl _
    have hr : ∀ (k9 : Nat) (x : Nat × va_E), (((List.range n.toNatClampNeg).map (fun i => H.size + 1 + i)).map (fun a => ((a, .inl (cy, z)) : Nat × va_E)))[k9]? = some x → x.1 = H.size + 1 + k9 := fun k9 x hx => by
      rw [List.getElem?_map, List.getElem?_map] at hx
      by_cases h9 : k9 < n.toNatClampNeg
      · rw [List.getElem?_range h9] at hx
        cases hx
        rfl
      · have hn0 : (List.range n.toNatClampNeg)[k9]? = none := List.getElem?_eq_none (by rw [List.length_range]; omega)
        rw [hn0] at hx
        cases hx
    refine ⟨fun i j x y hi hj hxy => ?_, fun k9 x hx => ?_⟩
    · by_cases h1 : i < W1.length <;> by_cases h2 : j < W1.length
      · rw [List.getElem?_append_left h1] at hi
        rw [List.getElem?_append_left h2] at hj
        exact hD1.1 i j x y hi hj hxy
      · rw [List.getElem?_append_left h1] at hi
        rw [List.getElem?_append_right (by omega)] at hj
        have := hle _ _ hi
        have := hr _ _ hj
        omega
      · rw [List.getElem?_append_right (by omega)] at hi
        rw [List.getElem?_append_left h2] at hj
        have := hle _ _ hj
        have := hr _ _ hi
        omega
      · rw [List.getElem?_append_right (by omega)] at hi hj
        have := hr _ _ hi
        have := hr _ _ hj
        omega
    · by_cases h1 : k9 < W1.length
      · rw [List.getElem?_append_left h1] at hx
        exact hD1.2 k9 x hx
      · rw [List.getElem?_append_right (by omega)] at hx
        have := hr _ _ hx
        exact hA _ (by have := hS.1; omega)
  have hAr : ArrOfT s cA (.array ty) := fun N9 z9 => by
    obtain ⟨-, k9, hk9, cm9, hkk9⟩ := (hO 0 0 0).1
    exact ⟨(fun q hq => by cases hq), k9, hk9, cm9, hkk9⟩
  have hK2 : va_K D cl (tys ++ [(cA, .array ty)]) s := ⟨hK.1, fun k9 x hx => by
    by_cases hl : k9 < tys.length
    · rw [List.getElem?_append_left hl] at hx
      exact hK.2 k9 x hx
    · rw [List.getElem?_append_right (by omega)] at hx
      have h0 : k9 - tys.length < 1 := (List.getElem?_eq_some_iff.mp hx).1
      rw [show k9 - tys.length = 0 by omega] at hx
      cases hx
      exact ⟨hAr, fA⟩⟩
  obtain ⟨t, a1, b1⟩ := kk H.size (fun i => H.size + 1 + i) cA F.heap (fun i j _ _ h => by have h9 : H.size + 1 + i = H.size + 1 + j := h; omega) hnl hK2 (by rw [← vr_rows hnm]; exact vr_lay hP2) (by rw [← vr_rows hnm]; exact vr_layD hD2) ⟨by rw [f1]; have := hS.1; omega, fun x h1 h2 => (hold x (Nat.lt_of_lt_of_le h1 hS.1)).trans (hS.2.1 x h1 h2), hS.2.2⟩ F rfl X'
  refine ⟨t, step t ?_, b1⟩
  have e : T.heap.size = H.size := by rw [hT]
  rw [e]
  exact a1
end VGM
def RX0 : String := "PhrasePool$History"
def TX0 : u_T := fun k => match k with
  | 0 => ("PhrasePool$History", "rows", "[[I", true)
  | 1 => ("PhrasePool$History", "next", "I", false)
  | _ => ("PhrasePool$History", "size", "I", false)
def tyX0 : Nat → FieldType := fun k => match k with
  | 0 => .array (.array .int)
  | 1 => .int
  | _ => .int
abbrev wsX00 : List Cond := u_ws RX0 TX0 3
theorem nmX0 : ∀ a, a < 3 → ∀ b, b < 3 → a ≠ b → (TX0 a).2.1 ≠ (TX0 b).2.1 := by decide +kernel
theorem tyX0_ok : ∀ k, k < 3 → parseFieldDescriptor (TX0 k).2.2.1 = some (tyX0 k) := by decide +kernel
abbrev cX0_init : ByteArray := prog_2_method_1_code
def yX0_init : MethodName := ⟨RX0, "<init>", "()V"⟩
abbrev cX0_keep : ByteArray := prog_2_method_2_code
def yX0_keep : MethodName := ⟨RX0, "keep", "(LPhrasePool$State;)V"⟩
abbrev cX0_restoreInto : ByteArray := prog_2_method_3_code
def yX0_restoreInto : MethodName := ⟨RX0, "restoreInto", "(LPhrasePool$State;)I"⟩
def RX1 : String := "PhrasePool$Sentence"
def TX1 : u_T := fun k => match k with
  | 0 => ("PhrasePool$Sentence", "words", "[I", true)
  | _ => ("PhrasePool$Sentence", "length", "I", false)
def tyX1 : Nat → FieldType := fun k => match k with
  | 0 => .array .int
  | _ => .int
abbrev wsX10 : List Cond := u_ws RX1 TX1 2
theorem nmX1 : ∀ a, a < 2 → ∀ b, b < 2 → a ≠ b → (TX1 a).2.1 ≠ (TX1 b).2.1 := by decide +kernel
theorem tyX1_ok : ∀ k, k < 2 → parseFieldDescriptor (TX1 k).2.2.1 = some (tyX1 k) := by decide +kernel
abbrev cX1_init : ByteArray := prog_3_method_1_code
def yX1_init : MethodName := ⟨RX1, "<init>", "()V"⟩
abbrev cX1_clear : ByteArray := prog_3_method_2_code
def yX1_clear : MethodName := ⟨RX1, "clear", "()V"⟩
abbrev cX1_append : ByteArray := prog_3_method_3_code
def yX1_append : MethodName := ⟨RX1, "append", "(I)V"⟩
def RX2 : String := "PhrasePool$State"
def TX2 : u_T := fun k => match k with
  | 0 => ("PhrasePool$State", "cells", "[I", true)
  | 1 => ("PhrasePool$State", "marked", "[Z", true)
  | 2 => ("PhrasePool$State", "one", "LPhrasePool$Sentence;", true)
  | 3 => ("PhrasePool$State", "other", "LPhrasePool$Sentence;", true)
  | _ => ("PhrasePool$State", "yardstick", "LPhrasePool$Yardstick;", true)
def tyX2 : Nat → FieldType := fun k => match k with
  | 0 => .array .int
  | 1 => .array .boolean
  | 2 => .object "PhrasePool$Sentence"
  | 3 => .object "PhrasePool$Sentence"
  | _ => .object "PhrasePool$Yardstick"
abbrev wsX20 : List Cond := u_ws RX2 TX2 5
theorem nmX2 : ∀ a, a < 5 → ∀ b, b < 5 → a ≠ b → (TX2 a).2.1 ≠ (TX2 b).2.1 := by decide +kernel
theorem tyX2_ok : ∀ k, k < 5 → parseFieldDescriptor (TX2 k).2.2.1 = some (tyX2 k) := by decide +kernel
abbrev cX2_init : ByteArray := prog_4_method_1_code
def yX2_init : MethodName := ⟨RX2, "<init>", "()V"⟩
abbrev cX2_copyTo : ByteArray := prog_4_method_2_code
def yX2_copyTo : MethodName := ⟨RX2, "copyTo", "([I)V"⟩
abbrev cX2_copyFrom : ByteArray := prog_4_method_3_code
def yX2_copyFrom : MethodName := ⟨RX2, "copyFrom", "([I)V"⟩
abbrev cX2_memberCell : ByteArray := prog_4_method_4_code
def yX2_memberCell : MethodName := ⟨RX2, "memberCell", "(II)I"⟩
abbrev cX2_phraseCell : ByteArray := prog_4_method_5_code
def yX2_phraseCell : MethodName := ⟨RX2, "phraseCell", "(II)I"⟩
abbrev cX2_noteCell : ByteArray := prog_4_method_6_code
def yX2_noteCell : MethodName := ⟨RX2, "noteCell", "(II)I"⟩
abbrev cX2_members : ByteArray := prog_4_method_7_code
def yX2_members : MethodName := ⟨RX2, "members", "()I"⟩
abbrev cX2_phrases : ByteArray := prog_4_method_8_code
def yX2_phrases : MethodName := ⟨RX2, "phrases", "()I"⟩
abbrev cX2_notes : ByteArray := prog_4_method_9_code
def yX2_notes : MethodName := ⟨RX2, "notes", "()I"⟩
abbrev cX2_tick : ByteArray := prog_4_method_10_code
def yX2_tick : MethodName := ⟨RX2, "tick", "()I"⟩
abbrev cX2_hasMember : ByteArray := prog_4_method_11_code
def yX2_hasMember : MethodName := ⟨RX2, "hasMember", "(I)Z"⟩
abbrev cX2_hasPhrase : ByteArray := prog_4_method_12_code
def yX2_hasPhrase : MethodName := ⟨RX2, "hasPhrase", "(I)Z"⟩
abbrev cX2_hasNote : ByteArray := prog_4_method_13_code
def yX2_hasNote : MethodName := ⟨RX2, "hasNote", "(I)Z"⟩
abbrev cX2_settingOf : ByteArray := prog_4_method_14_code
def yX2_settingOf : MethodName := ⟨RX2, "settingOf", "(I)I"⟩
abbrev cX2_changeSetting : ByteArray := prog_4_method_15_code
def yX2_changeSetting : MethodName := ⟨RX2, "changeSetting", "(II)V"⟩
abbrev cX2_moveTick : ByteArray := prog_4_method_16_code
def yX2_moveTick : MethodName := ⟨RX2, "moveTick", "(I)I"⟩
abbrev cX2_startMember : ByteArray := prog_4_method_17_code
def yX2_startMember : MethodName := ⟨RX2, "startMember", "()I"⟩
abbrev cX2_priceOf : ByteArray := prog_4_method_18_code
def yX2_priceOf : MethodName := ⟨RX2, "priceOf", "(I)I"⟩
abbrev cX2_changePrice : ByteArray := prog_4_method_19_code
def yX2_changePrice : MethodName := ⟨RX2, "changePrice", "(II)V"⟩
abbrev cX2_memberProperty : ByteArray := prog_4_method_20_code
def yX2_memberProperty : MethodName := ⟨RX2, "memberProperty", "(II)I"⟩
abbrev cX2_countOwned : ByteArray := prog_4_method_21_code
def yX2_countOwned : MethodName := ⟨RX2, "countOwned", "(I)I"⟩
abbrev cX2_countUsesNoted : ByteArray := prog_4_method_22_code
def yX2_countUsesNoted : MethodName := ⟨RX2, "countUsesNoted", "(I)I"⟩
abbrev cX2_sumGot : ByteArray := prog_4_method_23_code
def yX2_sumGot : MethodName := ⟨RX2, "sumGot", "(I)I"⟩
abbrev cX2_countOf : ByteArray := prog_4_method_24_code
def yX2_countOf : MethodName := ⟨RX2, "countOf", "(I)I"⟩
abbrev cX2_countLive : ByteArray := prog_4_method_25_code
def yX2_countLive : MethodName := ⟨RX2, "countLive", "()I"⟩
abbrev cX2_countPaidBack : ByteArray := prog_4_method_26_code
def yX2_countPaidBack : MethodName := ⟨RX2, "countPaidBack", "()I"⟩
abbrev cX2_countConflicts : ByteArray := prog_4_method_27_code
def yX2_countConflicts : MethodName := ⟨RX2, "countConflicts", "()I"⟩
abbrev cX2_startPhrase : ByteArray := prog_4_method_28_code
def yX2_startPhrase : MethodName := ⟨RX2, "startPhrase", "(IIILPhrasePool$Sentence;)I"⟩
abbrev cX2_phraseProperty : ByteArray := prog_4_method_29_code
def yX2_phraseProperty : MethodName := ⟨RX2, "phraseProperty", "(II)I"⟩
abbrev cX2_ownerOf : ByteArray := prog_4_method_30_code
def yX2_ownerOf : MethodName := ⟨RX2, "ownerOf", "(I)I"⟩
abbrev cX2_lengthOf : ByteArray := prog_4_method_31_code
def yX2_lengthOf : MethodName := ⟨RX2, "lengthOf", "(I)I"⟩
abbrev cX2_targetOf : ByteArray := prog_4_method_32_code
def yX2_targetOf : MethodName := ⟨RX2, "targetOf", "(I)I"⟩
abbrev cX2_parentOf : ByteArray := prog_4_method_33_code
def yX2_parentOf : MethodName := ⟨RX2, "parentOf", "(I)I"⟩
abbrev cX2_isLive : ByteArray := prog_4_method_34_code
def yX2_isLive : MethodName := ⟨RX2, "isLive", "(I)Z"⟩
abbrev cX2_usesOf : ByteArray := prog_4_method_35_code
def yX2_usesOf : MethodName := ⟨RX2, "usesOf", "(I)I"⟩
abbrev cX2_wordOf : ByteArray := prog_4_method_36_code
def yX2_wordOf : MethodName := ⟨RX2, "wordOf", "(II)I"⟩
abbrev cX2_readInto : ByteArray := prog_4_method_37_code
def yX2_readInto : MethodName := ⟨RX2, "readInto", "(LPhrasePool$Sentence;I)V"⟩
abbrev cX2_likenessOf : ByteArray := prog_4_method_38_code
def yX2_likenessOf : MethodName := ⟨RX2, "likenessOf", "(II)I"⟩
abbrev cX2_likenessTo : ByteArray := prog_4_method_39_code
def yX2_likenessTo : MethodName := ⟨RX2, "likenessTo", "(LPhrasePool$Sentence;I)I"⟩
abbrev cX2_conflictsOf : ByteArray := prog_4_method_40_code
def yX2_conflictsOf : MethodName := ⟨RX2, "conflictsOf", "(I)I"⟩
abbrev cX2_standsAt : ByteArray := prog_4_method_41_code
def yX2_standsAt : MethodName := ⟨RX2, "standsAt", "(ILPhrasePool$Sentence;I)Z"⟩
abbrev cX2_isLiveAs : ByteArray := prog_4_method_42_code
def yX2_isLiveAs : MethodName := ⟨RX2, "isLiveAs", "(ILPhrasePool$Sentence;)Z"⟩
abbrev cX2_giversOf : ByteArray := prog_4_method_43_code
def yX2_giversOf : MethodName := ⟨RX2, "giversOf", "(ILPhrasePool$Sentence;)I"⟩
abbrev cX2_gives : ByteArray := prog_4_method_44_code
def yX2_gives : MethodName := ⟨RX2, "gives", "(IILPhrasePool$Sentence;)Z"⟩
abbrev cX2_feeFor : ByteArray := prog_4_method_45_code
def yX2_feeFor : MethodName := ⟨RX2, "feeFor", "(III)I"⟩
abbrev cX2_noteProperty : ByteArray := prog_4_method_46_code
def yX2_noteProperty : MethodName := ⟨RX2, "noteProperty", "(II)I"⟩
abbrev cX2_isPaidBack : ByteArray := prog_4_method_47_code
def yX2_isPaidBack : MethodName := ⟨RX2, "isPaidBack", "(I)Z"⟩
abbrev cX2_startNote : ByteArray := prog_4_method_48_code
def yX2_startNote : MethodName := ⟨RX2, "startNote", "(III)I"⟩
abbrev cX2_splitFee : ByteArray := prog_4_method_49_code
def yX2_splitFee : MethodName := ⟨RX2, "splitFee", "(I)V"⟩
abbrev cX2_moveMoney : ByteArray := prog_4_method_50_code
def yX2_moveMoney : MethodName := ⟨RX2, "moveMoney", "(II)V"⟩
abbrev cX2_markEndings : ByteArray := prog_4_method_51_code
def yX2_markEndings : MethodName := ⟨RX2, "markEndings", "(I)V"⟩
abbrev cX2_hasMarkedParent : ByteArray := prog_4_method_52_code
def yX2_hasMarkedParent : MethodName := ⟨RX2, "hasMarkedParent", "(I)Z"⟩
abbrev cX2_endMarked : ByteArray := prog_4_method_53_code
def yX2_endMarked : MethodName := ⟨RX2, "endMarked", "()I"⟩
abbrev cX2_isOwed : ByteArray := prog_4_method_54_code
def yX2_isOwed : MethodName := ⟨RX2, "isOwed", "(I)Z"⟩
abbrev cX2_owedForMarked : ByteArray := prog_4_method_55_code
def yX2_owedForMarked : MethodName := ⟨RX2, "owedForMarked", "()I"⟩
abbrev cX2_payBackMarked : ByteArray := prog_4_method_56_code
def yX2_payBackMarked : MethodName := ⟨RX2, "payBackMarked", "()V"⟩
def RX3 : String := "PhrasePool$Text"
def TX3 : u_T := fun k => match k with
  | 0 => ("PhrasePool$Text", "bytes", "[I", true)
  | _ => ("PhrasePool$Text", "length", "I", false)
def tyX3 : Nat → FieldType := fun k => match k with
  | 0 => .array .int
  | _ => .int
abbrev wsX30 : List Cond := u_ws RX3 TX3 2
theorem nmX3 : ∀ a, a < 2 → ∀ b, b < 2 → a ≠ b → (TX3 a).2.1 ≠ (TX3 b).2.1 := by decide +kernel
theorem tyX3_ok : ∀ k, k < 2 → parseFieldDescriptor (TX3 k).2.2.1 = some (tyX3 k) := by decide +kernel
abbrev cX3_init : ByteArray := prog_5_method_1_code
def yX3_init : MethodName := ⟨RX3, "<init>", "()V"⟩
abbrev cX3_isLetter : ByteArray := prog_5_method_2_code
def yX3_isLetter : MethodName := ⟨RX3, "isLetter", "(I)Z"⟩
abbrev cX3_append : ByteArray := prog_5_method_3_code
def yX3_append : MethodName := ⟨RX3, "append", "(I)I"⟩
abbrev cX3_empty : ByteArray := prog_5_method_4_code
def yX3_empty : MethodName := ⟨RX3, "empty", "()I"⟩
abbrev cX3_fault : ByteArray := prog_5_method_5_code
def yX3_fault : MethodName := ⟨RX3, "fault", "()I"⟩
abbrev cX3_isFaulty : ByteArray := prog_5_method_6_code
def yX3_isFaulty : MethodName := ⟨RX3, "isFaulty", "()Z"⟩
abbrev cX3_readInto : ByteArray := prog_5_method_7_code
def yX3_readInto : MethodName := ⟨RX3, "readInto", "(LPhrasePool$Sentence;)V"⟩
def RX4 : String := "PhrasePool$Ways"
def TX4 : u_T := fun k => match k with
  | 0 => ("PhrasePool$Ways", "costs", "[I", true)
  | 1 => ("PhrasePool$Ways", "lengths", "[I", true)
  | 2 => ("PhrasePool$Ways", "firsts", "[I", true)
  | 3 => ("PhrasePool$Ways", "nexts", "[I", true)
  | _ => ("PhrasePool$Ways", "end", "I", false)
def tyX4 : Nat → FieldType := fun k => match k with
  | 0 => .array .int
  | 1 => .array .int
  | 2 => .array .int
  | 3 => .array .int
  | _ => .int
abbrev wsX40 : List Cond := u_ws RX4 TX4 5
theorem nmX4 : ∀ a, a < 5 → ∀ b, b < 5 → a ≠ b → (TX4 a).2.1 ≠ (TX4 b).2.1 := by decide +kernel
theorem tyX4_ok : ∀ k, k < 5 → parseFieldDescriptor (TX4 k).2.2.1 = some (tyX4 k) := by decide +kernel
abbrev cX4_init : ByteArray := prog_6_method_1_code
def yX4_init : MethodName := ⟨RX4, "<init>", "()V"⟩
abbrev cX4_start : ByteArray := prog_6_method_2_code
def yX4_start : MethodName := ⟨RX4, "start", "(I)V"⟩
abbrev cX4_open : ByteArray := prog_6_method_3_code
def yX4_open : MethodName := ⟨RX4, "open", "(I)V"⟩
abbrev cX4_offer : ByteArray := prog_6_method_4_code
def yX4_offer : MethodName := ⟨RX4, "offer", "(IIII)V"⟩
abbrev cX4_bestCost : ByteArray := prog_6_method_5_code
def yX4_bestCost : MethodName := ⟨RX4, "bestCost", "()I"⟩
abbrev cX4_pieceAt : ByteArray := prog_6_method_6_code
def yX4_pieceAt : MethodName := ⟨RX4, "pieceAt", "(I)I"⟩
def RX5 : String := "PhrasePool$Yardstick"
def TX5 : u_T := fun k => match k with
  | _ => ("PhrasePool$Yardstick", "steps", "[[I", true)
def tyX5 : Nat → FieldType := fun k => match k with
  | _ => .array (.array .int)
abbrev wsX50 : List Cond := u_ws RX5 TX5 1
theorem nmX5 : ∀ a, a < 1 → ∀ b, b < 1 → a ≠ b → (TX5 a).2.1 ≠ (TX5 b).2.1 := by decide +kernel
theorem tyX5_ok : ∀ k, k < 1 → parseFieldDescriptor (TX5 k).2.2.1 = some (tyX5 k) := by decide +kernel
abbrev cX5_init : ByteArray := prog_7_method_1_code
def yX5_init : MethodName := ⟨RX5, "<init>", "()V"⟩
abbrev cX5_measure : ByteArray := prog_7_method_2_code
def yX5_measure : MethodName := ⟨RX5, "measure", "(LPhrasePool$Sentence;LPhrasePool$Sentence;)I"⟩
abbrev cX5_distance : ByteArray := prog_7_method_3_code
def yX5_distance : MethodName := ⟨RX5, "distance", "(LPhrasePool$Sentence;LPhrasePool$Sentence;)I"⟩
def RX6 : String := "PhrasePool"
def TX6 : u_T := fun k => match k with
  | 0 => ("PhrasePool", "state", "LPhrasePool$State;", true)
  | 1 => ("PhrasePool", "history", "LPhrasePool$History;", true)
  | 2 => ("PhrasePool", "text", "LPhrasePool$Text;", true)
  | 3 => ("PhrasePool", "typed", "LPhrasePool$Sentence;", true)
  | _ => ("PhrasePool", "ways", "LPhrasePool$Ways;", true)
def tyX6 : Nat → FieldType := fun k => match k with
  | 0 => .object "PhrasePool$State"
  | 1 => .object "PhrasePool$History"
  | 2 => .object "PhrasePool$Text"
  | 3 => .object "PhrasePool$Sentence"
  | _ => .object "PhrasePool$Ways"
abbrev wsX60 : List Cond := u_ws RX6 TX6 5
theorem nmX6 : ∀ a, a < 5 → ∀ b, b < 5 → a ≠ b → (TX6 a).2.1 ≠ (TX6 b).2.1 := by decide +kernel
theorem tyX6_ok : ∀ k, k < 5 → parseFieldDescriptor (TX6 k).2.2.1 = some (tyX6 k) := by decide +kernel
abbrev cX6_init : ByteArray := prog_1_method_1_code
def yX6_init : MethodName := ⟨RX6, "<init>", "()V"⟩
abbrev cX6_addMember : ByteArray := prog_1_method_2_code
def yX6_addMember : MethodName := ⟨RX6, "addMember", "()I"⟩
abbrev cX6_setPrice : ByteArray := prog_1_method_3_code
def yX6_setPrice : MethodName := ⟨RX6, "setPrice", "(II)I"⟩
abbrev cX6_set : ByteArray := prog_1_method_4_code
def yX6_set : MethodName := ⟨RX6, "set", "(II)I"⟩
abbrev cX6_count : ByteArray := prog_1_method_5_code
def yX6_count : MethodName := ⟨RX6, "count", "(I)I"⟩
abbrev cX6_member : ByteArray := prog_1_method_6_code
def yX6_member : MethodName := ⟨RX6, "member", "(II)I"⟩
abbrev cX6_addPhrase : ByteArray := prog_1_method_7_code
def yX6_addPhrase : MethodName := ⟨RX6, "addPhrase", "(III)I"⟩
abbrev cX6_phrase : ByteArray := prog_1_method_8_code
def yX6_phrase : MethodName := ⟨RX6, "phrase", "(II)I"⟩
abbrev cX6_word : ByteArray := prog_1_method_9_code
def yX6_word : MethodName := ⟨RX6, "word", "(II)I"⟩
abbrev cX6_score : ByteArray := prog_1_method_10_code
def yX6_score : MethodName := ⟨RX6, "score", "(II)I"⟩
abbrev cX6_agreed : ByteArray := prog_1_method_11_code
def yX6_agreed : MethodName := ⟨RX6, "agreed", "()I"⟩
abbrev cX6_match : ByteArray := prog_1_method_12_code
def yX6_match : MethodName := ⟨RX6, "match", "()I"⟩
abbrev cX6_alike : ByteArray := prog_1_method_13_code
def yX6_alike : MethodName := ⟨RX6, "alike", "(I)I"⟩
abbrev cX6_fee : ByteArray := prog_1_method_14_code
def yX6_fee : MethodName := ⟨RX6, "fee", "(I)I"⟩
abbrev cX6_use : ByteArray := prog_1_method_15_code
def yX6_use : MethodName := ⟨RX6, "use", "(I)I"⟩
abbrev cX6_note : ByteArray := prog_1_method_16_code
def yX6_note : MethodName := ⟨RX6, "note", "(II)I"⟩
abbrev cX6_retract : ByteArray := prog_1_method_17_code
def yX6_retract : MethodName := ⟨RX6, "retract", "(I)I"⟩
abbrev cX6_wouldPayBack : ByteArray := prog_1_method_18_code
def yX6_wouldPayBack : MethodName := ⟨RX6, "wouldPayBack", "(I)I"⟩
abbrev cX6_pass : ByteArray := prog_1_method_19_code
def yX6_pass : MethodName := ⟨RX6, "pass", "(I)I"⟩
abbrev cX6_cheapest : ByteArray := prog_1_method_20_code
def yX6_cheapest : MethodName := ⟨RX6, "cheapest", "(I)I"⟩
abbrev cX6_piece : ByteArray := prog_1_method_21_code
def yX6_piece : MethodName := ⟨RX6, "piece", "(II)I"⟩
abbrev cX6_type : ByteArray := prog_1_method_22_code
def yX6_type : MethodName := ⟨RX6, "type", "(I)I"⟩
abbrev cX6_clearText : ByteArray := prog_1_method_23_code
def yX6_clearText : MethodName := ⟨RX6, "clearText", "()I"⟩
abbrev cX6_textFault : ByteArray := prog_1_method_24_code
def yX6_textFault : MethodName := ⟨RX6, "textFault", "()I"⟩
abbrev cX6_undo : ByteArray := prog_1_method_25_code
def yX6_undo : MethodName := ⟨RX6, "undo", "()I"⟩
abbrev cX6_digest : ByteArray := prog_1_method_26_code
def yX6_digest : MethodName := ⟨RX6, "digest", "()J"⟩
abbrev cX6_hashPhrase : ByteArray := prog_1_method_27_code
def yX6_hashPhrase : MethodName := ⟨RX6, "hashPhrase", "(JI)J"⟩
abbrev cX6_findMatch : ByteArray := prog_1_method_28_code
def yX6_findMatch : MethodName := ⟨RX6, "findMatch", "()I"⟩
abbrev cX6_findWays : ByteArray := prog_1_method_29_code
def yX6_findWays : MethodName := ⟨RX6, "findWays", "(I)V"⟩
def RX7 : String := "PhrasePoolModel"
def TX7 : u_T := fun k => match k with
  | 0 => ("PhrasePoolModel", "row", "[I", true)
  | 1 => ("PhrasePoolModel", "kept", "I", false)
  | 2 => ("PhrasePoolModel", "one", "[I", true)
  | 3 => ("PhrasePoolModel", "oneMany", "I", false)
  | 4 => ("PhrasePoolModel", "other", "[I", true)
  | 5 => ("PhrasePoolModel", "otherMany", "I", false)
  | 6 => ("PhrasePoolModel", "steps", "[I", true)
  | 7 => ("PhrasePoolModel", "fate", "[I", true)
  | 8 => ("PhrasePoolModel", "costs", "[I", true)
  | 9 => ("PhrasePoolModel", "counts", "[I", true)
  | 10 => ("PhrasePoolModel", "firsts", "[I", true)
  | 11 => ("PhrasePoolModel", "text", "[I", true)
  | 12 => ("PhrasePoolModel", "length", "I", false)
  | _ => ("PhrasePoolModel", "h", "J", false)
def tyX7 : Nat → FieldType := fun k => match k with
  | 0 => .array .int
  | 1 => .int
  | 2 => .array .int
  | 3 => .int
  | 4 => .array .int
  | 5 => .int
  | 6 => .array .int
  | 7 => .array .int
  | 8 => .array .int
  | 9 => .array .int
  | 10 => .array .int
  | 11 => .array .int
  | 12 => .int
  | _ => .long
abbrev wsX70 : List Cond := u_ws RX7 TX7 14
theorem nmX7 : ∀ a, a < 14 → ∀ b, b < 14 → a ≠ b → (TX7 a).2.1 ≠ (TX7 b).2.1 := by decide +kernel
theorem tyX7_ok : ∀ k, k < 14 → parseFieldDescriptor (TX7 k).2.2.1 = some (tyX7 k) := by decide +kernel
abbrev cX7_init : ByteArray := prog_9_method_1_code
def yX7_init : MethodName := ⟨RX7, "<init>", "()V"⟩
abbrev cX7_in : ByteArray := prog_9_method_2_code
def yX7_in : MethodName := ⟨RX7, "in", "(III)Z"⟩
abbrev cX7_copies : ByteArray := prog_9_method_3_code
def yX7_copies : MethodName := ⟨RX7, "copies", "(II)V"⟩
abbrev cX7_records : ByteArray := prog_9_method_4_code
def yX7_records : MethodName := ⟨RX7, "records", "()V"⟩
abbrev cX7_isMember : ByteArray := prog_9_method_5_code
def yX7_isMember : MethodName := ⟨RX7, "isMember", "(I)Z"⟩
abbrev cX7_isPhrase : ByteArray := prog_9_method_6_code
def yX7_isPhrase : MethodName := ⟨RX7, "isPhrase", "(I)Z"⟩
abbrev cX7_of : ByteArray := prog_9_method_7_code
def yX7_of : MethodName := ⟨RX7, "of", "(II)I"⟩
abbrev cX7_ofNote : ByteArray := prog_9_method_8_code
def yX7_ofNote : MethodName := ⟨RX7, "ofNote", "(II)I"⟩
abbrev cX7_price : ByteArray := prog_9_method_9_code
def yX7_price : MethodName := ⟨RX7, "price", "(I)I"⟩
abbrev cX7_pays : ByteArray := prog_9_method_10_code
def yX7_pays : MethodName := ⟨RX7, "pays", "(II)V"⟩
abbrev cX7_setsOne : ByteArray := prog_9_method_11_code
def yX7_setsOne : MethodName := ⟨RX7, "setsOne", "(I)V"⟩
abbrev cX7_setsOther : ByteArray := prog_9_method_12_code
def yX7_setsOther : MethodName := ⟨RX7, "setsOther", "(I)V"⟩
abbrev cX7_setsText : ByteArray := prog_9_method_13_code
def yX7_setsText : MethodName := ⟨RX7, "setsText", "()V"⟩
abbrev cX7_least : ByteArray := prog_9_method_14_code
def yX7_least : MethodName := ⟨RX7, "least", "(II)I"⟩
abbrev cX7_scoreNow : ByteArray := prog_9_method_15_code
def yX7_scoreNow : MethodName := ⟨RX7, "scoreNow", "()I"⟩
abbrev cX7_scoreOf : ByteArray := prog_9_method_16_code
def yX7_scoreOf : MethodName := ⟨RX7, "scoreOf", "(II)I"⟩
abbrev cX7_textScore : ByteArray := prog_9_method_17_code
def yX7_textScore : MethodName := ⟨RX7, "textScore", "(I)I"⟩
abbrev cX7_addMember : ByteArray := prog_9_method_18_code
def yX7_addMember : MethodName := ⟨RX7, "addMember", "()I"⟩
abbrev cX7_setPrice : ByteArray := prog_9_method_19_code
def yX7_setPrice : MethodName := ⟨RX7, "setPrice", "(II)I"⟩
abbrev cX7_set : ByteArray := prog_9_method_20_code
def yX7_set : MethodName := ⟨RX7, "set", "(II)I"⟩
abbrev cX7_areInConflict : ByteArray := prog_9_method_21_code
def yX7_areInConflict : MethodName := ⟨RX7, "areInConflict", "(II)Z"⟩
abbrev cX7_conflicts : ByteArray := prog_9_method_22_code
def yX7_conflicts : MethodName := ⟨RX7, "conflicts", "(I)I"⟩
abbrev cX7_live : ByteArray := prog_9_method_23_code
def yX7_live : MethodName := ⟨RX7, "live", "()I"⟩
abbrev cX7_paidBack : ByteArray := prog_9_method_24_code
def yX7_paidBack : MethodName := ⟨RX7, "paidBack", "()I"⟩
abbrev cX7_allConflicts : ByteArray := prog_9_method_25_code
def yX7_allConflicts : MethodName := ⟨RX7, "allConflicts", "()I"⟩
abbrev cX7_counted : ByteArray := prog_9_method_26_code
def yX7_counted : MethodName := ⟨RX7, "counted", "(I)I"⟩
abbrev cX7_count : ByteArray := prog_9_method_27_code
def yX7_count : MethodName := ⟨RX7, "count", "(I)I"⟩
abbrev cX7_memberNow : ByteArray := prog_9_method_28_code
def yX7_memberNow : MethodName := ⟨RX7, "memberNow", "(II)I"⟩
abbrev cX7_member : ByteArray := prog_9_method_29_code
def yX7_member : MethodName := ⟨RX7, "member", "(II)I"⟩
abbrev cX7_addPhrase : ByteArray := prog_9_method_30_code
def yX7_addPhrase : MethodName := ⟨RX7, "addPhrase", "(III)I"⟩
abbrev cX7_phrase : ByteArray := prog_9_method_31_code
def yX7_phrase : MethodName := ⟨RX7, "phrase", "(II)I"⟩
abbrev cX7_word : ByteArray := prog_9_method_32_code
def yX7_word : MethodName := ⟨RX7, "word", "(II)I"⟩
abbrev cX7_score : ByteArray := prog_9_method_33_code
def yX7_score : MethodName := ⟨RX7, "score", "(II)I"⟩
abbrev cX7_gives : ByteArray := prog_9_method_34_code
def yX7_gives : MethodName := ⟨RX7, "gives", "(II)Z"⟩
abbrev cX7_agreed : ByteArray := prog_9_method_35_code
def yX7_agreed : MethodName := ⟨RX7, "agreed", "()I"⟩
abbrev cX7_found : ByteArray := prog_9_method_36_code
def yX7_found : MethodName := ⟨RX7, "found", "()I"⟩
abbrev cX7_match : ByteArray := prog_9_method_37_code
def yX7_match : MethodName := ⟨RX7, "match", "()I"⟩
abbrev cX7_alike : ByteArray := prog_9_method_38_code
def yX7_alike : MethodName := ⟨RX7, "alike", "(I)I"⟩
abbrev cX7_feeOf : ByteArray := prog_9_method_39_code
def yX7_feeOf : MethodName := ⟨RX7, "feeOf", "(III)I"⟩
abbrev cX7_fee : ByteArray := prog_9_method_40_code
def yX7_fee : MethodName := ⟨RX7, "fee", "(I)I"⟩
abbrev cX7_use : ByteArray := prog_9_method_41_code
def yX7_use : MethodName := ⟨RX7, "use", "(I)I"⟩
abbrev cX7_note : ByteArray := prog_9_method_42_code
def yX7_note : MethodName := ⟨RX7, "note", "(II)I"⟩
abbrev cX7_ends : ByteArray := prog_9_method_43_code
def yX7_ends : MethodName := ⟨RX7, "ends", "(I)I"⟩
abbrev cX7_goesBack : ByteArray := prog_9_method_44_code
def yX7_goesBack : MethodName := ⟨RX7, "goesBack", "(I)Z"⟩
abbrev cX7_retract : ByteArray := prog_9_method_45_code
def yX7_retract : MethodName := ⟨RX7, "retract", "(I)I"⟩
abbrev cX7_wouldPayBack : ByteArray := prog_9_method_46_code
def yX7_wouldPayBack : MethodName := ⟨RX7, "wouldPayBack", "(I)I"⟩
abbrev cX7_pass : ByteArray := prog_9_method_47_code
def yX7_pass : MethodName := ⟨RX7, "pass", "(I)I"⟩
abbrev cX7_standsAt : ByteArray := prog_9_method_48_code
def yX7_standsAt : MethodName := ⟨RX7, "standsAt", "(II)Z"⟩
abbrev cX7_composes : ByteArray := prog_9_method_49_code
def yX7_composes : MethodName := ⟨RX7, "composes", "(I)V"⟩
abbrev cX7_cheapest : ByteArray := prog_9_method_50_code
def yX7_cheapest : MethodName := ⟨RX7, "cheapest", "(I)I"⟩
abbrev cX7_piece : ByteArray := prog_9_method_51_code
def yX7_piece : MethodName := ⟨RX7, "piece", "(II)I"⟩
abbrev cX7_type : ByteArray := prog_9_method_52_code
def yX7_type : MethodName := ⟨RX7, "type", "(I)I"⟩
abbrev cX7_clearText : ByteArray := prog_9_method_53_code
def yX7_clearText : MethodName := ⟨RX7, "clearText", "()I"⟩
abbrev cX7_textFault : ByteArray := prog_9_method_54_code
def yX7_textFault : MethodName := ⟨RX7, "textFault", "()I"⟩
abbrev cX7_undo : ByteArray := prog_9_method_55_code
def yX7_undo : MethodName := ⟨RX7, "undo", "()I"⟩
abbrev cX7_adds : ByteArray := prog_9_method_56_code
def yX7_adds : MethodName := ⟨RX7, "adds", "(J)V"⟩
abbrev cX7_digest : ByteArray := prog_9_method_57_code
def yX7_digest : MethodName := ⟨RX7, "digest", "()J"⟩
def RJ9 : String := "java/lang/Math"
def TJ9 : u_T := fun k => match k with
  | _ => ("", "", "", false)
def tyJ9 : Nat → FieldType := fun k => match k with
  | _ => .int
abbrev wsJ90 : List Cond := u_ws RJ9 TJ9 0
theorem nmJ9 : ∀ a, a < 0 → ∀ b, b < 0 → a ≠ b → (TJ9 a).2.1 ≠ (TJ9 b).2.1 := by decide +kernel
theorem tyJ9_ok : ∀ k, k < 0 → parseFieldDescriptor (TJ9 k).2.2.1 = some (tyJ9 k) := by decide +kernel
abbrev cJ9_max_7cf53 : ByteArray := prog_10_method_65_code
def yJ9_max_7cf53 : MethodName := ⟨RJ9, "max", "(II)I"⟩
abbrev cJ9_min_7cf53 : ByteArray := prog_10_method_69_code
def yJ9_min_7cf53 : MethodName := ⟨RJ9, "min", "(II)I"⟩
def RJ10 : String := "java/lang/System"
def TJ10 : u_T := fun k => match k with
  | _ => ("", "", "", false)
def tyJ10 : Nat → FieldType := fun k => match k with
  | _ => .int
abbrev wsJ100 : List Cond := u_ws RJ10 TJ10 0
theorem nmJ10 : ∀ a, a < 0 → ∀ b, b < 0 → a ≠ b → (TJ10 a).2.1 ≠ (TJ10 b).2.1 := by decide +kernel
theorem tyJ10_ok : ∀ k, k < 0 → parseFieldDescriptor (TJ10 k).2.2.1 = some (tyJ10 k) := by decide +kernel
def RL : String := "PhrasePoolLaw"
abbrev cL_law : ByteArray := code
def yL_law : MethodName := ⟨RL, "law", "([I)Z"⟩
abbrev vwCl : List vw_C := [(RX0, TX0, 3), (RX1, TX1, 2), (RX2, TX2, 5), (RX3, TX3, 2), (RX4, TX4, 5), (RX5, TX5, 1), (RX6, TX6, 5), (RX7, TX7, 14)]
/-- a method: its class, name, code, locals, answer -/
abbrev MD : Type := Nat × MethodName × ByteArray × Nat × Option FieldType
def mX0_init : MD := (0, yX0_init, cX0_init, 1, none)
def mX0_keep : MD := (0, yX0_keep, cX0_keep, 2, none)
def mX0_restoreInto : MD := (0, yX0_restoreInto, cX0_restoreInto, 2, (some .int))
def mX1_init : MD := (1, yX1_init, cX1_init, 1, none)
def mX1_clear : MD := (1, yX1_clear, cX1_clear, 1, none)
def mX1_append : MD := (1, yX1_append, cX1_append, 2, none)
def mX2_init : MD := (2, yX2_init, cX2_init, 1, none)
def mX2_copyTo : MD := (2, yX2_copyTo, cX2_copyTo, 2, none)
def mX2_copyFrom : MD := (2, yX2_copyFrom, cX2_copyFrom, 2, none)
def mX2_memberCell : MD := (2, yX2_memberCell, cX2_memberCell, 2, (some .int))
def mX2_phraseCell : MD := (2, yX2_phraseCell, cX2_phraseCell, 2, (some .int))
def mX2_noteCell : MD := (2, yX2_noteCell, cX2_noteCell, 2, (some .int))
def mX2_members : MD := (2, yX2_members, cX2_members, 1, (some .int))
def mX2_phrases : MD := (2, yX2_phrases, cX2_phrases, 1, (some .int))
def mX2_notes : MD := (2, yX2_notes, cX2_notes, 1, (some .int))
def mX2_tick : MD := (2, yX2_tick, cX2_tick, 1, (some .int))
def mX2_hasMember : MD := (2, yX2_hasMember, cX2_hasMember, 2, (some .boolean))
def mX2_hasPhrase : MD := (2, yX2_hasPhrase, cX2_hasPhrase, 2, (some .boolean))
def mX2_hasNote : MD := (2, yX2_hasNote, cX2_hasNote, 2, (some .boolean))
def mX2_settingOf : MD := (2, yX2_settingOf, cX2_settingOf, 2, (some .int))
def mX2_changeSetting : MD := (2, yX2_changeSetting, cX2_changeSetting, 3, none)
def mX2_moveTick : MD := (2, yX2_moveTick, cX2_moveTick, 2, (some .int))
def mX2_startMember : MD := (2, yX2_startMember, cX2_startMember, 2, (some .int))
def mX2_priceOf : MD := (2, yX2_priceOf, cX2_priceOf, 2, (some .int))
def mX2_changePrice : MD := (2, yX2_changePrice, cX2_changePrice, 3, none)
def mX2_memberProperty : MD := (2, yX2_memberProperty, cX2_memberProperty, 3, (some .int))
def mX2_countOwned : MD := (2, yX2_countOwned, cX2_countOwned, 4, (some .int))
def mX2_countUsesNoted : MD := (2, yX2_countUsesNoted, cX2_countUsesNoted, 4, (some .int))
def mX2_sumGot : MD := (2, yX2_sumGot, cX2_sumGot, 4, (some .int))
def mX2_countOf : MD := (2, yX2_countOf, cX2_countOf, 2, (some .int))
def mX2_countLive : MD := (2, yX2_countLive, cX2_countLive, 3, (some .int))
def mX2_countPaidBack : MD := (2, yX2_countPaidBack, cX2_countPaidBack, 3, (some .int))
def mX2_countConflicts : MD := (2, yX2_countConflicts, cX2_countConflicts, 3, (some .int))
def mX2_startPhrase : MD := (2, yX2_startPhrase, cX2_startPhrase, 7, (some .int))
def mX2_phraseProperty : MD := (2, yX2_phraseProperty, cX2_phraseProperty, 3, (some .int))
def mX2_ownerOf : MD := (2, yX2_ownerOf, cX2_ownerOf, 2, (some .int))
def mX2_lengthOf : MD := (2, yX2_lengthOf, cX2_lengthOf, 2, (some .int))
def mX2_targetOf : MD := (2, yX2_targetOf, cX2_targetOf, 2, (some .int))
def mX2_parentOf : MD := (2, yX2_parentOf, cX2_parentOf, 2, (some .int))
def mX2_isLive : MD := (2, yX2_isLive, cX2_isLive, 2, (some .boolean))
def mX2_usesOf : MD := (2, yX2_usesOf, cX2_usesOf, 2, (some .int))
def mX2_wordOf : MD := (2, yX2_wordOf, cX2_wordOf, 3, (some .int))
def mX2_readInto : MD := (2, yX2_readInto, cX2_readInto, 4, none)
def mX2_likenessOf : MD := (2, yX2_likenessOf, cX2_likenessOf, 3, (some .int))
def mX2_likenessTo : MD := (2, yX2_likenessTo, cX2_likenessTo, 3, (some .int))
def mX2_conflictsOf : MD := (2, yX2_conflictsOf, cX2_conflictsOf, 4, (some .int))
def mX2_standsAt : MD := (2, yX2_standsAt, cX2_standsAt, 7, (some .boolean))
def mX2_isLiveAs : MD := (2, yX2_isLiveAs, cX2_isLiveAs, 3, (some .boolean))
def mX2_giversOf : MD := (2, yX2_giversOf, cX2_giversOf, 5, (some .int))
def mX2_gives : MD := (2, yX2_gives, cX2_gives, 5, (some .boolean))
def mX2_feeFor : MD := (2, yX2_feeFor, cX2_feeFor, 5, (some .int))
def mX2_noteProperty : MD := (2, yX2_noteProperty, cX2_noteProperty, 3, (some .int))
def mX2_isPaidBack : MD := (2, yX2_isPaidBack, cX2_isPaidBack, 2, (some .boolean))
def mX2_startNote : MD := (2, yX2_startNote, cX2_startNote, 5, (some .int))
def mX2_splitFee : MD := (2, yX2_splitFee, cX2_splitFee, 8, none)
def mX2_moveMoney : MD := (2, yX2_moveMoney, cX2_moveMoney, 4, none)
def mX2_markEndings : MD := (2, yX2_markEndings, cX2_markEndings, 3, none)
def mX2_hasMarkedParent : MD := (2, yX2_hasMarkedParent, cX2_hasMarkedParent, 2, (some .boolean))
def mX2_endMarked : MD := (2, yX2_endMarked, cX2_endMarked, 3, (some .int))
def mX2_isOwed : MD := (2, yX2_isOwed, cX2_isOwed, 2, (some .boolean))
def mX2_owedForMarked : MD := (2, yX2_owedForMarked, cX2_owedForMarked, 3, (some .int))
def mX2_payBackMarked : MD := (2, yX2_payBackMarked, cX2_payBackMarked, 2, none)
def mX3_init : MD := (3, yX3_init, cX3_init, 1, none)
def mX3_isLetter : MD := (3, yX3_isLetter, cX3_isLetter, 1, (some .boolean))
def mX3_append : MD := (3, yX3_append, cX3_append, 2, (some .int))
def mX3_empty : MD := (3, yX3_empty, cX3_empty, 2, (some .int))
def mX3_fault : MD := (3, yX3_fault, cX3_fault, 3, (some .int))
def mX3_isFaulty : MD := (3, yX3_isFaulty, cX3_isFaulty, 1, (some .boolean))
def mX3_readInto : MD := (3, yX3_readInto, cX3_readInto, 3, none)
def mX4_init : MD := (4, yX4_init, cX4_init, 1, none)
def mX4_start : MD := (4, yX4_start, cX4_start, 2, none)
def mX4_open : MD := (4, yX4_open, cX4_open, 2, none)
def mX4_offer : MD := (4, yX4_offer, cX4_offer, 8, none)
def mX4_bestCost : MD := (4, yX4_bestCost, cX4_bestCost, 1, (some .int))
def mX4_pieceAt : MD := (4, yX4_pieceAt, cX4_pieceAt, 4, (some .int))
def mX5_init : MD := (5, yX5_init, cX5_init, 1, none)
def mX5_measure : MD := (5, yX5_measure, cX5_measure, 4, (some .int))
def mX5_distance : MD := (5, yX5_distance, cX5_distance, 7, (some .int))
def mX6_init : MD := (6, yX6_init, cX6_init, 1, none)
def mX6_addMember : MD := (6, yX6_addMember, cX6_addMember, 1, (some .int))
def mX6_setPrice : MD := (6, yX6_setPrice, cX6_setPrice, 4, (some .int))
def mX6_set : MD := (6, yX6_set, cX6_set, 4, (some .int))
def mX6_count : MD := (6, yX6_count, cX6_count, 2, (some .int))
def mX6_member : MD := (6, yX6_member, cX6_member, 3, (some .int))
def mX6_addPhrase : MD := (6, yX6_addPhrase, cX6_addPhrase, 4, (some .int))
def mX6_phrase : MD := (6, yX6_phrase, cX6_phrase, 3, (some .int))
def mX6_word : MD := (6, yX6_word, cX6_word, 3, (some .int))
def mX6_score : MD := (6, yX6_score, cX6_score, 3, (some .int))
def mX6_agreed : MD := (6, yX6_agreed, cX6_agreed, 6, (some .int))
def mX6_match : MD := (6, yX6_match, cX6_match, 1, (some .int))
def mX6_alike : MD := (6, yX6_alike, cX6_alike, 2, (some .int))
def mX6_fee : MD := (6, yX6_fee, cX6_fee, 3, (some .int))
def mX6_use : MD := (6, yX6_use, cX6_use, 3, (some .int))
def mX6_note : MD := (6, yX6_note, cX6_note, 3, (some .int))
def mX6_retract : MD := (6, yX6_retract, cX6_retract, 2, (some .int))
def mX6_wouldPayBack : MD := (6, yX6_wouldPayBack, cX6_wouldPayBack, 2, (some .int))
def mX6_pass : MD := (6, yX6_pass, cX6_pass, 2, (some .int))
def mX6_cheapest : MD := (6, yX6_cheapest, cX6_cheapest, 2, (some .int))
def mX6_piece : MD := (6, yX6_piece, cX6_piece, 3, (some .int))
def mX6_type : MD := (6, yX6_type, cX6_type, 2, (some .int))
def mX6_clearText : MD := (6, yX6_clearText, cX6_clearText, 1, (some .int))
def mX6_textFault : MD := (6, yX6_textFault, cX6_textFault, 1, (some .int))
def mX6_undo : MD := (6, yX6_undo, cX6_undo, 1, (some .int))
def mX6_digest : MD := (6, yX6_digest, cX6_digest, 5, (some .long))
def mX6_hashPhrase : MD := (6, yX6_hashPhrase, cX6_hashPhrase, 7, (some .long))
def mX6_findMatch : MD := (6, yX6_findMatch, cX6_findMatch, 5, (some .int))
def mX6_findWays : MD := (6, yX6_findWays, cX6_findWays, 4, none)
def mX7_init : MD := (7, yX7_init, cX7_init, 1, none)
def mX7_in : MD := (7, yX7_in, cX7_in, 3, (some .boolean))
def mX7_copies : MD := (7, yX7_copies, cX7_copies, 4, none)
def mX7_records : MD := (7, yX7_records, cX7_records, 2, none)
def mX7_isMember : MD := (7, yX7_isMember, cX7_isMember, 2, (some .boolean))
def mX7_isPhrase : MD := (7, yX7_isPhrase, cX7_isPhrase, 2, (some .boolean))
def mX7_of : MD := (7, yX7_of, cX7_of, 3, (some .int))
def mX7_ofNote : MD := (7, yX7_ofNote, cX7_ofNote, 3, (some .int))
def mX7_price : MD := (7, yX7_price, cX7_price, 2, (some .int))
def mX7_pays : MD := (7, yX7_pays, cX7_pays, 3, none)
def mX7_setsOne : MD := (7, yX7_setsOne, cX7_setsOne, 3, none)
def mX7_setsOther : MD := (7, yX7_setsOther, cX7_setsOther, 3, none)
def mX7_setsText : MD := (7, yX7_setsText, cX7_setsText, 2, none)
def mX7_least : MD := (7, yX7_least, cX7_least, 2, (some .int))
def mX7_scoreNow : MD := (7, yX7_scoreNow, cX7_scoreNow, 5, (some .int))
def mX7_scoreOf : MD := (7, yX7_scoreOf, cX7_scoreOf, 3, (some .int))
def mX7_textScore : MD := (7, yX7_textScore, cX7_textScore, 2, (some .int))
def mX7_addMember : MD := (7, yX7_addMember, cX7_addMember, 1, (some .int))
def mX7_setPrice : MD := (7, yX7_setPrice, cX7_setPrice, 4, (some .int))
def mX7_set : MD := (7, yX7_set, cX7_set, 5, (some .int))
def mX7_areInConflict : MD := (7, yX7_areInConflict, cX7_areInConflict, 3, (some .boolean))
def mX7_conflicts : MD := (7, yX7_conflicts, cX7_conflicts, 4, (some .int))
def mX7_live : MD := (7, yX7_live, cX7_live, 3, (some .int))
def mX7_paidBack : MD := (7, yX7_paidBack, cX7_paidBack, 3, (some .int))
def mX7_allConflicts : MD := (7, yX7_allConflicts, cX7_allConflicts, 3, (some .int))
def mX7_counted : MD := (7, yX7_counted, cX7_counted, 2, (some .int))
def mX7_count : MD := (7, yX7_count, cX7_count, 2, (some .int))
def mX7_memberNow : MD := (7, yX7_memberNow, cX7_memberNow, 5, (some .int))
def mX7_member : MD := (7, yX7_member, cX7_member, 3, (some .int))
def mX7_addPhrase : MD := (7, yX7_addPhrase, cX7_addPhrase, 6, (some .int))
def mX7_phrase : MD := (7, yX7_phrase, cX7_phrase, 3, (some .int))
def mX7_word : MD := (7, yX7_word, cX7_word, 3, (some .int))
def mX7_score : MD := (7, yX7_score, cX7_score, 3, (some .int))
def mX7_gives : MD := (7, yX7_gives, cX7_gives, 3, (some .boolean))
def mX7_agreed : MD := (7, yX7_agreed, cX7_agreed, 9, (some .int))
def mX7_found : MD := (7, yX7_found, cX7_found, 6, (some .int))
def mX7_match : MD := (7, yX7_match, cX7_match, 1, (some .int))
def mX7_alike : MD := (7, yX7_alike, cX7_alike, 2, (some .int))
def mX7_feeOf : MD := (7, yX7_feeOf, cX7_feeOf, 4, (some .int))
def mX7_fee : MD := (7, yX7_fee, cX7_fee, 3, (some .int))
def mX7_use : MD := (7, yX7_use, cX7_use, 10, (some .int))
def mX7_note : MD := (7, yX7_note, cX7_note, 3, (some .int))
def mX7_ends : MD := (7, yX7_ends, cX7_ends, 5, (some .int))
def mX7_goesBack : MD := (7, yX7_goesBack, cX7_goesBack, 2, (some .boolean))
def mX7_retract : MD := (7, yX7_retract, cX7_retract, 5, (some .int))
def mX7_wouldPayBack : MD := (7, yX7_wouldPayBack, cX7_wouldPayBack, 5, (some .int))
def mX7_pass : MD := (7, yX7_pass, cX7_pass, 2, (some .int))
def mX7_standsAt : MD := (7, yX7_standsAt, cX7_standsAt, 5, (some .boolean))
def mX7_composes : MD := (7, yX7_composes, cX7_composes, 6, none)
def mX7_cheapest : MD := (7, yX7_cheapest, cX7_cheapest, 2, (some .int))
def mX7_piece : MD := (7, yX7_piece, cX7_piece, 5, (some .int))
def mX7_type : MD := (7, yX7_type, cX7_type, 2, (some .int))
def mX7_clearText : MD := (7, yX7_clearText, cX7_clearText, 2, (some .int))
def mX7_textFault : MD := (7, yX7_textFault, cX7_textFault, 4, (some .int))
def mX7_undo : MD := (7, yX7_undo, cX7_undo, 1, (some .int))
def mX7_adds : MD := (7, yX7_adds, cX7_adds, 3, none)
def mX7_digest : MD := (7, yX7_digest, cX7_digest, 3, (some .long))
def mL_law : MD := (8, yL_law, cL_law, 4, ret)
end
section
/-! THE FIXED WORLD: 46 cells, references are places; a judgement VV of a frame in it, a rule an instruction -/
def mo (M : MD) : Nat := M.1
def my (M : MD) : MethodName := M.2.1
def mc (M : MD) : ByteArray := M.2.2.1
def ml (M : MD) : Nat := M.2.2.2.1
def mr (M : MD) : Option FieldType := M.2.2.2.2
def RN : Nat → String
  | 0 => RX0
  | 1 => RX1
  | 2 => RX2
  | 3 => RX3
  | 4 => RX4
  | 5 => RX5
  | 6 => RX6
  | 7 => RX7
  | _ => RL
def g_tbl : List Cond := lw_tbl.filter goodWord
def nestW : Cond → Bool
  | .fieldLinkNest .. => true
  | .methodLinkNest .. => true
  | _ => false
def n_tbl : List Cond := tables_1.filter nestW
theorem g_of {w : Cond} (h : w ∈ lw_tbl) (hg : goodWord w = true) : w ∈ g_tbl := List.mem_filter.mpr ⟨h, hg⟩
theorem g_mem {w : Cond} (i : Nat) (h : lw_tbl[i]? = some w) (hg : goodWord w = true) : w ∈ g_tbl := g_of (List.mem_of_getElem? h) hg
theorem n_mem {w : Cond} (i : Nat) (h : lw_tbl[i + 100]? = some w) (h2 : tables_1[i]? = some w) (hg : nestW w = true) : w ∈ n_tbl := List.mem_filter.mpr ⟨List.mem_of_getElem? h2, hg⟩
theorem g_good {w : Cond} (h : w ∈ g_tbl) : (w.onTables && w.keeps) = true ∨ ∃ ty, w = .arrayClass ty := good_of_word (List.mem_filter.mp h).2
theorem g_hts {args : Array Value} {s : State} (h : ∀ w ∈ lw_tbl, w.before args s = true) : ∀ w ∈ g_tbl, w.before args s = true := fun w hw => h w (List.mem_filter.mp hw).1
theorem n_form {w : Cond} (h : w ∈ n_tbl) : (∃ a i b n d t, w = .fieldLinkNest a i b n d t) ∨ ∃ a i x t, w = .methodLinkNest a i x t := by
  have h2 := (List.mem_filter.mp h).2
  cases w with
  | fieldLinkNest a i b n d t => exact Or.inl ⟨a, i, b, n, d, t, rfl⟩
  | methodLinkNest a i x t => exact Or.inr ⟨a, i, x, t, rfl⟩
  | _ => cases h2
theorem n_hts {args : Array Value} {s : State} (h : ∀ w ∈ lw_tbl, w.before args s = true) : ∀ w ∈ n_tbl, va_Nw w s := by
  intro w hw
  have h1 := h w (List.mem_append_right _ (List.mem_filter.mp hw).1)
  rcases n_form hw with ⟨a, i, b, n, d, t, rfl⟩ | ⟨a, i, x, t, rfl⟩
  · exact va_Nw.of rfl h1
  · exact va_Nw.of rfl h1
theorem n_warm {s U : State} (hW : s.WarmedH U.vm) (h : ∀ w ∈ n_tbl, va_Nw w s) : ∀ w ∈ n_tbl, va_Nw w U := by
  intro w hw
  have h1 := h w hw
  rcases n_form hw with ⟨a, i, b, n, d, t, rfl⟩ | ⟨a, i, x, t, rfl⟩
  · exact va_Nw.warmF hW h1
  · exact va_Nw.warmM hW h1
theorem n_same {u U : State} (hv : u.vm = U.vm) (h : ∀ w ∈ n_tbl, va_Nw w u) : ∀ w ∈ n_tbl, va_Nw w U := by
  intro w hw
  have h1 := h w hw
  rcases n_form hw with ⟨a, i, b, n, d, t, rfl⟩ | ⟨a, i, x, t, rfl⟩
  · exact va_Nw.same rfl hv h1
  · exact va_Nw.same rfl hv h1
/-- the state: arrays by place, int fields, the reference's long -/
abbrev SS : Type := (Nat → Nat → Int32) × (Nat → Int32) × Int64
def sA (σ : SS) (p i : Nat) (x : Int32) : SS := (fun q => if q = p then upd (σ.1 p) i x else σ.1 q, σ.2)
def sR (σ : SS) (p : Nat) (f : Nat → Int32) : SS := (fun q => if q = p then f else σ.1 q, σ.2)
def sF (σ : SS) (k : Nat) (x : Int32) : SS := (σ.1, upd σ.2.1 k x, σ.2.2)
def sH (σ : SS) (x : Int64) : SS := (σ.1, σ.2.1, x)
def rv (ad : Nat → Nat) : Value → Value
  | .ref k => .ref (ad k)
  | v => v
theorem rv_cat (ad : Nat → Nat) (v : Value) : (rv ad v).category = v.category := by cases v <;> rfl
theorem rv_cats (ad : Nat → Nat) (st : List Value) : ((st.map (rv ad)).map fun v => v.category) = st.map fun v => v.category := by
  rw [List.map_map]
  exact List.map_congr_left (fun v _ => rv_cat ad v)
/-- the objects: class and fields -/
def obj (p : Nat) (σ : SS) : Option (Nat × List Value) := match p with
  | 0 => some (6, [.ref 1, .ref 2, .ref 3, .ref 4, .ref 5])
  | 1 => some (2, [.ref 12, .ref 13, .ref 6, .ref 7, .ref 8])
  | 2 => some (0, [.ref 9, .int (σ.2.1 0), .int (σ.2.1 1)])
  | 3 => some (3, [.ref 31, .int (σ.2.1 2)])
  | 4 => some (1, [.ref 32, .int (σ.2.1 3)])
  | 5 => some (4, [.ref 33, .ref 34, .ref 35, .ref 36, .int (σ.2.1 4)])
  | 6 => some (1, [.ref 14, .int (σ.2.1 5)])
  | 7 => some (1, [.ref 15, .int (σ.2.1 6)])
  | 8 => some (5, [.ref 10])
  | 9 => none
  | 10 => none
  | 11 => some (7, [.ref 37, .int (σ.2.1 7), .ref 38, .int (σ.2.1 8), .ref 39, .int (σ.2.1 9), .ref 40, .ref 41, .ref 42, .ref 43, .ref 44, .ref 45, .int (σ.2.1 10), .long σ.2.2])
  | _ => none
/-- the lengths of the arrays -/
def al (p : Nat) : Nat := if 16 ≤ p ∧ p < 27 then 11 else if 27 ≤ p ∧ p < 31 then 654 else match p with
  | 12 => 654
  | 13 => 20
  | 14 => 10
  | 15 => 10
  | 31 => 40
  | 32 => 10
  | 33 => 11
  | 34 => 11
  | 35 => 11
  | 36 => 11
  | 37 => 3270
  | 38 => 10
  | 39 => 10
  | 40 => 121
  | 41 => 20
  | 42 => 11
  | 43 => 11
  | 44 => 11
  | 45 => 40
  | _ => 0
/-- which int field lies where -/
def fk (p fi : Nat) : Option Nat := match p, fi with
  | 2, 1 => some 0
  | 2, 2 => some 1
  | 3, 1 => some 2
  | 4, 1 => some 3
  | 5, 4 => some 4
  | 6, 1 => some 5
  | 7, 1 => some 6
  | 11, 1 => some 7
  | 11, 3 => some 8
  | 11, 5 => some 9
  | 11, 12 => some 10
  | _, _ => none
theorem obj_ge {p : Nat} (σ : SS) (h : 12 ≤ p) : obj p σ = none := by
  obtain ⟨k, rfl⟩ : ∃ k, p = k + 12 := ⟨p - 12, by omega⟩
  rfl
theorem obj_lt {p : Nat} {σ : SS} {o : Nat × List Value} (h : obj p σ = some o) : p < 12 := by
  rcases Nat.lt_or_ge p 12 with q | q
  · exact q
  · rw [obj_ge σ q] at h
    cases h
theorem obj_arr (σ : SS) (a : Nat → Nat → Int32) (p : Nat) : obj p (a, σ.2) = obj p σ := rfl
theorem obj_sF {p fi k : Nat} (σ : SS) (x : Int32) (h : fk p fi = some k) {ci : Nat} {vs : List Value} (ho : obj p σ = some (ci, vs)) : obj p (sF σ k x) = some (ci, vs.set fi (.int x)) ∧ (∀ q, q ≠ p → obj q (sF σ k x) = obj q σ) ∧ fi < vs.length := by
  unfold fk at h
  split at h <;> cases h
  all_goals (cases ho; refine ⟨rfl, fun q hq => ?_, Nat.le_of_ble_eq_true rfl⟩)
  all_goals (rcases Nat.lt_or_ge q 12 with h12 | h12)
  all_goals first | (rw [obj_ge _ h12, obj_ge _ h12]; done) | skip
  all_goals (rcases (show q = 0 ∨ q = 1 ∨ q = 2 ∨ q = 3 ∨ q = 4 ∨ q = 5 ∨ q = 6 ∨ q = 7 ∨ q = 8 ∨ q = 9 ∨ q = 10 ∨ q = 11 by omega) with rfl | rfl | rfl | rfl | rfl | rfl | rfl | rfl | rfl | rfl | rfl | rfl)
  all_goals first | rfl | exact absurd rfl hq
theorem obj_sH (σ : SS) (x : Int64) : (∀ q, q ≠ 11 → obj q (sH σ x) = obj q σ) := by
  intro q hq
  rcases Nat.lt_or_ge q 12 with h12 | h12
  · rcases (show q = 0 ∨ q = 1 ∨ q = 2 ∨ q = 3 ∨ q = 4 ∨ q = 5 ∨ q = 6 ∨ q = 7 ∨ q = 8 ∨ q = 9 ∨ q = 10 ∨ q = 11 by omega) with rfl | rfl | rfl | rfl | rfl | rfl | rfl | rfl | rfl | rfl | rfl | rfl
    all_goals first | rfl | exact absurd rfl hq
  · rw [obj_ge _ h12, obj_ge _ h12]
/-- a cell of the world -/
def cel (ad : Nat → Nat) (cI cZ cII : ClassId) (σ : SS) (p : Nat) : va_E :=
  if p = 9 then .inl (cII, 4, .inr (.inr (.inr (.inr (fun i => if i < 4 then some (ad (27 + i)) else none)))))
  else if p = 10 then .inl (cII, 11, .inr (.inr (.inr (.inr (fun i => if i < 11 then some (ad (16 + i)) else none)))))
  else match obj p σ with
    | some o => .inr (o.1, o.2.map (rv ad))
    | none => .inl (if p = 13 then cZ else cI, al p, .inl (σ.1 p))
def wld (ad : Nat → Nat) (cI cZ cII : ClassId) (σ : SS) : va_W := (List.range 46).map (fun p => (ad p, cel ad cI cZ cII σ p))
def isI (p : Nat) : Prop := 12 ≤ p ∧ p < 46 ∧ p ≠ 13
section WLD
variable {ad : Nat → Nat} {cI cZ cII : ClassId} {σ σ' : SS} {p : Nat}
theorem wld_at (hp : p < 46) : (wld ad cI cZ cII σ)[p]? = some (ad p, cel ad cI cZ cII σ p) := by
  unfold wld
  rw [List.getElem?_map, List.getElem?_range hp]
  rfl
theorem wld_len : (wld ad cI cZ cII σ).length = 46 := by simp [wld]
theorem cel_obj {o : Nat × List Value} (h : obj p σ = some o) : cel ad cI cZ cII σ p = .inr (o.1, o.2.map (rv ad)) := by
  unfold cel
  rw [if_neg (by rintro rfl; cases h), if_neg (by rintro rfl; cases h), h]
theorem wld_obj {o : Nat × List Value} (h : obj p σ = some o) : (wld ad cI cZ cII σ)[p]? = some (ad p, .inr (o.1, o.2.map (rv ad))) := by
  rw [wld_at (by have := obj_lt h; omega), cel_obj h]
theorem cel_arr (h : 12 ≤ p) : cel ad cI cZ cII σ p = .inl (if p = 13 then cZ else cI, al p, .inl (σ.1 p)) := by
  unfold cel
  rw [if_neg (by omega), if_neg (by omega), obj_ge σ h]
theorem wld_arr (h : isI p) : (wld ad cI cZ cII σ)[p]? = some (ad p, .inl (cI, al p, .inl (σ.1 p))) := by
  rw [wld_at h.2.1, cel_arr h.1, if_neg h.2.2]
theorem wld_13 : (wld ad cI cZ cII σ)[13]? = some (ad 13, .inl (cZ, 20, .inl (σ.1 13))) := by
  rw [wld_at (by decide), cel_arr (by decide), if_pos rfl]
  rfl
theorem wld_9 : (wld ad cI cZ cII σ)[9]? = some (ad 9, .inl (cII, 4, .inr (.inr (.inr (.inr (fun i => if i < 4 then some (ad (27 + i)) else none)))))) := by
  rw [wld_at (by decide)]
  rfl
theorem wld_10 : (wld ad cI cZ cII σ)[10]? = some (ad 10, .inl (cII, 11, .inr (.inr (.inr (.inr (fun i => if i < 11 then some (ad (16 + i)) else none)))))) := by
  rw [wld_at (by decide)]
  rfl
theorem wld_set {e : va_E} (hp : p < 46) (h1 : cel ad cI cZ cII σ' p = e) (h2 : ∀ q, q ≠ p → cel ad cI cZ cII σ' q = cel ad cI cZ cII σ q) : (wld ad cI cZ cII σ).set p (ad p, e) = wld ad cI cZ cII σ' := by
  apply List.ext_getElem?
  intro i
  by_cases hi : i = p
  · subst hi
    rw [List.getElem?_set_self (by rw [wld_len]; exact hp), wld_at hp, h1]
  · rw [List.getElem?_set_ne (fun q => hi q.symm)]
    by_cases h : i < 46
    · rw [wld_at h, wld_at h, h2 i hi]
    · rw [List.getElem?_eq_none (by rw [wld_len]; omega), List.getElem?_eq_none (by rw [wld_len]; omega)]
theorem cel_sub {a : Nat → Nat → Int32} {q : Nat} (h : a q = σ.1 q) : cel ad cI cZ cII (a, σ.2) q = cel ad cI cZ cII σ q := by
  unfold cel
  rw [obj_arr]
  cases obj q σ with
  | some o => rfl
  | none => simp only [h]
theorem wld_sR (f : Nat → Int32) (h : isI p) : (wld ad cI cZ cII σ).set p (ad p, .inl (cI, al p, .inl f)) = wld ad cI cZ cII (sR σ p f) := by
  refine wld_set h.2.1 ?_ (fun q hq => cel_sub (if_neg hq))
  rw [cel_arr h.1, if_neg h.2.2]
  unfold sR
  simp
theorem wld_sA (i : Nat) (x : Int32) (h : isI p) : (wld ad cI cZ cII σ).set p (ad p, .inl (cI, al p, .inl (upd (σ.1 p) i x))) = wld ad cI cZ cII (sA σ p i x) := wld_sR (upd (σ.1 p) i x) h
theorem wld_s13 (i : Nat) (x : Int32) : (wld ad cI cZ cII σ).set 13 (ad 13, .inl (cZ, 20, .inl (upd (σ.1 13) i x))) = wld ad cI cZ cII (sA σ 13 i x) := by
  refine wld_set (by decide) ?_ (fun q hq => cel_sub (if_neg hq))
  rw [cel_arr (by decide), if_pos rfl]
  unfold sA
  simp
  rfl
theorem wld_sF {fi k ci : Nat} {vs : List Value} (x : Int32) (h : fk p fi = some k) (ho : obj p σ = some (ci, vs)) : (wld ad cI cZ cII σ).set p (ad p, .inr (ci, (vs.map (rv ad)).set fi (.int x))) = wld ad cI cZ cII (sF σ k x) := by
  obtain ⟨h1, h2, -⟩ := obj_sF σ x h ho
  refine wld_set (by have := obj_lt ho; omega) ?_ (fun q hq => ?_)
  · rw [cel_obj h1, List.map_set]
    rfl
  · unfold cel
    rw [h2 q hq]
    rfl
theorem wld_sH {ci : Nat} {vs : List Value} (x : Int64) (ho : obj 11 σ = some (ci, vs)) : (wld ad cI cZ cII σ).set 11 (ad 11, .inr (ci, (vs.map (rv ad)).set 13 (.long x))) = wld ad cI cZ cII (sH σ x) := by
  refine wld_set (by decide) ?_ (fun q hq => ?_)
  · cases ho
    rfl
  · unfold cel
    rw [obj_sH σ x q hq]
    rfl
end WLD
/-! locals -/
def ldv : Nat → List (Option Value) → Option Value
  | _, [] => none
  | 0, a :: _ => a
  | n + 1, _ :: r => ldv n r
def unL : Option Value → Option Value
  | some v => if v.category = 2 then none else some v
  | none => none
def sto : Nat → Value → List (Option Value) → List (Option Value)
  | _, _, [] => []
  | 0, v, _ :: r => some v :: r
  | 1, v, a :: r => unL a :: sto 0 v r
  | n + 2, v, a :: r => a :: sto (n + 1) v r
def clr : Nat → List (Option Value) → List (Option Value)
  | _, [] => []
  | 0, _ :: r => none :: r
  | n + 1, a :: r => a :: clr n r
theorem sto_len : ∀ (i : Nat) (v : Value) (L : List (Option Value)), (sto i v L).length = L.length
  | 0, _, [] => rfl
  | 0, _, _ :: _ => rfl
  | 1, _, [] => rfl
  | 1, v, a :: r => by
    show (sto 0 v r).length + 1 = r.length + 1
    rw [sto_len 0 v r]
  | n + 2, _, [] => rfl
  | n + 2, v, a :: r => by
    show (sto (n + 1) v r).length + 1 = r.length + 1
    rw [sto_len (n + 1) v r]
theorem clr_len : ∀ (i : Nat) (L : List (Option Value)), (clr i L).length = L.length
  | 0, [] => rfl
  | 0, _ :: _ => rfl
  | n + 1, [] => rfl
  | n + 1, a :: r => by
    show (clr n r).length + 1 = r.length + 1
    rw [clr_len n r]
theorem clr_get : ∀ (i : Nat) (L : List (Option Value)) (j : Nat) (w : Value), ldv j (clr i L) = some w → ldv j L = some w ∧ j ≠ i
  | 0, [], j, w, h => by cases j <;> cases h
  | 0, a :: r, 0, w, h => by cases h
  | 0, a :: r, j + 1, w, h => ⟨h, by omega⟩
  | n + 1, [], j, w, h => by cases j <;> cases h
  | n + 1, a :: r, 0, w, h => ⟨h, by omega⟩
  | n + 1, a :: r, j + 1, w, h => by
    obtain ⟨h1, h2⟩ := clr_get n r j w h
    exact ⟨h1, by omega⟩
theorem unL_some {a : Option Value} {w : Value} (h : unL a = some w) : a = some w ∧ w.category ≠ 2 := by
  cases a with
  | none => cases h
  | some v =>
    unfold unL at h
    by_cases hc : v.category = 2
    · simp only [hc, if_true] at h
      cases h
    · simp only [hc, if_false] at h
      cases h
      exact ⟨rfl, hc⟩
theorem sto_get : ∀ (i : Nat) (v : Value) (L : List (Option Value)) (j : Nat) (w : Value), ldv j (sto i v L) = some w → (j = i ∧ w = v) ∨ (j ≠ i ∧ ldv j L = some w ∧ ¬ (j + 1 = i ∧ w.category = 2))
  | 0, v, [], j, w, h => by cases j <;> cases h
  | 0, v, a :: r, 0, w, h => Or.inl ⟨rfl, (Option.some.inj h).symm⟩
  | 0, v, a :: r, j + 1, w, h => Or.inr ⟨by omega, h, fun q => by omega⟩
  | 1, v, [], j, w, h => by cases j <;> cases h
  | 1, v, a :: r, 0, w, h => by
    obtain ⟨h1, h2⟩ := unL_some (show unL a = some w from h)
    exact Or.inr ⟨by omega, h1, fun q => h2 q.2⟩
  | 1, v, a :: r, j + 1, w, h => by
    rcases sto_get 0 v r j w h with ⟨h1, h2⟩ | ⟨h1, h2, h3⟩
    · exact Or.inl ⟨by omega, h2⟩
    · exact Or.inr ⟨by omega, h2, fun q => by omega⟩
  | n + 2, v, [], j, w, h => by cases j <;> cases h
  | n + 2, v, a :: r, 0, w, h => Or.inr ⟨by omega, h, fun q => by omega⟩
  | n + 2, v, a :: r, j + 1, w, h => by
    rcases sto_get (n + 1) v r j w h with ⟨h1, h2⟩ | ⟨h1, h2, h3⟩
    · exact Or.inl ⟨by omega, h2⟩
    · exact Or.inr ⟨by omega, h2, fun q => h3 ⟨by omega, q.2⟩⟩
theorem ldv_lt : ∀ (j : Nat) (L : List (Option Value)) (w : Value), ldv j L = some w → j < L.length
  | 0, [], w, h => by cases h
  | j + 1, [], w, h => by cases h
  | 0, a :: r, w, h => by simp
  | j + 1, a :: r, w, h => by
    have := ldv_lt j r w h
    simp
    omega
def LH (ad : Nat → Nat) (ls : Array Slot) (n : Nat) (L : List (Option Value)) : Prop := L.length = n ∧ ls.size = n ∧ lv_wf ls ∧ ∀ (i : Nat) (v : Value), ldv i L = some v → ls[i]? = some (.val (rv ad v))
def lvl (ad : Nat → Nat) (L : List (Option Value)) : List (Nat × Value) := (List.range L.length).filterMap (fun j => (ldv j L).map (fun v => (j, rv ad v)))
theorem lvl_mem {ad : Nat → Nat} {L : List (Option Value)} {j : Nat} {v : Value} (h : ldv j L = some v) : (j, rv ad v) ∈ lvl ad L := by
  refine List.mem_filterMap.mpr ⟨j, List.mem_range.mpr (ldv_lt j L v h), ?_⟩
  rw [h]
  rfl
theorem lvl_get {ad : Nat → Nat} {L : List (Option Value)} {q : Nat × Value} (h : q ∈ lvl ad L) : ∃ v, ldv q.1 L = some v ∧ q.2 = rv ad v := by
  obtain ⟨j, -, hj⟩ := List.mem_filterMap.mp h
  cases hl : ldv j L with
  | none => rw [hl] at hj; cases hj
  | some v =>
    rw [hl] at hj
    cases hj
    exact ⟨v, hl, rfl⟩
theorem LH.has {ad : Nat → Nat} {ls : Array Slot} {n : Nat} {L : List (Option Value)} (h : LH ad ls n L) : lv_has ls n (lvl ad L) := by
  refine ⟨h.2.1, h.2.2.1, fun q hq => ?_⟩
  obtain ⟨v, h1, h2⟩ := lvl_get hq
  rw [h2]
  exact h.2.2.2 _ _ h1
theorem LH.place {ad : Nat → Nat} {ls : Array Slot} {n : Nat} {L : List (Option Value)} (h : LH ad ls n L) {i : Nat} {v : Value} (hv : ldv i L = some v) : ∃ k : Nat, (lvl ad L)[k]? = some (i, rv ad v) := List.getElem?_of_mem (lvl_mem hv)
theorem LH_sto {ad : Nat → Nat} {ls : Array Slot} {n i : Nat} {L : List (Option Value)} {v : Value} (hn : L.length = n) (h : lv_has ls n ((i, rv ad v) :: (lvl ad L).filter (fun q => !(q.1 == i) && !(q.1 + 1 == i && q.2.category == 2)))) : LH ad ls n (sto i v L) := by
  refine ⟨(sto_len i v L).trans hn, h.1, h.2.1, fun j w hw => ?_⟩
  rcases sto_get i v L j w hw with ⟨rfl, rfl⟩ | ⟨h1, h2, h3⟩
  · exact h.2.2 _ List.mem_cons_self
  · refine h.2.2 (j, rv ad w) (List.mem_cons_of_mem _ (List.mem_filter.mpr ⟨lvl_mem h2, ?_⟩))
    have e1 : (j == i) = false := by simp [h1]
    have e2 : (j + 1 == i && (rv ad w).category == 2) = false := by
      rw [rv_cat]
      by_cases a : j + 1 = i
      · by_cases b : w.category = 2
        · exact absurd ⟨a, b⟩ h3
        · simp [b]
      · simp [a]
    simp only [e1, e2]
    rfl
theorem LH_stl {ad : Nat → Nat} {ls : Array Slot} {n i : Nat} {L : List (Option Value)} {v : Value} (hn : L.length = n) (h : lv_has ls n ((i, rv ad v) :: (lvl ad L).filter (fun q => !(q.1 == i) && (!(q.1 == i + 1) && !(q.1 + 1 == i && q.2.category == 2))))) : LH ad ls n (sto i v (clr (i + 1) L)) := by
  refine ⟨(sto_len i v _).trans ((clr_len _ _).trans hn), h.1, h.2.1, fun j w hw => ?_⟩
  rcases sto_get i v _ j w hw with ⟨rfl, rfl⟩ | ⟨h1, h2, h3⟩
  · exact h.2.2 _ List.mem_cons_self
  · obtain ⟨h4, h5⟩ := clr_get _ _ _ _ h2
    refine h.2.2 (j, rv ad w) (List.mem_cons_of_mem _ (List.mem_filter.mpr ⟨lvl_mem h4, ?_⟩))
    have e1 : (j == i) = false := by simp [h1]
    have e3 : (j == i + 1) = false := by simp [h5]
    have e2 : (j + 1 == i && (rv ad w).category == 2) = false := by
      rw [rv_cat]
      by_cases a : j + 1 = i
      · by_cases b : w.category = 2
        · exact absurd ⟨a, b⟩ h3
        · simp [b]
      · simp [a]
    simp only [e1, e2, e3]
    rfl
/-! what the statics hold; the links' facts -/
def lst (g i : Nat) : Int32 := if g = 100 then (match i with
  | 0 => 1
  | 4 => 1
  | _ => 0) else (match i with
  | 0 => 100
  | 1 => 50
  | 2 => 80
  | 3 => 100
  | _ => 100)
def snm (g : Nat) : String := if g = 100 then "LEAST_VALUES" else "MOST_VALUES"
def Sta (ad : Nat → Nat) (A : Nat → Prop) (U : State) (H : Heap) : Prop := ∀ g, g = 100 ∨ g = 101 → va_Z "PhrasePool" (snm g) "[I" (.ref (ad g)) A U H ∧ va_T .int (ad g) 5 (fun i => .int (lst g i)) A U H
/-- a field's link: own class, index; the object's class, the field's place -/
def FL (o idx ci fi : Nat) : Prop := ∃ (C : String) (T : u_T) (N : Nat), vwCl[ci]? = some (C, T, N) ∧ fi < N ∧ (∀ w ∈ u_ws C T N, w ∈ g_tbl) ∧ (Cond.fieldLink (RN o) idx (T fi).1 (T fi).2.1 (T fi).2.2.1 ∈ g_tbl ∨ ∃ host, Cond.fieldLinkNest (RN o) idx (T fi).1 (T fi).2.1 (T fi).2.2.1 host ∈ n_tbl)
/-- a field that is written: not final, of this descriptor -/
def FP (o idx ci fi : Nat) (ds : String) : Prop := ∃ (C : String) (T : u_T) (N : Nat) (ty0 : Nat → FieldType), vwCl[ci]? = some (C, T, N) ∧ fi < N ∧ (∀ w ∈ u_ws C T N, w ∈ g_tbl) ∧ (∀ k, k < N → parseFieldDescriptor (T k).2.2.1 = some (ty0 k)) ∧ (∀ a, a < N → ∀ b, b < N → a ≠ b → (T a).2.1 ≠ (T b).2.1) ∧ (T fi).2.2.2 = false ∧ (T fi).2.2.1 = ds ∧ Cond.fieldLink (RN o) idx (T fi).1 (T fi).2.1 (T fi).2.2.1 ∈ g_tbl
/-- what every callee wants -/
def LK0 (M' : MD) (n : Nat) : Prop := Cond.code (my M') (mc M') (ml M') (mr M') ∈ g_tbl ∧ Cond.initialized (my M').cls ∈ g_tbl ∧ ((my M').cls ≠ "java/lang/invoke/MethodHandle" ∧ (my M').cls ≠ "java/lang/invoke/VarHandle" ∧ (parseMethodDescriptor (my M').desc).map (fun d => d.parameters.length) = some n) ∧ ml M' ≤ 16
def LKI (M' : MD) (n ci : Nat) : Prop := LK0 M' n ∧ Cond.instanceMethod (my M') ∈ g_tbl ∧ Cond.selects (my M').cls (my M') (my M') ∈ g_tbl ∧ (vwCl[ci]?).map (fun q => q.1) = some (my M').cls
def LKV (o idx : Nat) (M' : MD) (n ci : Nat) : Prop := LKI M' n ci ∧ Cond.methodLink (RN o) idx (my M') ∈ g_tbl
def LKN (o idx : Nat) (M' : MD) (n ci : Nat) : Prop := LKI M' n ci ∧ ∃ host, Cond.methodLinkNest (RN o) idx (my M') host ∈ n_tbl
def LKS (o idx : Nat) (M' : MD) (n : Nat) : Prop := LK0 M' n ∧ Cond.methodLink (RN o) idx (my M') ∈ g_tbl ∧ Cond.static (my M') ∈ g_tbl
/-! the judgement -/
def AA (ad : Nat → Nat) (sz : Nat) : Nat → Prop := fun q => (∃ k, k < 46 ∧ q = ad k) ∨ sz ≤ q
def rmd (d : Nat) : Room := { frames := d, cells := 0, slots := 0, locals := 35 * d }
abbrev Scr : Type := Nat × (Nat → Int32)
def VCtx (M : MD) (d : Nat) (sc : Scr) (p : Program) (R : Room) (s : State) (m : MethodId) (args : Array Value) (meth : Method) (c : Code) (D : va_G) (ad : Nat → Nat) (cI cZ cII : ClassId) (A : Nat → Prop) (cells slots : Nat) : Prop :=
  p.tables.exec = Jvm.exec ∧ c.code = mc M ∧ c.maxLocals = ml M ∧ meth.sig.returnType = mr M ∧ meth.locks = false ∧ (∀ w ∈ g_tbl, w.before args s = true) ∧ s.vm.findClass (RN (mo M)) = some m.cls ∧ (∀ w ∈ n_tbl, va_Nw w s) ∧ va_K D vwCl [(cI, .int), (cZ, .boolean), (cII, .array .int)] s ∧ Sta ad A s s.heap ∧ (∀ q, s.heap.size ≤ q → A q) ∧ (d ≤ R.frames ∧ 35 * d ≤ R.locals ∧ cells ≤ R.cells ∧ slots ≤ R.slots) ∧ (mo M = 8 → va_X (ad 102) sc.1 sc.2 s s.heap ∧ ad 102 < s.heap.size ∧ ¬ A (ad 102))
def Wd (D : va_G) (ad : Nat → Nat) (cI cZ cII : ClassId) (A : Nat → Prop) (s : State) (σ : SS) (H : Heap) (locs : List Loc) : Prop := va_P D vwCl (wld ad cI cZ cII σ) H ∧ va_D A (wld ad cI cZ cII σ) ∧ va_S A s.heap H locs
def isRet (M : MD) (r : Option Value) (pc : Nat) : Prop := match r with
  | none => decode (mc M) pc = .ok (.return_, 1) ∧ mr M = none
  | some (.int v) => decode (mc M) pc = .ok (.ireturn, 1) ∧ ∃ ty, mr M = some ty ∧ narrow ty (.int v) = .int v
  | some (.long _) => decode (mc M) pc = .ok (.lreturn, 1) ∧ mr M = some .long
  | _ => False
def VV (M : MD) (d : Nat) (sc : Scr) (pc : Nat) (L : List (Option Value)) (st : List Value) (σ : SS) (Q : Option Value → SS → Prop) : Prop :=
  ∀ (p : Program) (l : Launch) (e : Env) (R : Room) (s : State) (m : MethodId) (args : Array Value) (below : List Frame) (meth : Method) (c : Code) (D : va_G) (ad : Nat → Nat) (cI cZ cII : ClassId) (A : Nat → Prop) (cells slots : Nat) (Z : State → Prop), VCtx M d sc p R s m args meth c D ad cI cZ cII A cells slots →
    (∀ (r : Option Value) (σ' : SS) (H : Heap) (locs : List Loc) (ls : Array Slot) (pc' : Nat), isRet M r pc' → Q r σ' → Wd D ad cI cZ cII A s σ' H locs → W p l e R s m args below meth c H locs cells slots Z (F0 m pc' ls ((r.toList).map (rv ad)))) →
    ∀ (H : Heap) (locs : List Loc) (ls : Array Slot), Wd D ad cI cZ cII A s σ H locs → LH ad ls (ml M) L → W p l e R s m args below meth c H locs cells slots Z (F0 m pc ls (st.map (rv ad)))

section RULES
variable {M : MD} {d pc q : Nat} {sc : Scr} {L : List (Option Value)} {st : List Value} {σ : SS} {Q : Option Value → SS → Prop}
theorem v_iconst {n : Int} {v : Int32} (hd : decode (mc M) pc = .ok (.iconst n, 1)) (hq : pc + 1 = q) (hv : Int32.ofInt n = v) (k : VV M d sc q L (.int v :: st) σ Q) : VV M d sc pc L (st) σ Q := by
  subst hq
  intro p l e R s m args below meth c D ad cI cZ cII A cells slots Z C hZ H locs ls hW hL
  exact lv_iconst C.1 C.2.1 hd hv (k p l e R s m args below meth c D ad cI cZ cII A cells slots Z C hZ H locs ls hW hL)
theorem v_bipush {n : Int} {v : Int32} (hd : decode (mc M) pc = .ok (.bipush n, 2)) (hq : pc + 2 = q) (hv : (Int8.ofInt n).toInt32 = v) (k : VV M d sc q L (.int v :: st) σ Q) : VV M d sc pc L (st) σ Q := by
  subst hq
  intro p l e R s m args below meth c D ad cI cZ cII A cells slots Z C hZ H locs ls hW hL
  exact lv_bipush C.1 C.2.1 hd hv (k p l e R s m args below meth c D ad cI cZ cII A cells slots Z C hZ H locs ls hW hL)
theorem v_sipush {n : Int} {v : Int32} (hd : decode (mc M) pc = .ok (.sipush n, 3)) (hq : pc + 3 = q) (hv : (Int16.ofInt n).toInt32 = v) (k : VV M d sc q L (.int v :: st) σ Q) : VV M d sc pc L (st) σ Q := by
  subst hq
  intro p l e R s m args below meth c D ad cI cZ cII A cells slots Z C hZ H locs ls hW hL
  exact lv_sipush C.1 C.2.1 hd hv (k p l e R s m args below meth c D ad cI cZ cII A cells slots Z C hZ H locs ls hW hL)
theorem v_ldc {idx : Nat} {v : Int32} (hd : decode (mc M) pc = .ok (.ldc idx, 2)) (hq : pc + 2 = q) (hc : Cond.constant (RN (mo M)) idx v ∈ g_tbl) (k : VV M d sc q L (.int v :: st) σ Q) : VV M d sc pc L (st) σ Q := by
  subst hq
  intro p l e R s m args below meth c D ad cI cZ cII A cells slots Z C hZ H locs ls hW hL
  obtain ⟨hx, hb, hml, hr, hlk, hts, hown, hnw, hK, hSt, hA, hR, hlaw⟩ := id C
  exact lv_ldc hx hb hown (hts _ hc) hd (k p l e R s m args below meth c D ad cI cZ cII A cells slots Z C hZ H locs ls hW hL)
theorem v_ldc2 {idx : Nat} {v : Int64} (hd : decode (mc M) pc = .ok (.ldc2_w idx, 3)) (hq : pc + 3 = q) (hc : Cond.constantLong (RN (mo M)) idx v ∈ g_tbl) (k : VV M d sc q L (.long v :: st) σ Q) : VV M d sc pc L (st) σ Q := by
  subst hq
  intro p l e R s m args below meth c D ad cI cZ cII A cells slots Z C hZ H locs ls hW hL
  obtain ⟨hx, hb, hml, hr, hlk, hts, hown, hnw, hK, hSt, hA, hR, hlaw⟩ := id C
  exact lv_ldc2 hx hb hown (hts _ hc) hd (k p l e R s m args below meth c D ad cI cZ cII A cells slots Z C hZ H locs ls hW hL)
theorem v_iload_n {f : Fin 4} {x : Int32} (hd : decode (mc M) pc = .ok (.iload_n f, 1)) (hq : pc + 1 = q) (h : ldv f L = some (.int x)) (k : VV M d sc q L (.int x :: st) σ Q) : VV M d sc pc L (st) σ Q := by
  subst hq
  intro p l e R s m args below meth c D ad cI cZ cII A cells slots Z C hZ H locs ls hW hL
  exact lv_iload_n C.1 C.2.1 hd rfl (hL.2.2.2 _ _ h) (k p l e R s m args below meth c D ad cI cZ cII A cells slots Z C hZ H locs ls hW hL)
theorem v_iload {i : Nat} {x : Int32} (hd : decode (mc M) pc = .ok (.iload i, 2)) (hq : pc + 2 = q) (h : ldv i L = some (.int x)) (k : VV M d sc q L (.int x :: st) σ Q) : VV M d sc pc L (st) σ Q := by
  subst hq
  intro p l e R s m args below meth c D ad cI cZ cII A cells slots Z C hZ H locs ls hW hL
  exact lv_iload C.1 C.2.1 hd (hL.2.2.2 _ _ h) (k p l e R s m args below meth c D ad cI cZ cII A cells slots Z C hZ H locs ls hW hL)
theorem v_lload_n {f : Fin 4} {x : Int64} (hd : decode (mc M) pc = .ok (.lload_n f, 1)) (hq : pc + 1 = q) (h : ldv f L = some (.long x)) (k : VV M d sc q L (.long x :: st) σ Q) : VV M d sc pc L (st) σ Q := by
  subst hq
  intro p l e R s m args below meth c D ad cI cZ cII A cells slots Z C hZ H locs ls hW hL
  exact lv_lload_n C.1 C.2.1 hd rfl (hL.2.2.2 _ _ h) (k p l e R s m args below meth c D ad cI cZ cII A cells slots Z C hZ H locs ls hW hL)
theorem v_lload {i : Nat} {x : Int64} (hd : decode (mc M) pc = .ok (.lload i, 2)) (hq : pc + 2 = q) (h : ldv i L = some (.long x)) (k : VV M d sc q L (.long x :: st) σ Q) : VV M d sc pc L (st) σ Q := by
  subst hq
  intro p l e R s m args below meth c D ad cI cZ cII A cells slots Z C hZ H locs ls hW hL
  exact lv_lload C.1 C.2.1 hd (hL.2.2.2 _ _ h) (k p l e R s m args below meth c D ad cI cZ cII A cells slots Z C hZ H locs ls hW hL)
theorem v_aload_n {f : Fin 4} {x : Nat} (hd : decode (mc M) pc = .ok (.aload_n f, 1)) (hq : pc + 1 = q) (h : ldv f L = some (.ref x)) (k : VV M d sc q L (.ref x :: st) σ Q) : VV M d sc pc L (st) σ Q := by
  subst hq
  intro p l e R s m args below meth c D ad cI cZ cII A cells slots Z C hZ H locs ls hW hL
  exact lv_aload_n C.1 C.2.1 hd rfl (hL.2.2.2 _ _ h) (k p l e R s m args below meth c D ad cI cZ cII A cells slots Z C hZ H locs ls hW hL)
theorem v_aload {i : Nat} {x : Nat} (hd : decode (mc M) pc = .ok (.aload i, 2)) (hq : pc + 2 = q) (h : ldv i L = some (.ref x)) (k : VV M d sc q L (.ref x :: st) σ Q) : VV M d sc pc L (st) σ Q := by
  subst hq
  intro p l e R s m args below meth c D ad cI cZ cII A cells slots Z C hZ H locs ls hW hL
  exact lv_aload C.1 C.2.1 hd (hL.2.2.2 _ _ h) (k p l e R s m args below meth c D ad cI cZ cII A cells slots Z C hZ H locs ls hW hL)
theorem v_istore_n {f : Fin 4} {x : Int32} {L2 : List (Option Value)} (hd : decode (mc M) pc = .ok (.istore_n f, 1)) (hq : pc + 1 = q) (hi : f < ml M) (hl : sto f (.int x) L = L2) (k : VV M d sc q L2 st σ Q) : VV M d sc pc L ((.int x) :: st) σ Q := by
  subst hq
  subst hl
  intro p l e R s m args below meth c D ad cI cZ cII A cells slots Z C hZ H locs ls hW hL
  exact lv_istore_n C.1 C.2.1 hd rfl hL.has hi rfl (fun ls hl => k p l e R s m args below meth c D ad cI cZ cII A cells slots Z C hZ H locs ls hW (LH_sto (v := .int x) hL.1 hl))
theorem v_istore {i : Nat} {x : Int32} {L2 : List (Option Value)} (hd : decode (mc M) pc = .ok (.istore i, 2)) (hq : pc + 2 = q) (hi : i < ml M) (hl : sto i (.int x) L = L2) (k : VV M d sc q L2 st σ Q) : VV M d sc pc L ((.int x) :: st) σ Q := by
  subst hq
  subst hl
  intro p l e R s m args below meth c D ad cI cZ cII A cells slots Z C hZ H locs ls hW hL
  exact lv_istore C.1 C.2.1 hd hL.has hi rfl (fun ls hl => k p l e R s m args below meth c D ad cI cZ cII A cells slots Z C hZ H locs ls hW (LH_sto (v := .int x) hL.1 hl))
theorem v_astore_n {f : Fin 4} {x : Nat} {L2 : List (Option Value)} (hd : decode (mc M) pc = .ok (.astore_n f, 1)) (hq : pc + 1 = q) (hi : f < ml M) (hl : sto f (.ref x) L = L2) (k : VV M d sc q L2 st σ Q) : VV M d sc pc L ((.ref x) :: st) σ Q := by
  subst hq
  subst hl
  intro p l e R s m args below meth c D ad cI cZ cII A cells slots Z C hZ H locs ls hW hL
  exact lv_astore_n C.1 C.2.1 hd rfl hL.has hi rfl (fun ls hl => k p l e R s m args below meth c D ad cI cZ cII A cells slots Z C hZ H locs ls hW (LH_sto (v := .ref x) hL.1 hl))
theorem v_astore {i : Nat} {x : Nat} {L2 : List (Option Value)} (hd : decode (mc M) pc = .ok (.astore i, 2)) (hq : pc + 2 = q) (hi : i < ml M) (hl : sto i (.ref x) L = L2) (k : VV M d sc q L2 st σ Q) : VV M d sc pc L ((.ref x) :: st) σ Q := by
  subst hq
  subst hl
  intro p l e R s m args below meth c D ad cI cZ cII A cells slots Z C hZ H locs ls hW hL
  exact lv_astore C.1 C.2.1 hd hL.has hi rfl (fun ls hl => k p l e R s m args below meth c D ad cI cZ cII A cells slots Z C hZ H locs ls hW (LH_sto (v := .ref x) hL.1 hl))
theorem v_lstore_n {f : Fin 4} {x : Int64} {L2 : List (Option Value)} (hd : decode (mc M) pc = .ok (.lstore_n f, 1)) (hq : pc + 1 = q) (hi : f + 1 < ml M) (hl : sto f (.long x) (clr (f + 1) L) = L2) (k : VV M d sc q L2 st σ Q) : VV M d sc pc L ((.long x) :: st) σ Q := by
  subst hq
  subst hl
  intro p l e R s m args below meth c D ad cI cZ cII A cells slots Z C hZ H locs ls hW hL
  exact lv_lstore_n C.1 C.2.1 hd rfl hL.has hi rfl (fun ls hl => k p l e R s m args below meth c D ad cI cZ cII A cells slots Z C hZ H locs ls hW (LH_stl (v := .long x) hL.1 hl))
theorem v_lstore {i : Nat} {x : Int64} {L2 : List (Option Value)} (hd : decode (mc M) pc = .ok (.lstore i, 2)) (hq : pc + 2 = q) (hi : i + 1 < ml M) (hl : sto i (.long x) (clr (i + 1) L) = L2) (k : VV M d sc q L2 st σ Q) : VV M d sc pc L ((.long x) :: st) σ Q := by
  subst hq
  subst hl
  intro p l e R s m args below meth c D ad cI cZ cII A cells slots Z C hZ H locs ls hW hL
  exact lv_lstore C.1 C.2.1 hd hL.has hi rfl (fun ls hl => k p l e R s m args below meth c D ad cI cZ cII A cells slots Z C hZ H locs ls hW (LH_stl (v := .long x) hL.1 hl))
theorem v_iinc {i : Nat} {n : Int} {x y : Int32} {L2 : List (Option Value)} (hd : decode (mc M) pc = .ok (.iinc i n, 3)) (hq : pc + 3 = q) (h : ldv i L = some (.int x)) (hy : x + Int32.ofInt n = y) (hi : i < ml M) (hl : sto i (.int y) L = L2) (k : VV M d sc q L2 st σ Q) : VV M d sc pc L st σ Q := by
  subst hq
  subst hl
  intro p l e R s m args below meth c D ad cI cZ cII A cells slots Z C hZ H locs ls hW hL
  obtain ⟨k0, hk0⟩ := hL.place h
  exact lv_iinc (k := k0) C.1 C.2.1 hd hL.has hk0 hy hi rfl (fun ls hl => k p l e R s m args below meth c D ad cI cZ cII A cells slots Z C hZ H locs ls hW (LH_sto (v := .int y) hL.1 hl))
theorem v_iadd {x y : Int32} (hd : decode (mc M) pc = .ok (.iadd, 1)) (hq : pc + 1 = q) (k : VV M d sc q L (.int (x + y) :: st) σ Q) : VV M d sc pc L (.int y :: .int x :: st) σ Q := by
  subst hq
  intro p l e R s m args below meth c D ad cI cZ cII A cells slots Z C hZ H locs ls hW hL
  exact lv_iadd C.1 C.2.1 hd (k p l e R s m args below meth c D ad cI cZ cII A cells slots Z C hZ H locs ls hW hL)
theorem v_isub {x y : Int32} (hd : decode (mc M) pc = .ok (.isub, 1)) (hq : pc + 1 = q) (k : VV M d sc q L (.int (x - y) :: st) σ Q) : VV M d sc pc L (.int y :: .int x :: st) σ Q := by
  subst hq
  intro p l e R s m args below meth c D ad cI cZ cII A cells slots Z C hZ H locs ls hW hL
  exact lv_isub C.1 C.2.1 hd (k p l e R s m args below meth c D ad cI cZ cII A cells slots Z C hZ H locs ls hW hL)
theorem v_imul {x y : Int32} (hd : decode (mc M) pc = .ok (.imul, 1)) (hq : pc + 1 = q) (k : VV M d sc q L (.int (x * y) :: st) σ Q) : VV M d sc pc L (.int y :: .int x :: st) σ Q := by
  subst hq
  intro p l e R s m args below meth c D ad cI cZ cII A cells slots Z C hZ H locs ls hW hL
  exact lv_imul C.1 C.2.1 hd (k p l e R s m args below meth c D ad cI cZ cII A cells slots Z C hZ H locs ls hW hL)
theorem v_iand {x y : Int32} (hd : decode (mc M) pc = .ok (.iand, 1)) (hq : pc + 1 = q) (k : VV M d sc q L (.int (x &&& y) :: st) σ Q) : VV M d sc pc L (.int y :: .int x :: st) σ Q := by
  subst hq
  intro p l e R s m args below meth c D ad cI cZ cII A cells slots Z C hZ H locs ls hW hL
  exact lv_iand C.1 C.2.1 hd (k p l e R s m args below meth c D ad cI cZ cII A cells slots Z C hZ H locs ls hW hL)
theorem v_ior {x y : Int32} (hd : decode (mc M) pc = .ok (.ior, 1)) (hq : pc + 1 = q) (k : VV M d sc q L (.int (x ||| y) :: st) σ Q) : VV M d sc pc L (.int y :: .int x :: st) σ Q := by
  subst hq
  intro p l e R s m args below meth c D ad cI cZ cII A cells slots Z C hZ H locs ls hW hL
  exact lv_ior C.1 C.2.1 hd (k p l e R s m args below meth c D ad cI cZ cII A cells slots Z C hZ H locs ls hW hL)
theorem v_ishl {x y : Int32} (hd : decode (mc M) pc = .ok (.ishl, 1)) (hq : pc + 1 = q) (k : VV M d sc q L (.int (x <<< (y &&& 31)) :: st) σ Q) : VV M d sc pc L (.int y :: .int x :: st) σ Q := by
  subst hq
  intro p l e R s m args below meth c D ad cI cZ cII A cells slots Z C hZ H locs ls hW hL
  exact lv_ishl C.1 C.2.1 hd (k p l e R s m args below meth c D ad cI cZ cII A cells slots Z C hZ H locs ls hW hL)
theorem v_ishr {x y : Int32} (hd : decode (mc M) pc = .ok (.ishr, 1)) (hq : pc + 1 = q) (k : VV M d sc q L (.int (x >>> (y &&& 31)) :: st) σ Q) : VV M d sc pc L (.int y :: .int x :: st) σ Q := by
  subst hq
  intro p l e R s m args below meth c D ad cI cZ cII A cells slots Z C hZ H locs ls hW hL
  exact lv_ishr C.1 C.2.1 hd (k p l e R s m args below meth c D ad cI cZ cII A cells slots Z C hZ H locs ls hW hL)
theorem v_idiv {x y : Int32} (hd : decode (mc M) pc = .ok (.idiv, 1)) (hq : pc + 1 = q) (hne : ¬ y = 0) (k : VV M d sc q L (.int (x / y) :: st) σ Q) : VV M d sc pc L (.int y :: .int x :: st) σ Q := by
  subst hq
  intro p l e R s m args below meth c D ad cI cZ cII A cells slots Z C hZ H locs ls hW hL
  exact lv_idiv C.1 C.2.1 hd hne (k p l e R s m args below meth c D ad cI cZ cII A cells slots Z C hZ H locs ls hW hL)
theorem v_irem {x y : Int32} (hd : decode (mc M) pc = .ok (.irem, 1)) (hq : pc + 1 = q) (hne : ¬ y = 0) (k : VV M d sc q L (.int (x - x / y * y) :: st) σ Q) : VV M d sc pc L (.int y :: .int x :: st) σ Q := by
  subst hq
  intro p l e R s m args below meth c D ad cI cZ cII A cells slots Z C hZ H locs ls hW hL
  exact lv_irem C.1 C.2.1 hd hne (k p l e R s m args below meth c D ad cI cZ cII A cells slots Z C hZ H locs ls hW hL)
theorem v_ineg {x : Int32} (hd : decode (mc M) pc = .ok (.ineg, 1)) (hq : pc + 1 = q) (k : VV M d sc q L (.int (-x) :: st) σ Q) : VV M d sc pc L (.int x :: st) σ Q := by
  subst hq
  intro p l e R s m args below meth c D ad cI cZ cII A cells slots Z C hZ H locs ls hW hL
  exact lv_ineg C.1 C.2.1 hd (k p l e R s m args below meth c D ad cI cZ cII A cells slots Z C hZ H locs ls hW hL)
theorem v_i2l {x : Int32} (hd : decode (mc M) pc = .ok (.i2l, 1)) (hq : pc + 1 = q) (k : VV M d sc q L (.long x.toInt64 :: st) σ Q) : VV M d sc pc L (.int x :: st) σ Q := by
  subst hq
  intro p l e R s m args below meth c D ad cI cZ cII A cells slots Z C hZ H locs ls hW hL
  exact lv_i2l C.1 C.2.1 hd rfl (k p l e R s m args below meth c D ad cI cZ cII A cells slots Z C hZ H locs ls hW hL)
theorem v_ladd {x y : Int64} (hd : decode (mc M) pc = .ok (.ladd, 1)) (hq : pc + 1 = q) (k : VV M d sc q L (.long (x + y) :: st) σ Q) : VV M d sc pc L (.long y :: .long x :: st) σ Q := by
  subst hq
  intro p l e R s m args below meth c D ad cI cZ cII A cells slots Z C hZ H locs ls hW hL
  exact lv_ladd C.1 C.2.1 hd (k p l e R s m args below meth c D ad cI cZ cII A cells slots Z C hZ H locs ls hW hL)
theorem v_lmul {x y : Int64} (hd : decode (mc M) pc = .ok (.lmul, 1)) (hq : pc + 1 = q) (k : VV M d sc q L (.long (x * y) :: st) σ Q) : VV M d sc pc L (.long y :: .long x :: st) σ Q := by
  subst hq
  intro p l e R s m args below meth c D ad cI cZ cII A cells slots Z C hZ H locs ls hW hL
  exact lv_lmul C.1 C.2.1 hd (k p l e R s m args below meth c D ad cI cZ cII A cells slots Z C hZ H locs ls hW hL)
theorem v_lcmp {x y : Int64} (hd : decode (mc M) pc = .ok (.lcmp, 1)) (hq : pc + 1 = q) (k : VV M d sc q L (.int (lg_cmp x y) :: st) σ Q) : VV M d sc pc L (.long y :: .long x :: st) σ Q := by
  subst hq
  intro p l e R s m args below meth c D ad cI cZ cII A cells slots Z C hZ H locs ls hW hL
  exact W.lcmp C.1 C.2.1 hd (k p l e R s m args below meth c D ad cI cZ cII A cells slots Z C hZ H locs ls hW hL)
theorem v_dup {v : Value} (hd : decode (mc M) pc = .ok (.dup, 1)) (hq : pc + 1 = q) (hv : v.category = 1) (k : VV M d sc q L (v :: v :: st) σ Q) : VV M d sc pc L (v :: st) σ Q := by
  subst hq
  intro p l e R s m args below meth c D ad cI cZ cII A cells slots Z C hZ H locs ls hW hL
  exact lv_dup C.1 C.2.1 hd (by rw [rv_cat]; exact hv) (k p l e R s m args below meth c D ad cI cZ cII A cells slots Z C hZ H locs ls hW hL)
theorem v_dup2 {v w : Value} (hd : decode (mc M) pc = .ok (.dup2, 1)) (hq : pc + 1 = q) (hv : v.category = 1) (hw : w.category = 1) (k : VV M d sc q L (v :: w :: v :: w :: st) σ Q) : VV M d sc pc L (v :: w :: st) σ Q := by
  subst hq
  intro p l e R s m args below meth c D ad cI cZ cII A cells slots Z C hZ H locs ls hW hL
  exact lv_dup2_11 C.1 C.2.1 hd (by rw [rv_cat]; exact hv) (by rw [rv_cat]; exact hw) (k p l e R s m args below meth c D ad cI cZ cII A cells slots Z C hZ H locs ls hW hL)
theorem v_goto {off : Int} (hd : decode (mc M) pc = .ok (.goto off, 3)) (hq : (pc : Int) + off = (q : Int)) (k : VV M d sc q L st σ Q) : VV M d sc pc L st σ Q := by
  intro p l e R s m args below meth c D ad cI cZ cII A cells slots Z C hZ H locs ls hW hL
  exact lv_goto C.1 C.2.1 hd hq (k p l e R s m args below meth c D ad cI cZ cII A cells slots Z C hZ H locs ls hW hL)
theorem v_if_eq {x : Int32} {off : Int} {t : Nat} (hd : decode (mc M) pc = .ok (.ifCond .eq off, 3)) (hq : pc + 3 = q) (ht : (pc : Int) + off = (t : Int)) (kt : x = 0 → VV M d sc t L st σ Q) (kf : ¬ x = 0 → VV M d sc q L st σ Q) : VV M d sc pc L (.int x :: st) σ Q := by
  subst hq
  intro p l e R s m args below meth c D ad cI cZ cII A cells slots Z C hZ H locs ls hW hL
  exact lv_if_eq C.1 C.2.1 hd ht (fun h => kt h p l e R s m args below meth c D ad cI cZ cII A cells slots Z C hZ H locs ls hW hL) (fun h => kf h p l e R s m args below meth c D ad cI cZ cII A cells slots Z C hZ H locs ls hW hL)
theorem v_icmp_eq {x y : Int32} {off : Int} {t : Nat} (hd : decode (mc M) pc = .ok (.if_icmp .eq off, 3)) (hq : pc + 3 = q) (ht : (pc : Int) + off = (t : Int)) (kt : x = y → VV M d sc t L st σ Q) (kf : ¬ x = y → VV M d sc q L st σ Q) : VV M d sc pc L (.int y :: .int x :: st) σ Q := by
  subst hq
  intro p l e R s m args below meth c D ad cI cZ cII A cells slots Z C hZ H locs ls hW hL
  exact lv_icmp_eq C.1 C.2.1 hd ht (fun h => kt h p l e R s m args below meth c D ad cI cZ cII A cells slots Z C hZ H locs ls hW hL) (fun h => kf h p l e R s m args below meth c D ad cI cZ cII A cells slots Z C hZ H locs ls hW hL)
theorem v_if_ne {x : Int32} {off : Int} {t : Nat} (hd : decode (mc M) pc = .ok (.ifCond .ne off, 3)) (hq : pc + 3 = q) (ht : (pc : Int) + off = (t : Int)) (kt : ¬ x = 0 → VV M d sc t L st σ Q) (kf : x = 0 → VV M d sc q L st σ Q) : VV M d sc pc L (.int x :: st) σ Q := by
  subst hq
  intro p l e R s m args below meth c D ad cI cZ cII A cells slots Z C hZ H locs ls hW hL
  exact lv_if_ne C.1 C.2.1 hd ht (fun h => kt h p l e R s m args below meth c D ad cI cZ cII A cells slots Z C hZ H locs ls hW hL) (fun h => kf h p l e R s m args below meth c D ad cI cZ cII A cells slots Z C hZ H locs ls hW hL)
theorem v_icmp_ne {x y : Int32} {off : Int} {t : Nat} (hd : decode (mc M) pc = .ok (.if_icmp .ne off, 3)) (hq : pc + 3 = q) (ht : (pc : Int) + off = (t : Int)) (kt : ¬ x = y → VV M d sc t L st σ Q) (kf : x = y → VV M d sc q L st σ Q) : VV M d sc pc L (.int y :: .int x :: st) σ Q := by
  subst hq
  intro p l e R s m args below meth c D ad cI cZ cII A cells slots Z C hZ H locs ls hW hL
  exact lv_icmp_ne C.1 C.2.1 hd ht (fun h => kt h p l e R s m args below meth c D ad cI cZ cII A cells slots Z C hZ H locs ls hW hL) (fun h => kf h p l e R s m args below meth c D ad cI cZ cII A cells slots Z C hZ H locs ls hW hL)
theorem v_if_lt {x : Int32} {off : Int} {t : Nat} (hd : decode (mc M) pc = .ok (.ifCond .lt off, 3)) (hq : pc + 3 = q) (ht : (pc : Int) + off = (t : Int)) (kt : x < 0 → VV M d sc t L st σ Q) (kf : ¬ x < 0 → VV M d sc q L st σ Q) : VV M d sc pc L (.int x :: st) σ Q := by
  subst hq
  intro p l e R s m args below meth c D ad cI cZ cII A cells slots Z C hZ H locs ls hW hL
  exact lv_if_lt C.1 C.2.1 hd ht (fun h => kt h p l e R s m args below meth c D ad cI cZ cII A cells slots Z C hZ H locs ls hW hL) (fun h => kf h p l e R s m args below meth c D ad cI cZ cII A cells slots Z C hZ H locs ls hW hL)
theorem v_icmp_lt {x y : Int32} {off : Int} {t : Nat} (hd : decode (mc M) pc = .ok (.if_icmp .lt off, 3)) (hq : pc + 3 = q) (ht : (pc : Int) + off = (t : Int)) (kt : x < y → VV M d sc t L st σ Q) (kf : ¬ x < y → VV M d sc q L st σ Q) : VV M d sc pc L (.int y :: .int x :: st) σ Q := by
  subst hq
  intro p l e R s m args below meth c D ad cI cZ cII A cells slots Z C hZ H locs ls hW hL
  exact lv_icmp_lt C.1 C.2.1 hd ht (fun h => kt h p l e R s m args below meth c D ad cI cZ cII A cells slots Z C hZ H locs ls hW hL) (fun h => kf h p l e R s m args below meth c D ad cI cZ cII A cells slots Z C hZ H locs ls hW hL)
theorem v_if_ge {x : Int32} {off : Int} {t : Nat} (hd : decode (mc M) pc = .ok (.ifCond .ge off, 3)) (hq : pc + 3 = q) (ht : (pc : Int) + off = (t : Int)) (kt : 0 ≤ x → VV M d sc t L st σ Q) (kf : ¬ 0 ≤ x → VV M d sc q L st σ Q) : VV M d sc pc L (.int x :: st) σ Q := by
  subst hq
  intro p l e R s m args below meth c D ad cI cZ cII A cells slots Z C hZ H locs ls hW hL
  exact lv_if_ge C.1 C.2.1 hd ht (fun h => kt h p l e R s m args below meth c D ad cI cZ cII A cells slots Z C hZ H locs ls hW hL) (fun h => kf h p l e R s m args below meth c D ad cI cZ cII A cells slots Z C hZ H locs ls hW hL)
theorem v_icmp_ge {x y : Int32} {off : Int} {t : Nat} (hd : decode (mc M) pc = .ok (.if_icmp .ge off, 3)) (hq : pc + 3 = q) (ht : (pc : Int) + off = (t : Int)) (kt : y ≤ x → VV M d sc t L st σ Q) (kf : ¬ y ≤ x → VV M d sc q L st σ Q) : VV M d sc pc L (.int y :: .int x :: st) σ Q := by
  subst hq
  intro p l e R s m args below meth c D ad cI cZ cII A cells slots Z C hZ H locs ls hW hL
  exact lv_icmp_ge C.1 C.2.1 hd ht (fun h => kt h p l e R s m args below meth c D ad cI cZ cII A cells slots Z C hZ H locs ls hW hL) (fun h => kf h p l e R s m args below meth c D ad cI cZ cII A cells slots Z C hZ H locs ls hW hL)
theorem v_if_gt {x : Int32} {off : Int} {t : Nat} (hd : decode (mc M) pc = .ok (.ifCond .gt off, 3)) (hq : pc + 3 = q) (ht : (pc : Int) + off = (t : Int)) (kt : 0 < x → VV M d sc t L st σ Q) (kf : ¬ 0 < x → VV M d sc q L st σ Q) : VV M d sc pc L (.int x :: st) σ Q := by
  subst hq
  intro p l e R s m args below meth c D ad cI cZ cII A cells slots Z C hZ H locs ls hW hL
  exact lv_if_gt C.1 C.2.1 hd ht (fun h => kt h p l e R s m args below meth c D ad cI cZ cII A cells slots Z C hZ H locs ls hW hL) (fun h => kf h p l e R s m args below meth c D ad cI cZ cII A cells slots Z C hZ H locs ls hW hL)
theorem v_icmp_gt {x y : Int32} {off : Int} {t : Nat} (hd : decode (mc M) pc = .ok (.if_icmp .gt off, 3)) (hq : pc + 3 = q) (ht : (pc : Int) + off = (t : Int)) (kt : y < x → VV M d sc t L st σ Q) (kf : ¬ y < x → VV M d sc q L st σ Q) : VV M d sc pc L (.int y :: .int x :: st) σ Q := by
  subst hq
  intro p l e R s m args below meth c D ad cI cZ cII A cells slots Z C hZ H locs ls hW hL
  exact lv_icmp_gt C.1 C.2.1 hd ht (fun h => kt h p l e R s m args below meth c D ad cI cZ cII A cells slots Z C hZ H locs ls hW hL) (fun h => kf h p l e R s m args below meth c D ad cI cZ cII A cells slots Z C hZ H locs ls hW hL)
theorem v_if_le {x : Int32} {off : Int} {t : Nat} (hd : decode (mc M) pc = .ok (.ifCond .le off, 3)) (hq : pc + 3 = q) (ht : (pc : Int) + off = (t : Int)) (kt : x ≤ 0 → VV M d sc t L st σ Q) (kf : ¬ x ≤ 0 → VV M d sc q L st σ Q) : VV M d sc pc L (.int x :: st) σ Q := by
  subst hq
  intro p l e R s m args below meth c D ad cI cZ cII A cells slots Z C hZ H locs ls hW hL
  exact lv_if_le C.1 C.2.1 hd ht (fun h => kt h p l e R s m args below meth c D ad cI cZ cII A cells slots Z C hZ H locs ls hW hL) (fun h => kf h p l e R s m args below meth c D ad cI cZ cII A cells slots Z C hZ H locs ls hW hL)
theorem v_icmp_le {x y : Int32} {off : Int} {t : Nat} (hd : decode (mc M) pc = .ok (.if_icmp .le off, 3)) (hq : pc + 3 = q) (ht : (pc : Int) + off = (t : Int)) (kt : x ≤ y → VV M d sc t L st σ Q) (kf : ¬ x ≤ y → VV M d sc q L st σ Q) : VV M d sc pc L (.int y :: .int x :: st) σ Q := by
  subst hq
  intro p l e R s m args below meth c D ad cI cZ cII A cells slots Z C hZ H locs ls hW hL
  exact lv_icmp_le C.1 C.2.1 hd ht (fun h => kt h p l e R s m args below meth c D ad cI cZ cII A cells slots Z C hZ H locs ls hW hL) (fun h => kf h p l e R s m args below meth c D ad cI cZ cII A cells slots Z C hZ H locs ls hW hL)
theorem v_tsw {n : Nat} {offs : Array Int} {dflt hi : Int} {len : Nat} {x : Int32} {tg : Nat → Nat} {t : Nat} (hd : decode (mc M) pc = .ok (.tableswitch dflt 0 hi offs, len)) (hn : hi = (n : Int) - 1) (hn2 : n < 2 ^ 31) (ho : ∀ k : Nat, k < n → ∃ off, offs[k]? = some off ∧ (pc : Int) + off = (tg k : Int)) (ht : (pc : Int) + dflt = (t : Int)) (kin : ∀ k : Nat, k < n → x = nI k → VV M d sc (tg k) L st σ Q) (kout : (∀ k : Nat, k < n → ¬ x = nI k) → VV M d sc t L st σ Q) : VV M d sc pc L (.int x :: st) σ Q := by
  intro p l e R s m args below meth c D ad cI cZ cII A cells slots Z C hZ H locs ls hW hL
  by_cases h : 0 ≤ x.toInt ∧ x.toInt < n
  · obtain ⟨j, hj, rfl⟩ := vp_in_of (vp_in_iff.mpr h) hn2
    obtain ⟨off, h1, h2⟩ := ho j hj
    have hjj : (nI j).toInt = (j : Int) := nI_toInt (by omega)
    exact lv_tableIn C.1 C.2.1 hd (by rw [hjj]; omega) (by rw [hjj, hn]; omega) (off := off) (by rw [hjj]; simpa using h1) h2 (kin j hj rfl p l e R s m args below meth c D ad cI cZ cII A cells slots Z C hZ H locs ls hW hL)
  · exact lv_tableOut C.1 C.2.1 hd (by rw [hn]; omega) ht (kout (fun k hk e => h (by rw [e, nI_toInt (by omega)]; omega)) p l e R s m args below meth c D ad cI cZ cII A cells slots Z C hZ H locs ls hW hL)
theorem v_get {idx pp ci fi : Nat} {vs : List Value} {v : Value} (hd : decode (mc M) pc = .ok (.getfield idx, 3)) (hq : pc + 3 = q) (hF : FL (mo M) idx ci fi) (ho : obj pp σ = some (ci, vs)) (hv : vs[fi]? = some v) (k : VV M d sc q L (v :: st) σ Q) : VV M d sc pc L (.ref pp :: st) σ Q := by
  subst hq
  intro p l e R s m args below meth c D ad cI cZ cII A cells slots Z C hZ H locs ls hW hL
  obtain ⟨hx, hb, hml, hr, hlk, hts, hown, hnw, hK, hSt, hA, hR, hlaw⟩ := id C
  obtain ⟨C0, T, N, hc, hk, hin, hl⟩ := hF
  rcases hl with hl | ⟨host, hl⟩
  · exact va_get (D := D) (ci := ci) (v := rv ad v) (C := C0) (T := T) (N := N) hx hb hts hin hown hK hW.1 pp (fs := vs.map (rv ad)) (wld_obj ho) hc fi hk (hts _ hl) (fun _ h => h) (by rw [List.getElem?_map, hv]; rfl) hd (k p l e R s m args below meth c D ad cI cZ cII A cells slots Z C hZ H locs ls hW hL)
  · exact va_getN (D := D) (ci := ci) (v := rv ad v) (C := C0) (T := T) (N := N) hx hb hts hin hown hK hW.1 pp (fs := vs.map (rv ad)) (wld_obj ho) hc fi hk (va_Nw.use rfl (hnw _ hl)) (fun _ h => h) (by rw [List.getElem?_map, hv]; rfl) hd (k p l e R s m args below meth c D ad cI cZ cII A cells slots Z C hZ H locs ls hW hL)
theorem v_put {idx pp ci fi kk : Nat} {vs : List Value} {x : Int32} (hd : decode (mc M) pc = .ok (.putfield idx, 3)) (hq : pc + 3 = q) (hF : FP (mo M) idx ci fi "I") (ho : obj pp σ = some (ci, vs)) (hk : fk pp fi = some kk) (k : VV M d sc q L st (sF σ kk x) Q) : VV M d sc pc L (.int x :: .ref pp :: st) σ Q := by
  subst hq
  intro p l e R s m args below meth c D ad cI cZ cII A cells slots Z C hZ H locs ls hW hL
  obtain ⟨hx, hb, hml, hr, hlk, hts, hown, hnw, hK, hSt, hA, hR, hlaw⟩ := id C
  obtain ⟨C0, T, N, ty0, hc, hfi, hin, hty, hnm, hfin, hds, hl⟩ := hF
  have hlen := (obj_sF σ x hk ho).2.2
  refine va_put (D := D) (ci := ci) (v := .int x) (ty := .int) (C := C0) (T := T) (N := N) hx hb hts hin ty0 hty hnm hown hK hW.1 hW.2.1 hW.2.2 pp (fs := vs.map (rv ad)) (wld_obj ho) hc fi hfi (hts _ hl) (fun _ h => h) hfin (by rw [hds]; decide +kernel) rfl rfl (by rw [List.length_map]; exact hlen) hd (fun H locs hP hD hS => ?_)
  rw [wld_sF x hk ho] at hP hD
  exact k p l e R s m args below meth c D ad cI cZ cII A cells slots Z C hZ H locs ls ⟨hP, hD, hS⟩ hL
theorem v_putL {idx ci : Nat} {vs : List Value} {x : Int64} (hd : decode (mc M) pc = .ok (.putfield idx, 3)) (hq : pc + 3 = q) (hF : FP (mo M) idx ci 13 "J") (ho : obj 11 σ = some (ci, vs)) (k : VV M d sc q L st (sH σ x) Q) : VV M d sc pc L (.long x :: .ref 11 :: st) σ Q := by
  subst hq
  intro p l e R s m args below meth c D ad cI cZ cII A cells slots Z C hZ H locs ls hW hL
  obtain ⟨hx, hb, hml, hr, hlk, hts, hown, hnw, hK, hSt, hA, hR, hlaw⟩ := id C
  obtain ⟨C0, T, N, ty0, hc, hfi, hin, hty, hnm, hfin, hds, hl⟩ := hF
  have hlen : 13 < vs.length := by cases ho; exact Nat.le_of_ble_eq_true rfl
  refine va_put (D := D) (ci := ci) (v := .long x) (ty := .long) (C := C0) (T := T) (N := N) hx hb hts hin ty0 hty hnm hown hK hW.1 hW.2.1 hW.2.2 11 (fs := vs.map (rv ad)) (wld_obj ho) hc 13 hfi (hts _ hl) (fun _ h => h) hfin (by rw [hds]; decide +kernel) rfl rfl (by rw [List.length_map]; exact hlen) hd (fun H locs hP hD hS => ?_)
  rw [wld_sH x ho] at hP hD
  exact k p l e R s m args below meth c D ad cI cZ cII A cells slots Z C hZ H locs ls ⟨hP, hD, hS⟩ hL
theorem v_iald {pp : Nat} {i : Int32} (hd : decode (mc M) pc = .ok (.iaload, 1)) (hq : pc + 1 = q) (hp : isI pp) (hi : vp_in i (al pp)) (k : VV M d sc q L (.int (σ.1 pp i.toNatClampNeg) :: st) σ Q) : VV M d sc pc L (.int i :: .ref pp :: st) σ Q := by
  subst hq
  intro p l e R s m args below meth c D ad cI cZ cII A cells slots Z C hZ H locs ls hW hL
  obtain ⟨hx, hb, hml, hr, hlk, hts, hown, hnw, hK, hSt, hA, hR, hlaw⟩ := id C
  exact va_iald hx hb hK hW.1 pp 0 (wld_arr hp) rfl hi hd (k p l e R s m args below meth c D ad cI cZ cII A cells slots Z C hZ H locs ls hW hL)
theorem v_iast {pp : Nat} {i x : Int32} (hd : decode (mc M) pc = .ok (.iastore, 1)) (hq : pc + 1 = q) (hp : isI pp) (hi : vp_in i (al pp)) (k : VV M d sc q L st (sA σ pp i.toNatClampNeg x) Q) : VV M d sc pc L (.int x :: .int i :: .ref pp :: st) σ Q := by
  subst hq
  intro p l e R s m args below meth c D ad cI cZ cII A cells slots Z C hZ H locs ls hW hL
  obtain ⟨hx, hb, hml, hr, hlk, hts, hown, hnw, hK, hSt, hA, hR, hlaw⟩ := id C
  refine va_iast hx hb hK hW.1 hW.2.1 hW.2.2 pp 0 (wld_arr hp) rfl hi hd (fun H locs hP hD hS => ?_)
  rw [wld_sA _ _ hp] at hP hD
  exact k p l e R s m args below meth c D ad cI cZ cII A cells slots Z C hZ H locs ls ⟨hP, hD, hS⟩ hL
theorem v_zald {i : Int32} (hd : decode (mc M) pc = .ok (.baload, 1)) (hq : pc + 1 = q) (hi : vp_in i 20) (k : VV M d sc q L (.int (σ.1 13 i.toNatClampNeg) :: st) σ Q) : VV M d sc pc L (.int i :: .ref 13 :: st) σ Q := by
  subst hq
  intro p l e R s m args below meth c D ad cI cZ cII A cells slots Z C hZ H locs ls hW hL
  obtain ⟨hx, hb, hml, hr, hlk, hts, hown, hnw, hK, hSt, hA, hR, hlaw⟩ := id C
  exact va_zald hx hb hK hW.1 13 1 wld_13 rfl hi hd (k p l e R s m args below meth c D ad cI cZ cII A cells slots Z C hZ H locs ls hW hL)
theorem v_zast {i x : Int32} (hd : decode (mc M) pc = .ok (.bastore, 1)) (hq : pc + 1 = q) (hi : vp_in i 20) (hv : x = 0 ∨ x = 1) (k : VV M d sc q L st (sA σ 13 i.toNatClampNeg x) Q) : VV M d sc pc L (.int x :: .int i :: .ref 13 :: st) σ Q := by
  subst hq
  intro p l e R s m args below meth c D ad cI cZ cII A cells slots Z C hZ H locs ls hW hL
  obtain ⟨hx, hb, hml, hr, hlk, hts, hown, hnw, hK, hSt, hA, hR, hlaw⟩ := id C
  have hn : vp_nar .boolean x = x := by rcases hv with rfl | rfl <;> decide
  refine va_zast hx hb hK hW.1 hW.2.1 hW.2.2 13 1 wld_13 rfl hi hd (fun H locs hP hD hS => ?_)
  rw [hn, wld_s13] at hP hD
  exact k p l e R s m args below meth c D ad cI cZ cII A cells slots Z C hZ H locs ls ⟨hP, hD, hS⟩ hL
theorem v_aald {pp n b : Nat} {i : Int32} (hd : decode (mc M) pc = .ok (.aaload, 1)) (hq : pc + 1 = q) (hp : (pp = 9 ∧ n = 4 ∧ b = 27) ∨ (pp = 10 ∧ n = 11 ∧ b = 16)) (hi : vp_in i n) (k : VV M d sc q L (.ref (b + i.toNatClampNeg) :: st) σ Q) : VV M d sc pc L (.int i :: .ref pp :: st) σ Q := by
  subst hq
  intro p l e R s m args below meth c D ad cI cZ cII A cells slots Z C hZ H locs ls hW hL
  obtain ⟨hx, hb, hml, hr, hlk, hts, hown, hnw, hK, hSt, hA, hR, hlaw⟩ := id C
  have hlt : i.toNatClampNeg < n := Nat.not_le.mp fun q => hi (Or.inr q)
  have key : ∃ f : Nat → Option Nat, (wld ad cI cZ cII σ)[pp]? = some (ad pp, .inl (cII, n, .inr (.inr (.inr (.inr f))))) ∧ va_rf (f i.toNatClampNeg) = .ref (ad (b + i.toNatClampNeg)) := by
    rcases hp with ⟨rfl, rfl, rfl⟩ | ⟨rfl, rfl, rfl⟩
    · exact ⟨_, wld_9, by simp only [hlt, if_true]; rfl⟩
    · exact ⟨_, wld_10, by simp only [hlt, if_true]; rfl⟩
  obtain ⟨f, ha, hf⟩ := key
  exact W.aald (v := .ref (ad (b + i.toNatClampNeg))) (ty := .array .int) hx hb (hW.1 pp _ ha) ((hK.2 2 _ rfl).1 n (fun j => va_rf (f j))) rfl (fun q => by cases q) (by show ¬ (i < 0 ∨ (arrV _ _ _).slots.size ≤ _); rw [arrV_size]; exact hi) (by show (arrV _ _ _).slots[_]? = _; rw [arrV_read _ _ hlt, hf]) rfl rfl hd (k p l e R s m args below meth c D ad cI cZ cII A cells slots Z C hZ H locs ls hW hL)
theorem v_gets {idx g : Nat} (hd : decode (mc M) pc = .ok (.getstatic idx, 3)) (hq : pc + 3 = q) (hg : g = 100 ∨ g = 101) (hl : Cond.fieldLink (RN (mo M)) idx "PhrasePool" (snm g) "[I" ∈ g_tbl) (k : VV M d sc q L (.ref g :: st) σ Q) : VV M d sc pc L st σ Q := by
  subst hq
  intro p l e R s m args below meth c D ad cI cZ cII A cells slots Z C hZ H locs ls hW hL
  obtain ⟨hx, hb, hml, hr, hlk, hts, hown, hnw, hK, hSt, hA, hR, hlaw⟩ := id C
  exact va_gets hx hb (hSt g hg).1 hW.2.2 hown (hts _ hl) (fun _ h => h) hd (k p l e R s m args below meth c D ad cI cZ cII A cells slots Z C hZ H locs ls hW hL)
theorem v_stld {g : Nat} {i : Int32} (hd : decode (mc M) pc = .ok (.iaload, 1)) (hq : pc + 1 = q) (hg : g = 100 ∨ g = 101) (hi : vp_in i 5) (k : VV M d sc q L (.int (lst g i.toNatClampNeg) :: st) σ Q) : VV M d sc pc L (.int i :: .ref g :: st) σ Q := by
  subst hq
  intro p l e R s m args below meth c D ad cI cZ cII A cells slots Z C hZ H locs ls hW hL
  obtain ⟨hx, hb, hml, hr, hlk, hts, hown, hnw, hK, hSt, hA, hR, hlaw⟩ := id C
  exact va_ti hx hb (hSt g hg).2 hW.2.2 hi rfl hd (k p l e R s m args below meth c D ad cI cZ cII A cells slots Z C hZ H locs ls hW hL)
theorem v_sld {i : Int32} (ho : mo M = 8) (hd : decode (mc M) pc = .ok (.iaload, 1)) (hq : pc + 1 = q) (hi : vp_in i sc.1) (k : VV M d sc q L (.int (sc.2 i.toNatClampNeg) :: st) σ Q) : VV M d sc pc L (.int i :: .ref 102 :: st) σ Q := by
  subst hq
  intro p l e R s m args below meth c D ad cI cZ cII A cells slots Z C hZ H locs ls hW hL
  obtain ⟨hx, hb, hml, hr, hlk, hts, hown, hnw, hK, hSt, hA, hR, hlaw⟩ := id C
  obtain ⟨h1, h2, h3⟩ := hlaw ho
  exact va_sld hx hb h1 h2 h3 hW.2.2 hi hd (k p l e R s m args below meth c D ad cI cZ cII A cells slots Z C hZ H locs ls hW hL)
theorem v_slen (ho : mo M = 8) (hd : decode (mc M) pc = .ok (.arraylength, 1)) (hq : pc + 1 = q) (k : VV M d sc q L (.int (nI sc.1) :: st) σ Q) : VV M d sc pc L (.ref 102 :: st) σ Q := by
  subst hq
  intro p l e R s m args below meth c D ad cI cZ cII A cells slots Z C hZ H locs ls hW hL
  obtain ⟨hx, hb, hml, hr, hlk, hts, hown, hnw, hK, hSt, hA, hR, hlaw⟩ := id C
  obtain ⟨h1, h2, h3⟩ := hlaw ho
  exact va_slen hx hb h1 h2 h3 hW.2.2 hd (k p l e R s m args below meth c D ad cI cZ cII A cells slots Z C hZ H locs ls hW hL)
def ACp (o idx : Nat) : Prop := Cond.methodLink (RN o) idx arraycopyName ∈ g_tbl ∧ Cond.native arraycopyName ∈ g_tbl ∧ Cond.static arraycopyName ∈ g_tbl ∧ Cond.initialized "java/lang/System" ∈ g_tbl
theorem v_copy {idx pa pb : Nat} {sp dp n : Int32} (hd : decode (mc M) pc = .ok (.invokestatic idx, 3)) (hq : pc + 3 = q) (hl : ACp (mo M) idx) (hdd : 1 ≤ d) (ha : isI pa) (hb' : isI pb) (h1 : ¬ sp < 0) (h2 : ¬ dp < 0) (h3 : ¬ n < 0) (h4 : sp.toNatClampNeg + n.toNatClampNeg ≤ al pa) (h5 : dp.toNatClampNeg + n.toNatClampNeg ≤ al pb) (k : VV M d sc q L [] (sR σ pb (va_cpy (σ.1 pa) (σ.1 pb) sp.toNatClampNeg dp.toNatClampNeg n.toNatClampNeg)) Q) : VV M d sc pc L [.int n, .int dp, .ref pb, .int sp, .ref pa] σ Q := by
  subst hq
  intro p l e R s m args below meth c D ad cI cZ cII A cells slots Z C hZ H locs ls hW hL
  obtain ⟨hx, hb, hml, hr, hlk, hts, hown, hnw, hK, hSt, hA, hR, hlaw⟩ := id C
  refine va_copyi hx hb (by rw [hml, hL.2.1]) hown (hts _ hl.1) (hts _ hl.2.1) (hts _ hl.2.2.1) (hts _ hl.2.2.2) hK hW.1 hW.2.1 hW.2.2 pa pb 0 0 (wld_arr ha) (wld_arr hb') rfl rfl rfl h1 h2 h3 h4 h5 (fun i _ => rfl) (by omega) ?_ hd (fun H locs hP hD hS => ?_)
  · have e : (([] : List Value).map fun v => v.category).sum + (nativeFrameWords "java/lang/System" "arraycopy" 5 + 11) ≤ 35 := by decide +kernel
    have := hR.2.1
    exact Nat.le_trans e (by omega)
  · rw [wld_sR _ hb'] at hP hD
    exact k p l e R s m args below meth c D ad cI cZ cII A cells slots Z C hZ H locs ls ⟨hP, hD, hS⟩ hL
def Lmax (o idx : Nat) : Prop := Cond.methodLink (RN o) idx Lib.Math.max.name ∈ g_tbl ∧ Cond.static Lib.Math.max.name ∈ g_tbl ∧ Cond.initialized "java/lang/Math" ∈ g_tbl ∧ Cond.code Lib.Math.max.name Lib.Math.max.code 2 (some .int) ∈ g_tbl
theorem v_max {idx : Nat} {x y : Int32} (hd : decode (mc M) pc = .ok (.invokestatic idx, 3)) (hq : pc + 3 = q) (hl : Lmax (mo M) idx) (hdd : 1 ≤ d) (hs : (st.map fun v => v.category).sum ≤ 8) (k : VV M d sc q L (.int (if x < y then y else x) :: st) σ Q) : VV M d sc pc L (.int y :: .int x :: st) σ Q := by
  subst hq
  intro p l e R s m args below meth c D ad cI cZ cII A cells slots Z C hZ H locs ls hW hL
  obtain ⟨hx, hb, hml, hr, hlk, hts, hown, hnw, hK, hSt, hA, hR, hlaw⟩ := id C
  have h1 := hR.1
  have h2 := hR.2.1
  exact va_mmax hx hb (by rw [hml, hL.2.1]) hown (hts _ hl.1) (hts _ hl.2.1) (hts _ hl.2.2.1) (hts _ hl.2.2.2) (by omega) (by rw [rv_cats]; omega) hR.2.2.1 hR.2.2.2 hd (k p l e R s m args below meth c D ad cI cZ cII A cells slots Z C hZ H locs ls hW hL)
def Lmin (o idx : Nat) : Prop := Cond.methodLink (RN o) idx Lib.Math.min.name ∈ g_tbl ∧ Cond.static Lib.Math.min.name ∈ g_tbl ∧ Cond.initialized "java/lang/Math" ∈ g_tbl ∧ Cond.code Lib.Math.min.name Lib.Math.min.code 2 (some .int) ∈ g_tbl
theorem v_min {idx : Nat} {x y : Int32} (hd : decode (mc M) pc = .ok (.invokestatic idx, 3)) (hq : pc + 3 = q) (hl : Lmin (mo M) idx) (hdd : 1 ≤ d) (hs : (st.map fun v => v.category).sum ≤ 8) (k : VV M d sc q L (.int (if y < x then y else x) :: st) σ Q) : VV M d sc pc L (.int y :: .int x :: st) σ Q := by
  subst hq
  intro p l e R s m args below meth c D ad cI cZ cII A cells slots Z C hZ H locs ls hW hL
  obtain ⟨hx, hb, hml, hr, hlk, hts, hown, hnw, hK, hSt, hA, hR, hlaw⟩ := id C
  have h1 := hR.1
  have h2 := hR.2.1
  exact va_mmin hx hb (by rw [hml, hL.2.1]) hown (hts _ hl.1) (hts _ hl.2.1) (hts _ hl.2.2.1) (hts _ hl.2.2.2) (by omega) (by rw [rv_cats]; omega) hR.2.2.1 hR.2.2.2 hd (k p l e R s m args below meth c D ad cI cZ cII A cells slots Z C hZ H locs ls hW hL)
end RULES
end
section
/-! CONTRACTS: a method called at depth d with these arguments in this state comes back with an answer and a state of Q; calls -/
def QZ (D : va_G) (ad : Nat → Nat) (cI cZ cII : ClassId) (sz : Nat) (Q : Option Value → SS → Prop) : Array Value → State → Outcome → State → Prop := fun _ s0 oc t =>
  (∃ (r : Option Value) (σ' : SS), oc = .returned (r.map (rv ad)) ∧ Q r σ' ∧ va_P D vwCl (wld ad cI cZ cII σ') t.heap ∧ va_D (AA ad sz) (wld ad cI cZ cII σ')) ∧ va_F (AA ad sz) s0 t
def WP (D : va_G) (ad : Nat → Nat) (cI cZ cII : ClassId) (sz : Nat) (σ : SS) (U : State) : Prop :=
  U.heap.size = sz ∧ va_P D vwCl (wld ad cI cZ cII σ) U.heap ∧ va_K D vwCl [(cI, .int), (cZ, .boolean), (cII, .array .int)] U ∧ va_D (fun _ => True) (wld ad cI cZ cII σ) ∧ (∀ w ∈ n_tbl, va_Nw w U) ∧ Sta ad (AA ad sz) U U.heap
def CT (M : MD) (d : Nat) (As : List Value) (σ : SS) (Q : Option Value → SS → Prop) : Prop :=
  ∀ Q' : Option Value → SS → Prop, (∀ r σ', Q r σ' → Q' r σ') → ∀ (l : Launch) (D : va_G) (ad : Nat → Nat) (cI cZ cII : ClassId) (sz : Nat),
    Met l (my M) (Cond.code (my M) (mc M) (ml M) (mr M) :: g_tbl) (rmd d) (va_Pc (As.map (rv ad)) (WP D ad cI cZ cII sz σ)) (QZ D ad cI cZ cII sz Q') 0 0 (AA ad sz)
theorem CT.imp {M : MD} {d : Nat} {As : List Value} {σ : SS} {Q Q2 : Option Value → SS → Prop} (h : CT M d As σ Q) (hi : ∀ r σ', Q r σ' → Q2 r σ') : CT M d As σ Q2 := fun Q' hQ => h Q' (fun r σ' q => hQ r σ' (hi r σ' q))
def CTi (M : MD) (d : Nat) (As : List Value) (σ : SS) (K : Int32 → SS → Prop) : Prop := CT M d As σ (fun r σ' => ∃ x : Int32, r = some (.int x) ∧ K x σ')
def CTl (M : MD) (d : Nat) (As : List Value) (σ : SS) (K : Int64 → SS → Prop) : Prop := CT M d As σ (fun r σ' => ∃ x : Int64, r = some (.long x) ∧ K x σ')
def CTv (M : MD) (d : Nat) (As : List Value) (σ : SS) (K : SS → Prop) : Prop := CT M d As σ (fun r σ' => r = none ∧ K σ')
theorem CTi.imp {M : MD} {d : Nat} {As : List Value} {σ : SS} {K K2 : Int32 → SS → Prop} (h : CTi M d As σ K) (hi : ∀ x σ', K x σ' → K2 x σ') : CTi M d As σ K2 := CT.imp h (fun r σ' ⟨x, h1, h2⟩ => ⟨x, h1, hi x σ' h2⟩)
theorem CTl.imp {M : MD} {d : Nat} {As : List Value} {σ : SS} {K K2 : Int64 → SS → Prop} (h : CTl M d As σ K) (hi : ∀ x σ', K x σ' → K2 x σ') : CTl M d As σ K2 := CT.imp h (fun r σ' ⟨x, h1, h2⟩ => ⟨x, h1, hi x σ' h2⟩)
theorem CTv.imp {M : MD} {d : Nat} {As : List Value} {σ : SS} {K K2 : SS → Prop} (h : CTv M d As σ K) (hi : ∀ σ', K σ' → K2 σ') : CTv M d As σ K2 := CT.imp h (fun r σ' ⟨h1, h2⟩ => ⟨h1, hi σ' h2⟩)
/-- the locals with which a method begins -/
def ent : List Value → List (Option Value)
  | [] => []
  | v :: vs => if v.category = 2 then some v :: none :: ent vs else some v :: ent vs
theorem ldv_nones : ∀ (k i : Nat) (v : Value), ldv i (List.replicate k none) = some v → False
  | 0, 0, v, h => by cases h
  | 0, i + 1, v, h => by cases h
  | k + 1, 0, v, h => by cases h
  | k + 1, i + 1, v, h => ldv_nones k i v h
theorem ent_args {ad : Nat → Nat} (k : Nat) : ∀ (As : List Value) (b i : Nat) (v : Value), ldv i (ent As ++ List.replicate k none) = some v → (b + i, rv ad v) ∈ lv_args b (As.map (rv ad)) := by
  intro As
  induction As with
  | nil => exact fun b i v h => (ldv_nones k i v h).elim
  | cons a r ih =>
    intro b i v h
    by_cases hc : a.category = 2
    · have e : ent (a :: r) = some a :: none :: ent r := by simp [ent, hc]
      rw [e] at h
      have e2 : lv_args b ((a :: r).map (rv ad)) = (b, rv ad a) :: lv_args (b + 2) (r.map (rv ad)) := by
        show (b, rv ad a) :: lv_args (if (rv ad a).category = 2 then b + 2 else b + 1) (r.map (rv ad)) = _
        rw [rv_cat, if_pos hc]
      rw [e2]
      match i, h with
      | 0, h =>
        cases h
        exact List.mem_cons_self
      | 1, h => cases h
      | i + 2, h =>
        have h1 := ih (b + 2) i v h
        rw [show b + (i + 2) = b + 2 + i by omega]
        exact List.mem_cons_of_mem _ h1
    · have e : ent (a :: r) = some a :: ent r := by simp [ent, hc]
      rw [e] at h
      have e2 : lv_args b ((a :: r).map (rv ad)) = (b, rv ad a) :: lv_args (b + 1) (r.map (rv ad)) := by
        show (b, rv ad a) :: lv_args (if (rv ad a).category = 2 then b + 2 else b + 1) (r.map (rv ad)) = _
        rw [rv_cat, if_neg hc]
      rw [e2]
      match i, h with
      | 0, h =>
        cases h
        exact List.mem_cons_self
      | i + 1, h =>
        have h1 := ih (b + 1) i v h
        rw [show b + (i + 1) = b + 1 + i by omega]
        exact List.mem_cons_of_mem _ h1
theorem ent_len (ad : Nat → Nat) : ∀ As : List Value, (lg_sl (As.map (rv ad))).length = (ent As).length
  | [] => rfl
  | v :: vs => by
    have h := ent_len ad vs
    unfold lg_sl at h ⊢
    by_cases hc : v.category = 2
    · simp [ent, hc, rv_cat] at h ⊢
      omega
    · simp [ent, hc, rv_cat] at h ⊢
      omega
theorem w_mem {ad : Nat → Nat} {cI cZ cII : ClassId} {σ : SS} {k : Nat} {x : Nat × va_E} (h : (wld ad cI cZ cII σ)[k]? = some x) : k < 46 ∧ x.1 = ad k := by
  have hk : k < 46 := by
    have := (List.getElem?_eq_some_iff.mp h).1
    rw [wld_len] at this
    exact this
  rw [wld_at hk] at h
  cases h
  exact ⟨hk, rfl⟩
theorem w_AA {ad : Nat → Nat} {cI cZ cII : ClassId} {σ : SS} {A : Nat → Prop} (sz : Nat) (h : va_D A (wld ad cI cZ cII σ)) : va_D (AA ad sz) (wld ad cI cZ cII σ) := ⟨h.1, fun k x hx => by
  obtain ⟨hk, e⟩ := w_mem hx
  exact Or.inl ⟨k, hk, e⟩⟩
/-- a contract out of a walk of its body -/
theorem CT_of {M : MD} {d : Nat} {As : List Value} {σ : SS} {Q : Option Value → SS → Prop} {L : List (Option Value)} (hy : plainName (my M).cls = true) (hcls : RN (mo M) = (my M).cls) (h8 : mo M ≠ 8) (hn : (ent As).length ≤ ml M) (hL : ent As ++ List.replicate (ml M - (ent As).length) none = L) (k : VV M d (0, fun _ => 0) 0 L [] σ Q) : CT M d As σ Q := by
  intro Q' hQ l D ad cI cZ cII sz
  refine Met.ofW (cc := mc M) (maxL := ml M) (ret := mr M) hy rfl ?_
  intro p e s m args below meth c s₁ B hml hv
  obtain ⟨rfl, hsz, hP, hK, hD0, hN, hSt⟩ := hv
  have hts := atoms_spec (ws := Cond.code (my M) (mc M) (ml M) (mr M) :: g_tbl) B.pre
  have hown : s.vm.findClass (RN (mo M)) = some m.cls := by rw [hcls]; exact findClass_of_methodNamed B.named
  have hlocks := B.notSynchronized
  subst hsz
  have hS : va_S (AA ad s.heap.size) s.heap s.heap [] := va_S.rf
  have hD := w_AA s.heap.size hD0
  have hlen : (lg_sl (As.map (rv ad))).length ≤ ml M := by rw [ent_len]; exact hn
  have hl := lv_entry (As.map (rv ad)) hlen
  rw [lg_entry_eq]
  generalize (lg_sl (As.map (rv ad)) ++ List.replicate (ml M - (lg_sl (As.map (rv ad))).length) Slot.unset).toArray = ls at hl ⊢
  have hLH : LH ad ls (ml M) L := by
    subst hL
    refine ⟨by rw [List.length_append, List.length_replicate]; omega, hl.1, hl.2.1, fun i v hv => ?_⟩
    have h1 := ent_args (ad := ad) _ As 0 i v hv
    rw [Nat.zero_add] at h1
    exact hl.2.2 _ h1
  refine k p l e (headSpec (Cond.code (my M) (mc M) (ml M) (mr M) :: g_tbl) (rmd d)).room s m ((As.map (rv ad)).toArray) below meth c D ad cI cZ cII (AA ad s.heap.size) 0 0 _ ⟨B.exec, B.bytes, hml, B.returns, hlocks, fun w hw => hts w (List.mem_cons_of_mem _ hw), hown, hN, hK, hSt, fun q hq => Or.inr hq, ⟨Nat.le_refl _, Nat.le_refl _, Nat.zero_le _, Nat.zero_le _⟩, fun h => absurd h h8⟩ ?_ s.heap [] ls ⟨hP, hD, hS⟩ hLH
  intro r σ' H locs ls' pc' hret hq hW
  have post : ∀ t : State, t.heap = H → s.WarmedH t.vm → QZ D ad cI cZ cII s.heap.size Q' ((As.map (rv ad)).toArray) s (.returned (r.map (rv ad))) t := fun t ht _ => ⟨⟨r, σ', rfl, hQ r σ' hq, by rw [ht]; exact hW.1, hW.2.1⟩, hW.2.2.F ht⟩
  match r, hret, post with
  | none, hret, post => exact W.vret B.exec B.bytes (B.returns.trans hret.2) post hW.2.2.2.2 hret.1 hlocks
  | some (.int v), hret, post =>
    obtain ⟨h1, ty, h2, h3⟩ := hret
    exact W.zret B.exec B.bytes (B.returns.trans h2) h3 post hW.2.2.2.2 h1 hlocks
  | some (.long v), hret, post => exact W.lret B.exec B.bytes (B.returns.trans hret.2) post hW.2.2.2.2 hret.1 hlocks
/-- the callee's world out of the caller's -/
theorem WP_of {D : va_G} {ad : Nat → Nat} {cI cZ cII : ClassId} {A : Nat → Prop} {s : State} {σ : SS} {H : Heap} {locs : List Loc} (hK : va_K D vwCl [(cI, .int), (cZ, .boolean), (cII, .array .int)] s) (hN : ∀ w ∈ n_tbl, va_Nw w s) (hSt : Sta ad A s s.heap) (hA : ∀ q, s.heap.size ≤ q → A q) (hW : Wd D ad cI cZ cII A s σ H locs) (U : State) (hU : U.heap = H) (hwm : s.WarmedH U.vm) : WP D ad cI cZ cII H.size σ U := by
  have sub : ∀ q, AA ad H.size q → A q := fun q h => by
    rcases h with ⟨k, hk, rfl⟩ | h
    · exact hW.2.1.2 k _ (wld_at hk)
    · exact hA q (Nat.le_trans hW.2.2.1 h)
  refine ⟨by rw [hU], by rw [hU]; exact hW.1, va_K.moved hwm.alike hK, hW.2.1.weaken (fun _ _ _ _ => trivial), n_warm hwm hN, fun g hg => ?_⟩
  rw [hU]
  exact ⟨((va_Z.kept (hSt g hg).1 hW.2.2.2.1).moved hwm.alike).narrow sub, ((va_T.kept (hSt g hg).2 hW.2.2.2.1).moved hwm.alike).narrow sub⟩
theorem WP_blind {D : va_G} {ad : Nat → Nat} {cI cZ cII : ClassId} {sz : Nat} {σ : SS} {As : List Value} : FrameBlind (va_Pc As (WP D ad cI cZ cII sz σ)) := by
  intro a U g mk q
  obtain ⟨q0, q1, qP, qK, qD, qN, qS⟩ := q
  exact ⟨q0, q1, qP, va_K.moved (u := U) (U := U.calling g mk a) (Vm.Alike.refl U.vm) qK, qD, n_same (u := U) rfl qN, fun g' hg => ⟨(qS g' hg).1.moved (Vm.Alike.refl U.vm), (qS g' hg).2.moved (Vm.Alike.refl U.vm)⟩⟩
section CALLS
variable {M M' : MD} {d pc q : Nat} {sc : Scr} {L : List (Option Value)} {st : List Value} {σ : SS} {Q : Option Value → SS → Prop}
/-- behind a call -/
theorem c_behind {p : Program} {l : Launch} {e : Env} {R : Room} {s : State} {m : MethodId} {args : Array Value} {below : List Frame} {meth : Method} {c : Code} {D : va_G} {ad : Nat → Nat} {cI cZ cII : ClassId} {A : Nat → Prop} {cells slots : Nat} {Z : State → Prop} {H : Heap} {locs : List Loc} {ls : Array Slot} {st0 : List Value} {a : Array Value} (hA : ∀ q, s.heap.size ≤ q → A q) (hW : Wd D ad cI cZ cII A s σ H locs)
    (hr : va_Run p l e R s m args below meth c H locs cells slots 0 0 (F0 m pc ls st0) (st.map (rv ad)) (QZ D ad cI cZ cII H.size Q a) (AA ad H.size))
    (kk : ∀ (r : Option Value) (σ' : SS) (H1 : Heap) (locs1 : List Loc), Q r σ' → Wd D ad cI cZ cII A s σ' H1 locs1 → W p l e R s m args below meth c H1 locs1 cells slots Z (F0 m (pc + 3) ls ((r.toList ++ st).map (rv ad)))) : W p l e R s m args below meth c H locs cells slots Z (F0 m pc ls st0) := by
  have sub : ∀ q, AA ad H.size q → A q := fun q h => by
    rcases h with ⟨k, hk, rfl⟩ | h
    · exact hW.2.1.2 k _ (wld_at hk)
    · exact hA q (Nat.le_trans hW.2.2.1 h)
  intro T hT X
  obtain ⟨v, s₀, t, T', L0, h0, X', hL, e1, e2, ⟨⟨r, σ', hv, hQ, hP1, hD1⟩, hz, hk⟩, stp⟩ := hr T hT X
  cases hv
  rw [h0] at hz hk
  have hS := hW.2.2
  obtain ⟨t2, a1, b1⟩ := kk r σ' T'.heap (locs ++ L0) hQ ⟨by rw [e1]; exact hP1, hD1.weaken (fun _ x _ h => sub x.1 h), ⟨Nat.le_trans hS.1 (by rw [e1]; exact hz), fun q h1 h2 => by rw [e1, hk q (Nat.lt_of_lt_of_le h1 hS.1) (fun z => h2 (sub q z))]; exact hS.2.1 q h1 h2, fun q hq => by
      rcases List.mem_append.mp hq with h | h
      · exact hS.2.2 q h
      · exact sub _ (hL q h)⟩⟩ T' rfl X'
  refine ⟨t2, stp t2 ?_, b1⟩
  rw [List.map_append] at a1
  cases r with
  | none => exact a1
  | some v => exact a1
theorem good_all {M' : MD} (h : Cond.code (my M') (mc M') (ml M') (mr M') ∈ g_tbl) : GoodIn g_tbl (Cond.code (my M') (mc M') (ml M') (mr M') :: g_tbl) := fun w hw => by
  rcases List.mem_cons.mp hw with rfl | hw
  · exact ⟨h, g_good h⟩
  · exact ⟨hw, g_good hw⟩
theorem v_callV {idx ci n pp : Nat} {As vs : List Value} (hd : decode (mc M) pc = .ok (.invokevirtual idx, 3)) (hq : pc + 3 = q) (hl : LKV (mo M) idx M' n ci) (hdd : 1 ≤ d) (hn : As.length = n) (ho : obj pp σ = some (ci, vs)) (hs : (st.map fun v => v.category).sum ≤ 8) (k : CT M' (d - 1) (.ref pp :: As) σ (fun r σ1 => VV M d sc q L (r.toList ++ st) σ1 Q)) : VV M d sc pc L (As.reverse ++ .ref pp :: st) σ Q := by
  subst hq
  intro p l e R s m args below meth c D ad cI cZ cII A cells slots Z C hZ H locs ls hW hL
  obtain ⟨hx, hb, hml, hr, hlk, hts, hown, hnw, hK, hSt, hA, hR, hlaw⟩ := id C
  obtain ⟨⟨⟨hcode, hini, hdesc, hml'⟩, hinst, hsel, hcls⟩, hlink⟩ := hl
  have hst : (As.reverse ++ .ref pp :: st).map (rv ad) = (As.map (rv ad)).reverse ++ .ref (ad pp) :: st.map (rv ad) := by simp [List.map_reverse, rv]
  rw [hst]
  have hG := good_all hcode
  obtain ⟨qc, hqc, hqn⟩ := Option.map_eq_some_iff.mp hcls
  have hrv := va_recv hK hW.1 hqc (wld_obj ho)
  rw [hqn] at hrv
  have r1 := hR.1
  have r2 := hR.2.1
  refine c_behind hA hW (va_runV (As := As.map (rv ad)) (rest := st.map (rv ad)) (b := ad pp) (n := n) ⟨hx, hb, hml, hown, hts⟩ (k _ (fun _ _ h => h) l D ad cI cZ cII H.size) ⟨callB_of n hts hG rfl rfl rfl (hts _ hini) (hts _ hlink) hdesc ⟨by show d - 1 + 1 ≤ R.frames; omega, by show 8 + (ml M' + 11) + 35 * (d - 1) ≤ R.locals; omega⟩, hts _ hinst, hts _ hsel⟩ ⟨WP_blind, hrv, fun U hU hwm => ⟨by simp [rv], WP_of hK hnw hSt hA hW U hU hwm⟩⟩ rfl (by rw [List.length_map]; exact hn) hL.2.1 rfl (lv_room (by rw [rv_cats]; exact hs)) hd ⟨hR.2.2.1, hR.2.2.2⟩) (fun r σ' H1 locs1 hQ hW1 => ?_)
  exact hQ p l e R s m args below meth c D ad cI cZ cII A cells slots Z C hZ H1 locs1 ls hW1 hL
theorem v_callN {idx ci n pp : Nat} {As vs : List Value} (hd : decode (mc M) pc = .ok (.invokevirtual idx, 3)) (hq : pc + 3 = q) (hl : LKN (mo M) idx M' n ci) (hdd : 1 ≤ d) (hn : As.length = n) (ho : obj pp σ = some (ci, vs)) (hs : (st.map fun v => v.category).sum ≤ 8) (k : CT M' (d - 1) (.ref pp :: As) σ (fun r σ1 => VV M d sc q L (r.toList ++ st) σ1 Q)) : VV M d sc pc L (As.reverse ++ .ref pp :: st) σ Q := by
  subst hq
  intro p l e R s m args below meth c D ad cI cZ cII A cells slots Z C hZ H locs ls hW hL
  obtain ⟨hx, hb, hml, hr, hlk, hts, hown, hnw, hK, hSt, hA, hR, hlaw⟩ := id C
  obtain ⟨⟨⟨hcode, hini, hdesc, hml'⟩, hinst, hsel, hcls⟩, host, hlink⟩ := hl
  have hst : (As.reverse ++ .ref pp :: st).map (rv ad) = (As.map (rv ad)).reverse ++ .ref (ad pp) :: st.map (rv ad) := by simp [List.map_reverse, rv]
  rw [hst]
  have hG := good_all hcode
  obtain ⟨qc, hqc, hqn⟩ := Option.map_eq_some_iff.mp hcls
  have hrv := va_recv hK hW.1 hqc (wld_obj ho)
  rw [hqn] at hrv
  have r1 := hR.1
  have r2 := hR.2.1
  refine c_behind hA hW (va_runVN (As := As.map (rv ad)) (rest := st.map (rv ad)) (b := ad pp) (n := n) ⟨hx, hb, hml, hown, hts⟩ (k _ (fun _ _ h => h) l D ad cI cZ cII H.size) ⟨va_cnB n hts hG rfl rfl rfl (hnw _ hlink) (hts _ hini) hdesc ⟨by show d - 1 + 1 ≤ R.frames; omega, by show 8 + (ml M' + 11) + 35 * (d - 1) ≤ R.locals; omega⟩, hts _ hinst, hts _ hsel⟩ ⟨WP_blind, hrv, fun U hU hwm => ⟨by simp [rv], WP_of hK hnw hSt hA hW U hU hwm⟩⟩ rfl (by rw [List.length_map]; exact hn) hL.2.1 rfl (lv_room (by rw [rv_cats]; exact hs)) hd ⟨hR.2.2.1, hR.2.2.2⟩) (fun r σ' H1 locs1 hQ hW1 => ?_)
  exact hQ p l e R s m args below meth c D ad cI cZ cII A cells slots Z C hZ H1 locs1 ls hW1 hL
theorem v_callS {idx n : Nat} {As : List Value} (hd : decode (mc M) pc = .ok (.invokestatic idx, 3)) (hq : pc + 3 = q) (hl : LKS (mo M) idx M' n) (hdd : 1 ≤ d) (hn : As.length = n) (hs : (st.map fun v => v.category).sum ≤ 8) (k : CT M' (d - 1) As σ (fun r σ1 => VV M d sc q L (r.toList ++ st) σ1 Q)) : VV M d sc pc L (As.reverse ++ st) σ Q := by
  subst hq
  intro p l e R s m args below meth c D ad cI cZ cII A cells slots Z C hZ H locs ls hW hL
  obtain ⟨hx, hb, hml, hr, hlk, hts, hown, hnw, hK, hSt, hA, hR, hlaw⟩ := id C
  obtain ⟨⟨hcode, hini, hdesc, hml'⟩, hlink, hstat⟩ := hl
  have hst : (As.reverse ++ st).map (rv ad) = (As.map (rv ad)).reverse ++ st.map (rv ad) := by simp [List.map_reverse]
  rw [hst]
  have hG := good_all hcode
  have r1 := hR.1
  have r2 := hR.2.1
  refine c_behind hA hW (va_runS (As := As.map (rv ad)) (rest := st.map (rv ad)) (n := n) ⟨hx, hb, hml, hown, hts⟩ (k _ (fun _ _ h => h) l D ad cI cZ cII H.size) ⟨callB_of n hts hG rfl rfl rfl (hts _ hini) (hts _ hlink) hdesc ⟨by show d - 1 + 1 ≤ R.frames; omega, by show 8 + (ml M' + 11) + 35 * (d - 1) ≤ R.locals; omega⟩, hts _ hstat⟩ ⟨WP_blind, fun U hU hwm => ⟨rfl, WP_of hK hnw hSt hA hW U hU hwm⟩⟩ rfl (by rw [List.length_map]; exact hn) hL.2.1 rfl (lv_room (by rw [rv_cats]; exact hs)) hd ⟨hR.2.2.1, hR.2.2.2⟩) (fun r σ' H1 locs1 hQ hW1 => ?_)
  exact hQ p l e R s m args below meth c D ad cI cZ cII A cells slots Z C hZ H1 locs1 ls hW1 hL
/-- the ends -/
theorem v_ret0 (hd : decode (mc M) pc = .ok (.return_, 1)) (hr : mr M = none) (k : Q none σ) : VV M d sc pc L [] σ Q := by
  intro p l e R s m args below meth c D ad cI cZ cII A cells slots Z C hZ H locs ls hW hL
  exact hZ none σ H locs ls pc ⟨hd, hr⟩ k hW
theorem v_iret {x : Int32} (hd : decode (mc M) pc = .ok (.ireturn, 1)) (hr : mr M = some .int) (k : Q (some (.int x)) σ) : VV M d sc pc L [.int x] σ Q := by
  intro p l e R s m args below meth c D ad cI cZ cII A cells slots Z C hZ H locs ls hW hL
  exact hZ (some (.int x)) σ H locs ls pc ⟨hd, .int, hr, rfl⟩ k hW
theorem v_zret {x : Int32} (hd : decode (mc M) pc = .ok (.ireturn, 1)) (hr : mr M = some .boolean) (hx : x = 0 ∨ x = 1) (k : Q (some (.int x)) σ) : VV M d sc pc L [.int x] σ Q := by
  intro p l e R s m args below meth c D ad cI cZ cII A cells slots Z C hZ H locs ls hW hL
  exact hZ (some (.int x)) σ H locs ls pc ⟨hd, .boolean, hr, by rcases hx with rfl | rfl <;> decide⟩ k hW
theorem v_lret {x : Int64} (hd : decode (mc M) pc = .ok (.lreturn, 1)) (hr : mr M = some .long) (k : Q (some (.long x)) σ) : VV M d sc pc L [.long x] σ Q := by
  intro p l e R s m args below meth c D ad cI cZ cII A cells slots Z C hZ H locs ls hW hL
  exact hZ (some (.long x)) σ H locs ls pc ⟨hd, hr⟩ k hW
end CALLS
end
section
/-! LINKS: by program out of the tables' words -/
theorem sub_of {ws : List Cond} (ps : List Nat) (hp : ps.filterMap (fun i => lw_tbl[i]?) = ws) (hg : ws.all goodWord = true) : ∀ w ∈ ws, w ∈ g_tbl := by
  intro w hw
  have h1 := List.all_eq_true.mp hg w hw
  rw [← hp] at hw
  obtain ⟨i, -, hi⟩ := List.mem_filterMap.mp hw
  exact g_of (List.mem_of_getElem? hi) h1
theorem inw_0 : ∀ w ∈ u_ws RX0 TX0 3, w ∈ g_tbl := sub_of [189, 191, 193] (by decide +kernel) (by decide +kernel)
theorem inw_1 : ∀ w ∈ u_ws RX1 TX1 2, w ∈ g_tbl := sub_of [138, 140] (by decide +kernel) (by decide +kernel)
theorem inw_2 : ∀ w ∈ u_ws RX2 TX2 5, w ∈ g_tbl := sub_of [167, 169, 171, 173, 175] (by decide +kernel) (by decide +kernel)
theorem inw_3 : ∀ w ∈ u_ws RX3 TX3 2, w ∈ g_tbl := sub_of [205, 207] (by decide +kernel) (by decide +kernel)
theorem inw_4 : ∀ w ∈ u_ws RX4 TX4 5, w ∈ g_tbl := sub_of [223, 225, 227, 229, 231] (by decide +kernel) (by decide +kernel)
theorem inw_5 : ∀ w ∈ u_ws RX5 TX5 1, w ∈ g_tbl := sub_of [154] (by decide +kernel) (by decide +kernel)
theorem inw_6 : ∀ w ∈ u_ws RX6 TX6 5, w ∈ g_tbl := sub_of [239, 241, 243, 245, 247] (by decide +kernel) (by decide +kernel)
theorem inw_7 : ∀ w ∈ u_ws RX7 TX7 14, w ∈ g_tbl := sub_of [707, 709, 711, 713, 715, 717, 719, 721, 723, 725, 727, 729, 731, 733] (by decide +kernel) (by decide +kernel)
theorem fl_1_9 : FL 1 9 1 0 := ⟨RX1, TX1, 2, rfl, by decide, inw_1, Or.inl (g_mem 131 (by decide +kernel) (by decide +kernel))⟩
theorem fl_5_32 : FL 5 32 1 0 := ⟨RX1, TX1, 2, rfl, by decide, inw_1, Or.inr ⟨"PhrasePool", n_mem 32 (by decide +kernel) (by decide +kernel) (by decide +kernel)⟩⟩
theorem fl_2_107 : FL 2 107 1 0 := ⟨RX1, TX1, 2, rfl, by decide, inw_1, Or.inr ⟨"PhrasePool", n_mem 33 (by decide +kernel) (by decide +kernel) (by decide +kernel)⟩⟩
theorem fl_5_16 : FL 5 16 1 1 := ⟨RX1, TX1, 2, rfl, by decide, inw_1, Or.inr ⟨"PhrasePool", n_mem 34 (by decide +kernel) (by decide +kernel) (by decide +kernel)⟩⟩
theorem fl_1_15 : FL 1 15 1 1 := ⟨RX1, TX1, 2, rfl, by decide, inw_1, Or.inl (g_mem 135 (by decide +kernel) (by decide +kernel))⟩
theorem fp_1_15 : FP 1 15 1 1 "I" := ⟨RX1, TX1, 2, tyX1, rfl, by decide, inw_1, tyX1_ok, nmX1, by decide, rfl, g_mem 135 (by decide +kernel) (by decide +kernel)⟩
theorem fl_2_103 : FL 2 103 1 1 := ⟨RX1, TX1, 2, rfl, by decide, inw_1, Or.inr ⟨"PhrasePool", n_mem 36 (by decide +kernel) (by decide +kernel) (by decide +kernel)⟩⟩
theorem fl_6_218 : FL 6 218 1 1 := ⟨RX1, TX1, 2, rfl, by decide, inw_1, Or.inr ⟨"PhrasePool", n_mem 37 (by decide +kernel) (by decide +kernel) (by decide +kernel)⟩⟩
theorem fl_5_11 : FL 5 11 5 0 := ⟨RX5, TX5, 1, rfl, by decide, inw_5, Or.inl (g_mem 153 (by decide +kernel) (by decide +kernel))⟩
theorem fl_2_11 : FL 2 11 2 0 := ⟨RX2, TX2, 5, rfl, by decide, inw_2, Or.inl (g_mem 162 (by decide +kernel) (by decide +kernel))⟩
theorem fl_2_15 : FL 2 15 2 1 := ⟨RX2, TX2, 5, rfl, by decide, inw_2, Or.inl (g_mem 163 (by decide +kernel) (by decide +kernel))⟩
theorem fl_2_22 : FL 2 22 2 2 := ⟨RX2, TX2, 5, rfl, by decide, inw_2, Or.inl (g_mem 164 (by decide +kernel) (by decide +kernel))⟩
theorem fl_2_26 : FL 2 26 2 3 := ⟨RX2, TX2, 5, rfl, by decide, inw_2, Or.inl (g_mem 165 (by decide +kernel) (by decide +kernel))⟩
theorem fl_2_32 : FL 2 32 2 4 := ⟨RX2, TX2, 5, rfl, by decide, inw_2, Or.inl (g_mem 166 (by decide +kernel) (by decide +kernel))⟩
theorem fl_0_13 : FL 0 13 0 0 := ⟨RX0, TX0, 3, rfl, by decide, inw_0, Or.inl (g_mem 185 (by decide +kernel) (by decide +kernel))⟩
theorem fl_0_18 : FL 0 18 0 1 := ⟨RX0, TX0, 3, rfl, by decide, inw_0, Or.inl (g_mem 186 (by decide +kernel) (by decide +kernel))⟩
theorem fp_0_18 : FP 0 18 0 1 "I" := ⟨RX0, TX0, 3, tyX0, rfl, by decide, inw_0, tyX0_ok, nmX0, by decide, rfl, g_mem 186 (by decide +kernel) (by decide +kernel)⟩
theorem fl_0_26 : FL 0 26 0 2 := ⟨RX0, TX0, 3, rfl, by decide, inw_0, Or.inl (g_mem 187 (by decide +kernel) (by decide +kernel))⟩
theorem fp_0_26 : FP 0 26 0 2 "I" := ⟨RX0, TX0, 3, tyX0, rfl, by decide, inw_0, tyX0_ok, nmX0, by decide, rfl, g_mem 187 (by decide +kernel) (by decide +kernel)⟩
theorem fl_6_200 : FL 6 200 0 2 := ⟨RX0, TX0, 3, rfl, by decide, inw_0, Or.inr ⟨"PhrasePool", n_mem 88 (by decide +kernel) (by decide +kernel) (by decide +kernel)⟩⟩
theorem fl_3_9 : FL 3 9 3 0 := ⟨RX3, TX3, 2, rfl, by decide, inw_3, Or.inl (g_mem 202 (by decide +kernel) (by decide +kernel))⟩
theorem fl_3_15 : FL 3 15 3 1 := ⟨RX3, TX3, 2, rfl, by decide, inw_3, Or.inl (g_mem 203 (by decide +kernel) (by decide +kernel))⟩
theorem fp_3_15 : FP 3 15 3 1 "I" := ⟨RX3, TX3, 2, tyX3, rfl, by decide, inw_3, tyX3_ok, nmX3, by decide, rfl, g_mem 203 (by decide +kernel) (by decide +kernel)⟩
theorem fl_6_83 : FL 6 83 3 1 := ⟨RX3, TX3, 2, rfl, by decide, inw_3, Or.inr ⟨"PhrasePool", n_mem 104 (by decide +kernel) (by decide +kernel) (by decide +kernel)⟩⟩
theorem fl_4_9 : FL 4 9 4 0 := ⟨RX4, TX4, 5, rfl, by decide, inw_4, Or.inl (g_mem 218 (by decide +kernel) (by decide +kernel))⟩
theorem fl_4_15 : FL 4 15 4 1 := ⟨RX4, TX4, 5, rfl, by decide, inw_4, Or.inl (g_mem 219 (by decide +kernel) (by decide +kernel))⟩
theorem fl_4_18 : FL 4 18 4 2 := ⟨RX4, TX4, 5, rfl, by decide, inw_4, Or.inl (g_mem 220 (by decide +kernel) (by decide +kernel))⟩
theorem fl_4_21 : FL 4 21 4 3 := ⟨RX4, TX4, 5, rfl, by decide, inw_4, Or.inl (g_mem 221 (by decide +kernel) (by decide +kernel))⟩
theorem fl_4_24 : FL 4 24 4 4 := ⟨RX4, TX4, 5, rfl, by decide, inw_4, Or.inl (g_mem 222 (by decide +kernel) (by decide +kernel))⟩
theorem fp_4_24 : FP 4 24 4 4 "I" := ⟨RX4, TX4, 5, tyX4, rfl, by decide, inw_4, tyX4_ok, nmX4, by decide, rfl, g_mem 222 (by decide +kernel) (by decide +kernel)⟩
theorem fl_6_10 : FL 6 10 6 0 := ⟨RX6, TX6, 5, rfl, by decide, inw_6, Or.inl (g_mem 234 (by decide +kernel) (by decide +kernel))⟩
theorem fl_6_19 : FL 6 19 6 1 := ⟨RX6, TX6, 5, rfl, by decide, inw_6, Or.inl (g_mem 235 (by decide +kernel) (by decide +kernel))⟩
theorem fl_6_26 : FL 6 26 6 2 := ⟨RX6, TX6, 5, rfl, by decide, inw_6, Or.inl (g_mem 236 (by decide +kernel) (by decide +kernel))⟩
theorem fl_6_33 : FL 6 33 6 3 := ⟨RX6, TX6, 5, rfl, by decide, inw_6, Or.inl (g_mem 237 (by decide +kernel) (by decide +kernel))⟩
theorem fl_6_40 : FL 6 40 6 4 := ⟨RX6, TX6, 5, rfl, by decide, inw_6, Or.inl (g_mem 238 (by decide +kernel) (by decide +kernel))⟩
theorem sl_6_70 : Cond.fieldLink (RN 6) 70 "PhrasePool" (snm 100) "[I" ∈ g_tbl := g_mem 300 (by decide +kernel) (by decide +kernel)
theorem sl_6_74 : Cond.fieldLink (RN 6) 74 "PhrasePool" (snm 101) "[I" ∈ g_tbl := g_mem 302 (by decide +kernel) (by decide +kernel)
theorem fl_7_7 : FL 7 7 7 0 := ⟨RX7, TX7, 14, rfl, by decide, inw_7, Or.inl (g_mem 693 (by decide +kernel) (by decide +kernel))⟩
theorem fl_7_37 : FL 7 37 7 1 := ⟨RX7, TX7, 14, rfl, by decide, inw_7, Or.inl (g_mem 694 (by decide +kernel) (by decide +kernel))⟩
theorem fp_7_37 : FP 7 37 7 1 "I" := ⟨RX7, TX7, 14, tyX7, rfl, by decide, inw_7, tyX7_ok, nmX7, by decide, rfl, g_mem 694 (by decide +kernel) (by decide +kernel)⟩
theorem fl_7_13 : FL 7 13 7 2 := ⟨RX7, TX7, 14, rfl, by decide, inw_7, Or.inl (g_mem 695 (by decide +kernel) (by decide +kernel))⟩
theorem fl_7_53 : FL 7 53 7 3 := ⟨RX7, TX7, 14, rfl, by decide, inw_7, Or.inl (g_mem 696 (by decide +kernel) (by decide +kernel))⟩
theorem fp_7_53 : FP 7 53 7 3 "I" := ⟨RX7, TX7, 14, tyX7, rfl, by decide, inw_7, tyX7_ok, nmX7, by decide, rfl, g_mem 696 (by decide +kernel) (by decide +kernel)⟩
theorem fl_7_16 : FL 7 16 7 4 := ⟨RX7, TX7, 14, rfl, by decide, inw_7, Or.inl (g_mem 697 (by decide +kernel) (by decide +kernel))⟩
theorem fl_7_56 : FL 7 56 7 5 := ⟨RX7, TX7, 14, rfl, by decide, inw_7, Or.inl (g_mem 698 (by decide +kernel) (by decide +kernel))⟩
theorem fp_7_56 : FP 7 56 7 5 "I" := ⟨RX7, TX7, 14, tyX7, rfl, by decide, inw_7, tyX7_ok, nmX7, by decide, rfl, g_mem 698 (by decide +kernel) (by decide +kernel)⟩
theorem fl_7_19 : FL 7 19 7 6 := ⟨RX7, TX7, 14, rfl, by decide, inw_7, Or.inl (g_mem 699 (by decide +kernel) (by decide +kernel))⟩
theorem fl_7_22 : FL 7 22 7 7 := ⟨RX7, TX7, 14, rfl, by decide, inw_7, Or.inl (g_mem 700 (by decide +kernel) (by decide +kernel))⟩
theorem fl_7_25 : FL 7 25 7 8 := ⟨RX7, TX7, 14, rfl, by decide, inw_7, Or.inl (g_mem 701 (by decide +kernel) (by decide +kernel))⟩
theorem fl_7_28 : FL 7 28 7 9 := ⟨RX7, TX7, 14, rfl, by decide, inw_7, Or.inl (g_mem 702 (by decide +kernel) (by decide +kernel))⟩
theorem fl_7_31 : FL 7 31 7 10 := ⟨RX7, TX7, 14, rfl, by decide, inw_7, Or.inl (g_mem 703 (by decide +kernel) (by decide +kernel))⟩
theorem fl_7_34 : FL 7 34 7 11 := ⟨RX7, TX7, 14, rfl, by decide, inw_7, Or.inl (g_mem 704 (by decide +kernel) (by decide +kernel))⟩
theorem fl_7_59 : FL 7 59 7 12 := ⟨RX7, TX7, 14, rfl, by decide, inw_7, Or.inl (g_mem 705 (by decide +kernel) (by decide +kernel))⟩
theorem fp_7_59 : FP 7 59 7 12 "I" := ⟨RX7, TX7, 14, tyX7, rfl, by decide, inw_7, tyX7_ok, nmX7, by decide, rfl, g_mem 705 (by decide +kernel) (by decide +kernel)⟩
theorem fl_7_159 : FL 7 159 7 13 := ⟨RX7, TX7, 14, rfl, by decide, inw_7, Or.inl (g_mem 706 (by decide +kernel) (by decide +kernel))⟩
theorem fp_7_159 : FP 7 159 7 13 "J" := ⟨RX7, TX7, 14, tyX7, rfl, by decide, inw_7, tyX7_ok, nmX7, by decide, rfl, g_mem 706 (by decide +kernel) (by decide +kernel)⟩
theorem cn_6_48 : Cond.constant (RN 6) 48 (-1000004) ∈ g_tbl := g_mem 258 (by decide +kernel) (by decide +kernel)
theorem cn_6_60 : Cond.constant (RN 6) 60 (-1000001) ∈ g_tbl := g_mem 286 (by decide +kernel) (by decide +kernel)
theorem cn_6_61 : Cond.constant (RN 6) 61 (-1000002) ∈ g_tbl := g_mem 287 (by decide +kernel) (by decide +kernel)
theorem cn_6_94 : Cond.constant (RN 6) 94 (-1000000) ∈ g_tbl := g_mem 427 (by decide +kernel) (by decide +kernel)
theorem cn_3_23 : Cond.constant (RN 3) 23 (-1000000) ∈ g_tbl := g_mem 443 (by decide +kernel) (by decide +kernel)
theorem cn_6_105 : Cond.constant (RN 6) 105 (-1000003) ∈ g_tbl := g_mem 445 (by decide +kernel) (by decide +kernel)
theorem cn_2_167 : Cond.constant (RN 2) 167 (-1000000) ∈ g_tbl := g_mem 549 (by decide +kernel) (by decide +kernel)
theorem cn_4_32 : Cond.constant (RN 4) 32 (-1000000) ∈ g_tbl := g_mem 625 (by decide +kernel) (by decide +kernel)
theorem cn_6_207 : Cond.constantLong (RN 6) 207 (61) ∈ g_tbl := g_mem 681 (by decide +kernel) (by decide +kernel)
theorem cn_6_209 : Cond.constantLong (RN 6) 209 (31) ∈ g_tbl := g_mem 682 (by decide +kernel) (by decide +kernel)
theorem cn_7_79 : Cond.constant (RN 7) 79 (-1000004) ∈ g_tbl := g_mem 740 (by decide +kernel) (by decide +kernel)
theorem cn_7_87 : Cond.constant (RN 7) 87 (-1000001) ∈ g_tbl := g_mem 760 (by decide +kernel) (by decide +kernel)
theorem cn_7_88 : Cond.constant (RN 7) 88 (-1000002) ∈ g_tbl := g_mem 761 (by decide +kernel) (by decide +kernel)
theorem cn_7_121 : Cond.constant (RN 7) 121 (-1000000) ∈ g_tbl := g_mem 837 (by decide +kernel) (by decide +kernel)
theorem cn_7_128 : Cond.constant (RN 7) 128 (-1000003) ∈ g_tbl := g_mem 846 (by decide +kernel) (by decide +kernel)
theorem cn_7_163 : Cond.constantLong (RN 7) 163 (61) ∈ g_tbl := g_mem 960 (by decide +kernel) (by decide +kernel)
theorem cn_7_157 : Cond.constantLong (RN 7) 157 (31) ∈ g_tbl := g_mem 965 (by decide +kernel) (by decide +kernel)
theorem k0_X0_keep : LK0 mX0_keep 1 := ⟨g_mem 262 (by decide +kernel) (by decide +kernel), g_mem 106 (by decide +kernel) (by decide +kernel), by decide +kernel, by decide⟩
theorem ki_X0_keep : LKI mX0_keep 1 0 := ⟨k0_X0_keep, g_mem 261 (by decide +kernel) (by decide +kernel), g_mem 1 (by decide +kernel) (by decide +kernel), rfl⟩
theorem k0_X0_restoreInto : LK0 mX0_restoreInto 1 := ⟨g_mem 672 (by decide +kernel) (by decide +kernel), g_mem 106 (by decide +kernel) (by decide +kernel), by decide +kernel, by decide⟩
theorem ki_X0_restoreInto : LKI mX0_restoreInto 1 0 := ⟨k0_X0_restoreInto, g_mem 671 (by decide +kernel) (by decide +kernel), g_mem 68 (by decide +kernel) (by decide +kernel), rfl⟩
theorem k0_X1_clear : LK0 mX1_clear 0 := ⟨g_mem 369 (by decide +kernel) (by decide +kernel), g_mem 103 (by decide +kernel) (by decide +kernel), by decide +kernel, by decide⟩
theorem ki_X1_clear : LKI mX1_clear 0 1 := ⟨k0_X1_clear, g_mem 368 (by decide +kernel) (by decide +kernel), g_mem 20 (by decide +kernel) (by decide +kernel), rfl⟩
theorem k0_X1_append : LK0 mX1_append 1 := ⟨g_mem 381 (by decide +kernel) (by decide +kernel), g_mem 103 (by decide +kernel) (by decide +kernel), by decide +kernel, by decide⟩
theorem ki_X1_append : LKI mX1_append 1 1 := ⟨k0_X1_append, g_mem 380 (by decide +kernel) (by decide +kernel), g_mem 23 (by decide +kernel) (by decide +kernel), rfl⟩
theorem k0_X2_copyTo : LK0 mX2_copyTo 1 := ⟨g_mem 266 (by decide +kernel) (by decide +kernel), g_mem 102 (by decide +kernel) (by decide +kernel), by decide +kernel, by decide⟩
theorem ki_X2_copyTo : LKI mX2_copyTo 1 2 := ⟨k0_X2_copyTo, g_mem 265 (by decide +kernel) (by decide +kernel), g_mem 2 (by decide +kernel) (by decide +kernel), rfl⟩
theorem k0_X2_copyFrom : LK0 mX2_copyFrom 1 := ⟨g_mem 676 (by decide +kernel) (by decide +kernel), g_mem 102 (by decide +kernel) (by decide +kernel), by decide +kernel, by decide⟩
theorem ki_X2_copyFrom : LKI mX2_copyFrom 1 2 := ⟨k0_X2_copyFrom, g_mem 675 (by decide +kernel) (by decide +kernel), g_mem 69 (by decide +kernel) (by decide +kernel), rfl⟩
theorem k0_X2_memberCell : LK0 mX2_memberCell 2 := ⟨g_mem 276 (by decide +kernel) (by decide +kernel), g_mem 102 (by decide +kernel) (by decide +kernel), by decide +kernel, by decide⟩
theorem k0_X2_phraseCell : LK0 mX2_phraseCell 2 := ⟨g_mem 334 (by decide +kernel) (by decide +kernel), g_mem 102 (by decide +kernel) (by decide +kernel), by decide +kernel, by decide⟩
theorem k0_X2_noteCell : LK0 mX2_noteCell 2 := ⟨g_mem 349 (by decide +kernel) (by decide +kernel), g_mem 102 (by decide +kernel) (by decide +kernel), by decide +kernel, by decide⟩
theorem k0_X2_members : LK0 mX2_members 0 := ⟨g_mem 257 (by decide +kernel) (by decide +kernel), g_mem 102 (by decide +kernel) (by decide +kernel), by decide +kernel, by decide⟩
theorem ki_X2_members : LKI mX2_members 0 2 := ⟨k0_X2_members, g_mem 256 (by decide +kernel) (by decide +kernel), g_mem 0 (by decide +kernel) (by decide +kernel), rfl⟩
theorem k0_X2_phrases : LK0 mX2_phrases 0 := ⟨g_mem 323 (by decide +kernel) (by decide +kernel), g_mem 102 (by decide +kernel) (by decide +kernel), by decide +kernel, by decide⟩
theorem ki_X2_phrases : LKI mX2_phrases 0 2 := ⟨k0_X2_phrases, g_mem 322 (by decide +kernel) (by decide +kernel), g_mem 10 (by decide +kernel) (by decide +kernel), rfl⟩
theorem k0_X2_notes : LK0 mX2_notes 0 := ⟨g_mem 338 (by decide +kernel) (by decide +kernel), g_mem 102 (by decide +kernel) (by decide +kernel), by decide +kernel, by decide⟩
theorem ki_X2_notes : LKI mX2_notes 0 2 := ⟨k0_X2_notes, g_mem 337 (by decide +kernel) (by decide +kernel), g_mem 13 (by decide +kernel) (by decide +kernel), rfl⟩
theorem k0_X2_tick : LK0 mX2_tick 0 := ⟨g_mem 353 (by decide +kernel) (by decide +kernel), g_mem 102 (by decide +kernel) (by decide +kernel), by decide +kernel, by decide⟩
theorem ki_X2_tick : LKI mX2_tick 0 2 := ⟨k0_X2_tick, g_mem 352 (by decide +kernel) (by decide +kernel), g_mem 16 (by decide +kernel) (by decide +kernel), rfl⟩
theorem k0_X2_hasMember : LK0 mX2_hasMember 1 := ⟨g_mem 284 (by decide +kernel) (by decide +kernel), g_mem 102 (by decide +kernel) (by decide +kernel), by decide +kernel, by decide⟩
theorem ki_X2_hasMember : LKI mX2_hasMember 1 2 := ⟨k0_X2_hasMember, g_mem 283 (by decide +kernel) (by decide +kernel), g_mem 4 (by decide +kernel) (by decide +kernel), rfl⟩
theorem k0_X2_hasPhrase : LK0 mX2_hasPhrase 1 := ⟨g_mem 431 (by decide +kernel) (by decide +kernel), g_mem 102 (by decide +kernel) (by decide +kernel), by decide +kernel, by decide⟩
theorem ki_X2_hasPhrase : LKI mX2_hasPhrase 1 2 := ⟨k0_X2_hasPhrase, g_mem 430 (by decide +kernel) (by decide +kernel), g_mem 33 (by decide +kernel) (by decide +kernel), rfl⟩
theorem k0_X2_hasNote : LK0 mX2_hasNote 1 := ⟨g_mem 565 (by decide +kernel) (by decide +kernel), g_mem 102 (by decide +kernel) (by decide +kernel), by decide +kernel, by decide⟩
theorem ki_X2_hasNote : LKI mX2_hasNote 1 2 := ⟨k0_X2_hasNote, g_mem 564 (by decide +kernel) (by decide +kernel), g_mem 52 (by decide +kernel) (by decide +kernel), rfl⟩
theorem k0_X2_settingOf : LK0 mX2_settingOf 1 := ⟨g_mem 307 (by decide +kernel) (by decide +kernel), g_mem 102 (by decide +kernel) (by decide +kernel), by decide +kernel, by decide⟩
theorem ki_X2_settingOf : LKI mX2_settingOf 1 2 := ⟨k0_X2_settingOf, g_mem 306 (by decide +kernel) (by decide +kernel), g_mem 7 (by decide +kernel) (by decide +kernel), rfl⟩
theorem k0_X2_changeSetting : LK0 mX2_changeSetting 2 := ⟨g_mem 311 (by decide +kernel) (by decide +kernel), g_mem 102 (by decide +kernel) (by decide +kernel), by decide +kernel, by decide⟩
theorem ki_X2_changeSetting : LKI mX2_changeSetting 2 2 := ⟨k0_X2_changeSetting, g_mem 310 (by decide +kernel) (by decide +kernel), g_mem 8 (by decide +kernel) (by decide +kernel), rfl⟩
theorem k0_X2_moveTick : LK0 mX2_moveTick 1 := ⟨g_mem 608 (by decide +kernel) (by decide +kernel), g_mem 102 (by decide +kernel) (by decide +kernel), by decide +kernel, by decide⟩
theorem ki_X2_moveTick : LKI mX2_moveTick 1 2 := ⟨k0_X2_moveTick, g_mem 607 (by decide +kernel) (by decide +kernel), g_mem 59 (by decide +kernel) (by decide +kernel), rfl⟩
theorem k0_X2_startMember : LK0 mX2_startMember 0 := ⟨g_mem 273 (by decide +kernel) (by decide +kernel), g_mem 102 (by decide +kernel) (by decide +kernel), by decide +kernel, by decide⟩
theorem ki_X2_startMember : LKI mX2_startMember 0 2 := ⟨k0_X2_startMember, g_mem 272 (by decide +kernel) (by decide +kernel), g_mem 3 (by decide +kernel) (by decide +kernel), rfl⟩
theorem k0_X2_priceOf : LK0 mX2_priceOf 1 := ⟨g_mem 291 (by decide +kernel) (by decide +kernel), g_mem 102 (by decide +kernel) (by decide +kernel), by decide +kernel, by decide⟩
theorem ki_X2_priceOf : LKI mX2_priceOf 1 2 := ⟨k0_X2_priceOf, g_mem 290 (by decide +kernel) (by decide +kernel), g_mem 5 (by decide +kernel) (by decide +kernel), rfl⟩
theorem k0_X2_changePrice : LK0 mX2_changePrice 2 := ⟨g_mem 295 (by decide +kernel) (by decide +kernel), g_mem 102 (by decide +kernel) (by decide +kernel), by decide +kernel, by decide⟩
theorem ki_X2_changePrice : LKI mX2_changePrice 2 2 := ⟨k0_X2_changePrice, g_mem 294 (by decide +kernel) (by decide +kernel), g_mem 6 (by decide +kernel) (by decide +kernel), rfl⟩
theorem k0_X2_memberProperty : LK0 mX2_memberProperty 2 := ⟨g_mem 402 (by decide +kernel) (by decide +kernel), g_mem 102 (by decide +kernel) (by decide +kernel), by decide +kernel, by decide⟩
theorem ki_X2_memberProperty : LKI mX2_memberProperty 2 2 := ⟨k0_X2_memberProperty, g_mem 401 (by decide +kernel) (by decide +kernel), g_mem 27 (by decide +kernel) (by decide +kernel), rfl⟩
theorem k0_X2_countOwned : LK0 mX2_countOwned 1 := ⟨g_mem 406 (by decide +kernel) (by decide +kernel), g_mem 102 (by decide +kernel) (by decide +kernel), by decide +kernel, by decide⟩
theorem ki_X2_countOwned : LKI mX2_countOwned 1 2 := ⟨k0_X2_countOwned, g_mem 405 (by decide +kernel) (by decide +kernel), g_mem 28 (by decide +kernel) (by decide +kernel), rfl⟩
theorem k0_X2_countUsesNoted : LK0 mX2_countUsesNoted 1 := ⟨g_mem 414 (by decide +kernel) (by decide +kernel), g_mem 102 (by decide +kernel) (by decide +kernel), by decide +kernel, by decide⟩
theorem ki_X2_countUsesNoted : LKI mX2_countUsesNoted 1 2 := ⟨k0_X2_countUsesNoted, g_mem 413 (by decide +kernel) (by decide +kernel), g_mem 30 (by decide +kernel) (by decide +kernel), rfl⟩
theorem k0_X2_sumGot : LK0 mX2_sumGot 1 := ⟨g_mem 422 (by decide +kernel) (by decide +kernel), g_mem 102 (by decide +kernel) (by decide +kernel), by decide +kernel, by decide⟩
theorem ki_X2_sumGot : LKI mX2_sumGot 1 2 := ⟨k0_X2_sumGot, g_mem 421 (by decide +kernel) (by decide +kernel), g_mem 32 (by decide +kernel) (by decide +kernel), rfl⟩
theorem k0_X2_countOf : LK0 mX2_countOf 1 := ⟨g_mem 319 (by decide +kernel) (by decide +kernel), g_mem 102 (by decide +kernel) (by decide +kernel), by decide +kernel, by decide⟩
theorem ki_X2_countOf : LKI mX2_countOf 1 2 := ⟨k0_X2_countOf, g_mem 318 (by decide +kernel) (by decide +kernel), g_mem 9 (by decide +kernel) (by decide +kernel), rfl⟩
theorem k0_X2_countLive : LK0 mX2_countLive 0 := ⟨g_mem 327 (by decide +kernel) (by decide +kernel), g_mem 102 (by decide +kernel) (by decide +kernel), by decide +kernel, by decide⟩
theorem ki_X2_countLive : LKI mX2_countLive 0 2 := ⟨k0_X2_countLive, g_mem 326 (by decide +kernel) (by decide +kernel), g_mem 11 (by decide +kernel) (by decide +kernel), rfl⟩
theorem k0_X2_countPaidBack : LK0 mX2_countPaidBack 0 := ⟨g_mem 342 (by decide +kernel) (by decide +kernel), g_mem 102 (by decide +kernel) (by decide +kernel), by decide +kernel, by decide⟩
theorem ki_X2_countPaidBack : LKI mX2_countPaidBack 0 2 := ⟨k0_X2_countPaidBack, g_mem 341 (by decide +kernel) (by decide +kernel), g_mem 14 (by decide +kernel) (by decide +kernel), rfl⟩
theorem k0_X2_countConflicts : LK0 mX2_countConflicts 0 := ⟨g_mem 357 (by decide +kernel) (by decide +kernel), g_mem 102 (by decide +kernel) (by decide +kernel), by decide +kernel, by decide⟩
theorem ki_X2_countConflicts : LKI mX2_countConflicts 0 2 := ⟨k0_X2_countConflicts, g_mem 356 (by decide +kernel) (by decide +kernel), g_mem 17 (by decide +kernel) (by decide +kernel), rfl⟩
theorem k0_X2_startPhrase : LK0 mX2_startPhrase 4 := ⟨g_mem 456 (by decide +kernel) (by decide +kernel), g_mem 102 (by decide +kernel) (by decide +kernel), by decide +kernel, by decide⟩
theorem ki_X2_startPhrase : LKI mX2_startPhrase 4 2 := ⟨k0_X2_startPhrase, g_mem 455 (by decide +kernel) (by decide +kernel), g_mem 37 (by decide +kernel) (by decide +kernel), rfl⟩
theorem k0_X2_phraseProperty : LK0 mX2_phraseProperty 2 := ⟨g_mem 464 (by decide +kernel) (by decide +kernel), g_mem 102 (by decide +kernel) (by decide +kernel), by decide +kernel, by decide⟩
theorem ki_X2_phraseProperty : LKI mX2_phraseProperty 2 2 := ⟨k0_X2_phraseProperty, g_mem 463 (by decide +kernel) (by decide +kernel), g_mem 38 (by decide +kernel) (by decide +kernel), rfl⟩
theorem k0_X2_ownerOf : LK0 mX2_ownerOf 1 := ⟨g_mem 410 (by decide +kernel) (by decide +kernel), g_mem 102 (by decide +kernel) (by decide +kernel), by decide +kernel, by decide⟩
theorem ki_X2_ownerOf : LKI mX2_ownerOf 1 2 := ⟨k0_X2_ownerOf, g_mem 409 (by decide +kernel) (by decide +kernel), g_mem 29 (by decide +kernel) (by decide +kernel), rfl⟩
theorem k0_X2_lengthOf : LK0 mX2_lengthOf 1 := ⟨g_mem 373 (by decide +kernel) (by decide +kernel), g_mem 102 (by decide +kernel) (by decide +kernel), by decide +kernel, by decide⟩
theorem ki_X2_lengthOf : LKI mX2_lengthOf 1 2 := ⟨k0_X2_lengthOf, g_mem 372 (by decide +kernel) (by decide +kernel), g_mem 21 (by decide +kernel) (by decide +kernel), rfl⟩
theorem k0_X2_targetOf : LK0 mX2_targetOf 1 := ⟨g_mem 393 (by decide +kernel) (by decide +kernel), g_mem 102 (by decide +kernel) (by decide +kernel), by decide +kernel, by decide⟩
theorem ki_X2_targetOf : LKI mX2_targetOf 1 2 := ⟨k0_X2_targetOf, g_mem 392 (by decide +kernel) (by decide +kernel), g_mem 26 (by decide +kernel) (by decide +kernel), rfl⟩
theorem k0_X2_parentOf : LK0 mX2_parentOf 1 := ⟨g_mem 553 (by decide +kernel) (by decide +kernel), g_mem 102 (by decide +kernel) (by decide +kernel), by decide +kernel, by decide⟩
theorem ki_X2_parentOf : LKI mX2_parentOf 1 2 := ⟨k0_X2_parentOf, g_mem 552 (by decide +kernel) (by decide +kernel), g_mem 50 (by decide +kernel) (by decide +kernel), rfl⟩
theorem k0_X2_isLive : LK0 mX2_isLive 1 := ⟨g_mem 331 (by decide +kernel) (by decide +kernel), g_mem 102 (by decide +kernel) (by decide +kernel), by decide +kernel, by decide⟩
theorem ki_X2_isLive : LKI mX2_isLive 1 2 := ⟨k0_X2_isLive, g_mem 330 (by decide +kernel) (by decide +kernel), g_mem 12 (by decide +kernel) (by decide +kernel), rfl⟩
theorem k0_X2_usesOf : LK0 mX2_usesOf 1 := ⟨g_mem 521 (by decide +kernel) (by decide +kernel), g_mem 102 (by decide +kernel) (by decide +kernel), by decide +kernel, by decide⟩
theorem ki_X2_usesOf : LKI mX2_usesOf 1 2 := ⟨k0_X2_usesOf, g_mem 520 (by decide +kernel) (by decide +kernel), g_mem 46 (by decide +kernel) (by decide +kernel), rfl⟩
theorem k0_X2_wordOf : LK0 mX2_wordOf 2 := ⟨g_mem 377 (by decide +kernel) (by decide +kernel), g_mem 102 (by decide +kernel) (by decide +kernel), by decide +kernel, by decide⟩
theorem ki_X2_wordOf : LKI mX2_wordOf 2 2 := ⟨k0_X2_wordOf, g_mem 376 (by decide +kernel) (by decide +kernel), g_mem 22 (by decide +kernel) (by decide +kernel), rfl⟩
theorem k0_X2_readInto : LK0 mX2_readInto 2 := ⟨g_mem 365 (by decide +kernel) (by decide +kernel), g_mem 102 (by decide +kernel) (by decide +kernel), by decide +kernel, by decide⟩
theorem ki_X2_readInto : LKI mX2_readInto 2 2 := ⟨k0_X2_readInto, g_mem 364 (by decide +kernel) (by decide +kernel), g_mem 19 (by decide +kernel) (by decide +kernel), rfl⟩
theorem k0_X2_likenessOf : LK0 mX2_likenessOf 2 := ⟨g_mem 478 (by decide +kernel) (by decide +kernel), g_mem 102 (by decide +kernel) (by decide +kernel), by decide +kernel, by decide⟩
theorem ki_X2_likenessOf : LKI mX2_likenessOf 2 2 := ⟨k0_X2_likenessOf, g_mem 477 (by decide +kernel) (by decide +kernel), g_mem 39 (by decide +kernel) (by decide +kernel), rfl⟩
theorem k0_X2_likenessTo : LK0 mX2_likenessTo 2 := ⟨g_mem 482 (by decide +kernel) (by decide +kernel), g_mem 102 (by decide +kernel) (by decide +kernel), by decide +kernel, by decide⟩
theorem ki_X2_likenessTo : LKI mX2_likenessTo 2 2 := ⟨k0_X2_likenessTo, g_mem 481 (by decide +kernel) (by decide +kernel), g_mem 40 (by decide +kernel) (by decide +kernel), rfl⟩
theorem k0_X2_conflictsOf : LK0 mX2_conflictsOf 1 := ⟨g_mem 361 (by decide +kernel) (by decide +kernel), g_mem 102 (by decide +kernel) (by decide +kernel), by decide +kernel, by decide⟩
theorem ki_X2_conflictsOf : LKI mX2_conflictsOf 1 2 := ⟨k0_X2_conflictsOf, g_mem 360 (by decide +kernel) (by decide +kernel), g_mem 18 (by decide +kernel) (by decide +kernel), rfl⟩
theorem k0_X2_standsAt : LK0 mX2_standsAt 3 := ⟨g_mem 389 (by decide +kernel) (by decide +kernel), g_mem 102 (by decide +kernel) (by decide +kernel), by decide +kernel, by decide⟩
theorem ki_X2_standsAt : LKI mX2_standsAt 3 2 := ⟨k0_X2_standsAt, g_mem 388 (by decide +kernel) (by decide +kernel), g_mem 25 (by decide +kernel) (by decide +kernel), rfl⟩
theorem k0_X2_isLiveAs : LK0 mX2_isLiveAs 2 := ⟨g_mem 385 (by decide +kernel) (by decide +kernel), g_mem 102 (by decide +kernel) (by decide +kernel), by decide +kernel, by decide⟩
theorem ki_X2_isLiveAs : LKI mX2_isLiveAs 2 2 := ⟨k0_X2_isLiveAs, g_mem 384 (by decide +kernel) (by decide +kernel), g_mem 24 (by decide +kernel) (by decide +kernel), rfl⟩
theorem k0_X2_giversOf : LK0 mX2_giversOf 2 := ⟨g_mem 504 (by decide +kernel) (by decide +kernel), g_mem 102 (by decide +kernel) (by decide +kernel), by decide +kernel, by decide⟩
theorem ki_X2_giversOf : LKI mX2_giversOf 2 2 := ⟨k0_X2_giversOf, g_mem 503 (by decide +kernel) (by decide +kernel), g_mem 43 (by decide +kernel) (by decide +kernel), rfl⟩
theorem k0_X2_gives : LK0 mX2_gives 3 := ⟨g_mem 508 (by decide +kernel) (by decide +kernel), g_mem 102 (by decide +kernel) (by decide +kernel), by decide +kernel, by decide⟩
theorem ki_X2_gives : LKI mX2_gives 3 2 := ⟨k0_X2_gives, g_mem 507 (by decide +kernel) (by decide +kernel), g_mem 44 (by decide +kernel) (by decide +kernel), rfl⟩
theorem k0_X2_feeFor : LK0 mX2_feeFor 3 := ⟨g_mem 533 (by decide +kernel) (by decide +kernel), g_mem 102 (by decide +kernel) (by decide +kernel), by decide +kernel, by decide⟩
theorem ki_X2_feeFor : LKI mX2_feeFor 3 2 := ⟨k0_X2_feeFor, g_mem 532 (by decide +kernel) (by decide +kernel), g_mem 47 (by decide +kernel) (by decide +kernel), rfl⟩
theorem k0_X2_noteProperty : LK0 mX2_noteProperty 2 := ⟨g_mem 418 (by decide +kernel) (by decide +kernel), g_mem 102 (by decide +kernel) (by decide +kernel), by decide +kernel, by decide⟩
theorem ki_X2_noteProperty : LKI mX2_noteProperty 2 2 := ⟨k0_X2_noteProperty, g_mem 417 (by decide +kernel) (by decide +kernel), g_mem 31 (by decide +kernel) (by decide +kernel), rfl⟩
theorem k0_X2_isPaidBack : LK0 mX2_isPaidBack 1 := ⟨g_mem 346 (by decide +kernel) (by decide +kernel), g_mem 102 (by decide +kernel) (by decide +kernel), by decide +kernel, by decide⟩
theorem ki_X2_isPaidBack : LKI mX2_isPaidBack 1 2 := ⟨k0_X2_isPaidBack, g_mem 345 (by decide +kernel) (by decide +kernel), g_mem 15 (by decide +kernel) (by decide +kernel), rfl⟩
theorem k0_X2_startNote : LK0 mX2_startNote 3 := ⟨g_mem 543 (by decide +kernel) (by decide +kernel), g_mem 102 (by decide +kernel) (by decide +kernel), by decide +kernel, by decide⟩
theorem ki_X2_startNote : LKI mX2_startNote 3 2 := ⟨k0_X2_startNote, g_mem 542 (by decide +kernel) (by decide +kernel), g_mem 48 (by decide +kernel) (by decide +kernel), rfl⟩
theorem k0_X2_splitFee : LK0 mX2_splitFee 1 := ⟨g_mem 548 (by decide +kernel) (by decide +kernel), g_mem 102 (by decide +kernel) (by decide +kernel), by decide +kernel, by decide⟩
theorem ki_X2_splitFee : LKI mX2_splitFee 1 2 := ⟨k0_X2_splitFee, g_mem 547 (by decide +kernel) (by decide +kernel), g_mem 49 (by decide +kernel) (by decide +kernel), rfl⟩
theorem k0_X2_moveMoney : LK0 mX2_moveMoney 2 := ⟨g_mem 557 (by decide +kernel) (by decide +kernel), g_mem 102 (by decide +kernel) (by decide +kernel), by decide +kernel, by decide⟩
theorem ki_X2_moveMoney : LKI mX2_moveMoney 2 2 := ⟨k0_X2_moveMoney, g_mem 556 (by decide +kernel) (by decide +kernel), g_mem 51 (by decide +kernel) (by decide +kernel), rfl⟩
theorem k0_X2_markEndings : LK0 mX2_markEndings 1 := ⟨g_mem 574 (by decide +kernel) (by decide +kernel), g_mem 102 (by decide +kernel) (by decide +kernel), by decide +kernel, by decide⟩
theorem ki_X2_markEndings : LKI mX2_markEndings 1 2 := ⟨k0_X2_markEndings, g_mem 573 (by decide +kernel) (by decide +kernel), g_mem 53 (by decide +kernel) (by decide +kernel), rfl⟩
theorem k0_X2_hasMarkedParent : LK0 mX2_hasMarkedParent 1 := ⟨g_mem 578 (by decide +kernel) (by decide +kernel), g_mem 102 (by decide +kernel) (by decide +kernel), by decide +kernel, by decide⟩
theorem ki_X2_hasMarkedParent : LKI mX2_hasMarkedParent 1 2 := ⟨k0_X2_hasMarkedParent, g_mem 577 (by decide +kernel) (by decide +kernel), g_mem 54 (by decide +kernel) (by decide +kernel), rfl⟩
theorem k0_X2_endMarked : LK0 mX2_endMarked 0 := ⟨g_mem 591 (by decide +kernel) (by decide +kernel), g_mem 102 (by decide +kernel) (by decide +kernel), by decide +kernel, by decide⟩
theorem ki_X2_endMarked : LKI mX2_endMarked 0 2 := ⟨k0_X2_endMarked, g_mem 590 (by decide +kernel) (by decide +kernel), g_mem 57 (by decide +kernel) (by decide +kernel), rfl⟩
theorem k0_X2_isOwed : LK0 mX2_isOwed 1 := ⟨g_mem 587 (by decide +kernel) (by decide +kernel), g_mem 102 (by decide +kernel) (by decide +kernel), by decide +kernel, by decide⟩
theorem ki_X2_isOwed : LKI mX2_isOwed 1 2 := ⟨k0_X2_isOwed, g_mem 586 (by decide +kernel) (by decide +kernel), g_mem 56 (by decide +kernel) (by decide +kernel), rfl⟩
theorem k0_X2_owedForMarked : LK0 mX2_owedForMarked 0 := ⟨g_mem 599 (by decide +kernel) (by decide +kernel), g_mem 102 (by decide +kernel) (by decide +kernel), by decide +kernel, by decide⟩
theorem ki_X2_owedForMarked : LKI mX2_owedForMarked 0 2 := ⟨k0_X2_owedForMarked, g_mem 598 (by decide +kernel) (by decide +kernel), g_mem 58 (by decide +kernel) (by decide +kernel), rfl⟩
theorem k0_X2_payBackMarked : LK0 mX2_payBackMarked 0 := ⟨g_mem 583 (by decide +kernel) (by decide +kernel), g_mem 102 (by decide +kernel) (by decide +kernel), by decide +kernel, by decide⟩
theorem ki_X2_payBackMarked : LKI mX2_payBackMarked 0 2 := ⟨k0_X2_payBackMarked, g_mem 582 (by decide +kernel) (by decide +kernel), g_mem 55 (by decide +kernel) (by decide +kernel), rfl⟩
theorem k0_X3_isLetter : LK0 mX3_isLetter 1 := ⟨g_mem 442 (by decide +kernel) (by decide +kernel), g_mem 107 (by decide +kernel) (by decide +kernel), by decide +kernel, by decide⟩
theorem k0_X3_append : LK0 mX3_append 1 := ⟨g_mem 651 (by decide +kernel) (by decide +kernel), g_mem 107 (by decide +kernel) (by decide +kernel), by decide +kernel, by decide⟩
theorem ki_X3_append : LKI mX3_append 1 3 := ⟨k0_X3_append, g_mem 650 (by decide +kernel) (by decide +kernel), g_mem 66 (by decide +kernel) (by decide +kernel), rfl⟩
theorem k0_X3_empty : LK0 mX3_empty 0 := ⟨g_mem 659 (by decide +kernel) (by decide +kernel), g_mem 107 (by decide +kernel) (by decide +kernel), by decide +kernel, by decide⟩
theorem ki_X3_empty : LKI mX3_empty 0 3 := ⟨k0_X3_empty, g_mem 658 (by decide +kernel) (by decide +kernel), g_mem 67 (by decide +kernel) (by decide +kernel), rfl⟩
theorem k0_X3_fault : LK0 mX3_fault 0 := ⟨g_mem 439 (by decide +kernel) (by decide +kernel), g_mem 107 (by decide +kernel) (by decide +kernel), by decide +kernel, by decide⟩
theorem ki_X3_fault : LKI mX3_fault 0 3 := ⟨k0_X3_fault, g_mem 438 (by decide +kernel) (by decide +kernel), g_mem 35 (by decide +kernel) (by decide +kernel), rfl⟩
theorem k0_X3_isFaulty : LK0 mX3_isFaulty 0 := ⟨g_mem 435 (by decide +kernel) (by decide +kernel), g_mem 107 (by decide +kernel) (by decide +kernel), by decide +kernel, by decide⟩
theorem ki_X3_isFaulty : LKI mX3_isFaulty 0 3 := ⟨k0_X3_isFaulty, g_mem 434 (by decide +kernel) (by decide +kernel), g_mem 34 (by decide +kernel) (by decide +kernel), rfl⟩
theorem k0_X3_readInto : LK0 mX3_readInto 1 := ⟨g_mem 450 (by decide +kernel) (by decide +kernel), g_mem 107 (by decide +kernel) (by decide +kernel), by decide +kernel, by decide⟩
theorem ki_X3_readInto : LKI mX3_readInto 1 3 := ⟨k0_X3_readInto, g_mem 449 (by decide +kernel) (by decide +kernel), g_mem 36 (by decide +kernel) (by decide +kernel), rfl⟩
theorem k0_X4_start : LK0 mX4_start 1 := ⟨g_mem 620 (by decide +kernel) (by decide +kernel), g_mem 108 (by decide +kernel) (by decide +kernel), by decide +kernel, by decide⟩
theorem ki_X4_start : LKI mX4_start 1 4 := ⟨k0_X4_start, g_mem 619 (by decide +kernel) (by decide +kernel), g_mem 61 (by decide +kernel) (by decide +kernel), rfl⟩
theorem k0_X4_open : LK0 mX4_open 1 := ⟨g_mem 624 (by decide +kernel) (by decide +kernel), g_mem 108 (by decide +kernel) (by decide +kernel), by decide +kernel, by decide⟩
theorem ki_X4_open : LKI mX4_open 1 4 := ⟨k0_X4_open, g_mem 623 (by decide +kernel) (by decide +kernel), g_mem 62 (by decide +kernel) (by decide +kernel), rfl⟩
theorem k0_X4_offer : LK0 mX4_offer 4 := ⟨g_mem 631 (by decide +kernel) (by decide +kernel), g_mem 108 (by decide +kernel) (by decide +kernel), by decide +kernel, by decide⟩
theorem ki_X4_offer : LKI mX4_offer 4 4 := ⟨k0_X4_offer, g_mem 630 (by decide +kernel) (by decide +kernel), g_mem 63 (by decide +kernel) (by decide +kernel), rfl⟩
theorem k0_X4_bestCost : LK0 mX4_bestCost 0 := ⟨g_mem 635 (by decide +kernel) (by decide +kernel), g_mem 108 (by decide +kernel) (by decide +kernel), by decide +kernel, by decide⟩
theorem ki_X4_bestCost : LKI mX4_bestCost 0 4 := ⟨k0_X4_bestCost, g_mem 634 (by decide +kernel) (by decide +kernel), g_mem 64 (by decide +kernel) (by decide +kernel), rfl⟩
theorem k0_X4_pieceAt : LK0 mX4_pieceAt 1 := ⟨g_mem 643 (by decide +kernel) (by decide +kernel), g_mem 108 (by decide +kernel) (by decide +kernel), by decide +kernel, by decide⟩
theorem ki_X4_pieceAt : LKI mX4_pieceAt 1 4 := ⟨k0_X4_pieceAt, g_mem 642 (by decide +kernel) (by decide +kernel), g_mem 65 (by decide +kernel) (by decide +kernel), rfl⟩
theorem k0_X5_measure : LK0 mX5_measure 2 := ⟨g_mem 486 (by decide +kernel) (by decide +kernel), g_mem 104 (by decide +kernel) (by decide +kernel), by decide +kernel, by decide⟩
theorem ki_X5_measure : LKI mX5_measure 2 5 := ⟨k0_X5_measure, g_mem 485 (by decide +kernel) (by decide +kernel), g_mem 41 (by decide +kernel) (by decide +kernel), rfl⟩
theorem k0_X5_distance : LK0 mX5_distance 2 := ⟨g_mem 493 (by decide +kernel) (by decide +kernel), g_mem 104 (by decide +kernel) (by decide +kernel), by decide +kernel, by decide⟩
theorem ki_X5_distance : LKI mX5_distance 2 5 := ⟨k0_X5_distance, g_mem 492 (by decide +kernel) (by decide +kernel), g_mem 42 (by decide +kernel) (by decide +kernel), rfl⟩
theorem k0_X6_addMember : LK0 mX6_addMember 0 := ⟨g_mem 253 (by decide +kernel) (by decide +kernel), g_mem 101 (by decide +kernel) (by decide +kernel), by decide +kernel, by decide⟩
theorem ki_X6_addMember : LKI mX6_addMember 0 6 := ⟨k0_X6_addMember, g_mem 251 (by decide +kernel) (by decide +kernel), g_mem 252 (by decide +kernel) (by decide +kernel), rfl⟩
theorem k0_X6_setPrice : LK0 mX6_setPrice 2 := ⟨g_mem 280 (by decide +kernel) (by decide +kernel), g_mem 101 (by decide +kernel) (by decide +kernel), by decide +kernel, by decide⟩
theorem ki_X6_setPrice : LKI mX6_setPrice 2 6 := ⟨k0_X6_setPrice, g_mem 278 (by decide +kernel) (by decide +kernel), g_mem 279 (by decide +kernel) (by decide +kernel), rfl⟩
theorem k0_X6_set : LK0 mX6_set 2 := ⟨g_mem 299 (by decide +kernel) (by decide +kernel), g_mem 101 (by decide +kernel) (by decide +kernel), by decide +kernel, by decide⟩
theorem ki_X6_set : LKI mX6_set 2 6 := ⟨k0_X6_set, g_mem 297 (by decide +kernel) (by decide +kernel), g_mem 298 (by decide +kernel) (by decide +kernel), rfl⟩
theorem k0_X6_count : LK0 mX6_count 1 := ⟨g_mem 315 (by decide +kernel) (by decide +kernel), g_mem 101 (by decide +kernel) (by decide +kernel), by decide +kernel, by decide⟩
theorem ki_X6_count : LKI mX6_count 1 6 := ⟨k0_X6_count, g_mem 313 (by decide +kernel) (by decide +kernel), g_mem 314 (by decide +kernel) (by decide +kernel), rfl⟩
theorem k0_X6_member : LK0 mX6_member 2 := ⟨g_mem 398 (by decide +kernel) (by decide +kernel), g_mem 101 (by decide +kernel) (by decide +kernel), by decide +kernel, by decide⟩
theorem ki_X6_member : LKI mX6_member 2 6 := ⟨k0_X6_member, g_mem 396 (by decide +kernel) (by decide +kernel), g_mem 397 (by decide +kernel) (by decide +kernel), rfl⟩
theorem k0_X6_addPhrase : LK0 mX6_addPhrase 3 := ⟨g_mem 426 (by decide +kernel) (by decide +kernel), g_mem 101 (by decide +kernel) (by decide +kernel), by decide +kernel, by decide⟩
theorem ki_X6_addPhrase : LKI mX6_addPhrase 3 6 := ⟨k0_X6_addPhrase, g_mem 424 (by decide +kernel) (by decide +kernel), g_mem 425 (by decide +kernel) (by decide +kernel), rfl⟩
theorem k0_X6_phrase : LK0 mX6_phrase 2 := ⟨g_mem 460 (by decide +kernel) (by decide +kernel), g_mem 101 (by decide +kernel) (by decide +kernel), by decide +kernel, by decide⟩
theorem ki_X6_phrase : LKI mX6_phrase 2 6 := ⟨k0_X6_phrase, g_mem 458 (by decide +kernel) (by decide +kernel), g_mem 459 (by decide +kernel) (by decide +kernel), rfl⟩
theorem k0_X6_word : LK0 mX6_word 2 := ⟨g_mem 468 (by decide +kernel) (by decide +kernel), g_mem 101 (by decide +kernel) (by decide +kernel), by decide +kernel, by decide⟩
theorem ki_X6_word : LKI mX6_word 2 6 := ⟨k0_X6_word, g_mem 466 (by decide +kernel) (by decide +kernel), g_mem 467 (by decide +kernel) (by decide +kernel), rfl⟩
theorem k0_X6_score : LK0 mX6_score 2 := ⟨g_mem 474 (by decide +kernel) (by decide +kernel), g_mem 101 (by decide +kernel) (by decide +kernel), by decide +kernel, by decide⟩
theorem ki_X6_score : LKI mX6_score 2 6 := ⟨k0_X6_score, g_mem 472 (by decide +kernel) (by decide +kernel), g_mem 473 (by decide +kernel) (by decide +kernel), rfl⟩
theorem k0_X6_agreed : LK0 mX6_agreed 0 := ⟨g_mem 498 (by decide +kernel) (by decide +kernel), g_mem 101 (by decide +kernel) (by decide +kernel), by decide +kernel, by decide⟩
theorem ki_X6_agreed : LKI mX6_agreed 0 6 := ⟨k0_X6_agreed, g_mem 496 (by decide +kernel) (by decide +kernel), g_mem 497 (by decide +kernel) (by decide +kernel), rfl⟩
theorem k0_X6_match : LK0 mX6_match 0 := ⟨g_mem 512 (by decide +kernel) (by decide +kernel), g_mem 101 (by decide +kernel) (by decide +kernel), by decide +kernel, by decide⟩
theorem ki_X6_match : LKI mX6_match 0 6 := ⟨k0_X6_match, g_mem 510 (by decide +kernel) (by decide +kernel), g_mem 511 (by decide +kernel) (by decide +kernel), rfl⟩
theorem k0_X6_alike : LK0 mX6_alike 1 := ⟨g_mem 525 (by decide +kernel) (by decide +kernel), g_mem 101 (by decide +kernel) (by decide +kernel), by decide +kernel, by decide⟩
theorem ki_X6_alike : LKI mX6_alike 1 6 := ⟨k0_X6_alike, g_mem 523 (by decide +kernel) (by decide +kernel), g_mem 524 (by decide +kernel) (by decide +kernel), rfl⟩
theorem k0_X6_fee : LK0 mX6_fee 1 := ⟨g_mem 529 (by decide +kernel) (by decide +kernel), g_mem 101 (by decide +kernel) (by decide +kernel), by decide +kernel, by decide⟩
theorem ki_X6_fee : LKI mX6_fee 1 6 := ⟨k0_X6_fee, g_mem 527 (by decide +kernel) (by decide +kernel), g_mem 528 (by decide +kernel) (by decide +kernel), rfl⟩
theorem k0_X6_use : LK0 mX6_use 1 := ⟨g_mem 538 (by decide +kernel) (by decide +kernel), g_mem 101 (by decide +kernel) (by decide +kernel), by decide +kernel, by decide⟩
theorem ki_X6_use : LKI mX6_use 1 6 := ⟨k0_X6_use, g_mem 536 (by decide +kernel) (by decide +kernel), g_mem 537 (by decide +kernel) (by decide +kernel), rfl⟩
theorem k0_X6_note : LK0 mX6_note 2 := ⟨g_mem 561 (by decide +kernel) (by decide +kernel), g_mem 101 (by decide +kernel) (by decide +kernel), by decide +kernel, by decide⟩
theorem ki_X6_note : LKI mX6_note 2 6 := ⟨k0_X6_note, g_mem 559 (by decide +kernel) (by decide +kernel), g_mem 560 (by decide +kernel) (by decide +kernel), rfl⟩
theorem k0_X6_retract : LK0 mX6_retract 1 := ⟨g_mem 570 (by decide +kernel) (by decide +kernel), g_mem 101 (by decide +kernel) (by decide +kernel), by decide +kernel, by decide⟩
theorem ki_X6_retract : LKI mX6_retract 1 6 := ⟨k0_X6_retract, g_mem 568 (by decide +kernel) (by decide +kernel), g_mem 569 (by decide +kernel) (by decide +kernel), rfl⟩
theorem k0_X6_wouldPayBack : LK0 mX6_wouldPayBack 1 := ⟨g_mem 595 (by decide +kernel) (by decide +kernel), g_mem 101 (by decide +kernel) (by decide +kernel), by decide +kernel, by decide⟩
theorem ki_X6_wouldPayBack : LKI mX6_wouldPayBack 1 6 := ⟨k0_X6_wouldPayBack, g_mem 593 (by decide +kernel) (by decide +kernel), g_mem 594 (by decide +kernel) (by decide +kernel), rfl⟩
theorem k0_X6_pass : LK0 mX6_pass 1 := ⟨g_mem 603 (by decide +kernel) (by decide +kernel), g_mem 101 (by decide +kernel) (by decide +kernel), by decide +kernel, by decide⟩
theorem ki_X6_pass : LKI mX6_pass 1 6 := ⟨k0_X6_pass, g_mem 601 (by decide +kernel) (by decide +kernel), g_mem 602 (by decide +kernel) (by decide +kernel), rfl⟩
theorem k0_X6_cheapest : LK0 mX6_cheapest 1 := ⟨g_mem 612 (by decide +kernel) (by decide +kernel), g_mem 101 (by decide +kernel) (by decide +kernel), by decide +kernel, by decide⟩
theorem ki_X6_cheapest : LKI mX6_cheapest 1 6 := ⟨k0_X6_cheapest, g_mem 610 (by decide +kernel) (by decide +kernel), g_mem 611 (by decide +kernel) (by decide +kernel), rfl⟩
theorem k0_X6_piece : LK0 mX6_piece 2 := ⟨g_mem 639 (by decide +kernel) (by decide +kernel), g_mem 101 (by decide +kernel) (by decide +kernel), by decide +kernel, by decide⟩
theorem ki_X6_piece : LKI mX6_piece 2 6 := ⟨k0_X6_piece, g_mem 637 (by decide +kernel) (by decide +kernel), g_mem 638 (by decide +kernel) (by decide +kernel), rfl⟩
theorem k0_X6_type : LK0 mX6_type 1 := ⟨g_mem 647 (by decide +kernel) (by decide +kernel), g_mem 101 (by decide +kernel) (by decide +kernel), by decide +kernel, by decide⟩
theorem ki_X6_type : LKI mX6_type 1 6 := ⟨k0_X6_type, g_mem 645 (by decide +kernel) (by decide +kernel), g_mem 646 (by decide +kernel) (by decide +kernel), rfl⟩
theorem k0_X6_clearText : LK0 mX6_clearText 0 := ⟨g_mem 655 (by decide +kernel) (by decide +kernel), g_mem 101 (by decide +kernel) (by decide +kernel), by decide +kernel, by decide⟩
theorem ki_X6_clearText : LKI mX6_clearText 0 6 := ⟨k0_X6_clearText, g_mem 653 (by decide +kernel) (by decide +kernel), g_mem 654 (by decide +kernel) (by decide +kernel), rfl⟩
theorem k0_X6_textFault : LK0 mX6_textFault 0 := ⟨g_mem 663 (by decide +kernel) (by decide +kernel), g_mem 101 (by decide +kernel) (by decide +kernel), by decide +kernel, by decide⟩
theorem ki_X6_textFault : LKI mX6_textFault 0 6 := ⟨k0_X6_textFault, g_mem 661 (by decide +kernel) (by decide +kernel), g_mem 662 (by decide +kernel) (by decide +kernel), rfl⟩
theorem k0_X6_undo : LK0 mX6_undo 0 := ⟨g_mem 668 (by decide +kernel) (by decide +kernel), g_mem 101 (by decide +kernel) (by decide +kernel), by decide +kernel, by decide⟩
theorem ki_X6_undo : LKI mX6_undo 0 6 := ⟨k0_X6_undo, g_mem 666 (by decide +kernel) (by decide +kernel), g_mem 667 (by decide +kernel) (by decide +kernel), rfl⟩
theorem k0_X6_digest : LK0 mX6_digest 0 := ⟨g_mem 680 (by decide +kernel) (by decide +kernel), g_mem 101 (by decide +kernel) (by decide +kernel), by decide +kernel, by decide⟩
theorem ki_X6_digest : LKI mX6_digest 0 6 := ⟨k0_X6_digest, g_mem 678 (by decide +kernel) (by decide +kernel), g_mem 679 (by decide +kernel) (by decide +kernel), rfl⟩
theorem k0_X6_hashPhrase : LK0 mX6_hashPhrase 2 := ⟨g_mem 686 (by decide +kernel) (by decide +kernel), g_mem 101 (by decide +kernel) (by decide +kernel), by decide +kernel, by decide⟩
theorem ki_X6_hashPhrase : LKI mX6_hashPhrase 2 6 := ⟨k0_X6_hashPhrase, g_mem 685 (by decide +kernel) (by decide +kernel), g_mem 70 (by decide +kernel) (by decide +kernel), rfl⟩
theorem k0_X6_findMatch : LK0 mX6_findMatch 0 := ⟨g_mem 516 (by decide +kernel) (by decide +kernel), g_mem 101 (by decide +kernel) (by decide +kernel), by decide +kernel, by decide⟩
theorem ki_X6_findMatch : LKI mX6_findMatch 0 6 := ⟨k0_X6_findMatch, g_mem 515 (by decide +kernel) (by decide +kernel), g_mem 45 (by decide +kernel) (by decide +kernel), rfl⟩
theorem k0_X6_findWays : LK0 mX6_findWays 1 := ⟨g_mem 616 (by decide +kernel) (by decide +kernel), g_mem 101 (by decide +kernel) (by decide +kernel), by decide +kernel, by decide⟩
theorem ki_X6_findWays : LKI mX6_findWays 1 6 := ⟨k0_X6_findWays, g_mem 615 (by decide +kernel) (by decide +kernel), g_mem 60 (by decide +kernel) (by decide +kernel), rfl⟩
theorem k0_X7_in : LK0 mX7_in 3 := ⟨g_mem 759 (by decide +kernel) (by decide +kernel), g_mem 109 (by decide +kernel) (by decide +kernel), by decide +kernel, by decide⟩
theorem k0_X7_copies : LK0 mX7_copies 2 := ⟨g_mem 748 (by decide +kernel) (by decide +kernel), g_mem 109 (by decide +kernel) (by decide +kernel), by decide +kernel, by decide⟩
theorem ki_X7_copies : LKI mX7_copies 2 7 := ⟨k0_X7_copies, g_mem 747 (by decide +kernel) (by decide +kernel), g_mem 72 (by decide +kernel) (by decide +kernel), rfl⟩
theorem k0_X7_records : LK0 mX7_records 0 := ⟨g_mem 744 (by decide +kernel) (by decide +kernel), g_mem 109 (by decide +kernel) (by decide +kernel), by decide +kernel, by decide⟩
theorem ki_X7_records : LKI mX7_records 0 7 := ⟨k0_X7_records, g_mem 743 (by decide +kernel) (by decide +kernel), g_mem 71 (by decide +kernel) (by decide +kernel), rfl⟩
theorem k0_X7_isMember : LK0 mX7_isMember 1 := ⟨g_mem 756 (by decide +kernel) (by decide +kernel), g_mem 109 (by decide +kernel) (by decide +kernel), by decide +kernel, by decide⟩
theorem ki_X7_isMember : LKI mX7_isMember 1 7 := ⟨k0_X7_isMember, g_mem 755 (by decide +kernel) (by decide +kernel), g_mem 73 (by decide +kernel) (by decide +kernel), rfl⟩
theorem k0_X7_isPhrase : LK0 mX7_isPhrase 1 := ⟨g_mem 841 (by decide +kernel) (by decide +kernel), g_mem 109 (by decide +kernel) (by decide +kernel), by decide +kernel, by decide⟩
theorem ki_X7_isPhrase : LKI mX7_isPhrase 1 7 := ⟨k0_X7_isPhrase, g_mem 840 (by decide +kernel) (by decide +kernel), g_mem 88 (by decide +kernel) (by decide +kernel), rfl⟩
theorem k0_X7_of : LK0 mX7_of 2 := ⟨g_mem 785 (by decide +kernel) (by decide +kernel), g_mem 109 (by decide +kernel) (by decide +kernel), by decide +kernel, by decide⟩
theorem ki_X7_of : LKI mX7_of 2 7 := ⟨k0_X7_of, g_mem 784 (by decide +kernel) (by decide +kernel), g_mem 77 (by decide +kernel) (by decide +kernel), rfl⟩
theorem k0_X7_ofNote : LK0 mX7_ofNote 2 := ⟨g_mem 793 (by decide +kernel) (by decide +kernel), g_mem 109 (by decide +kernel) (by decide +kernel), by decide +kernel, by decide⟩
theorem ki_X7_ofNote : LKI mX7_ofNote 2 7 := ⟨k0_X7_ofNote, g_mem 792 (by decide +kernel) (by decide +kernel), g_mem 79 (by decide +kernel) (by decide +kernel), rfl⟩
theorem k0_X7_price : LK0 mX7_price 1 := ⟨g_mem 765 (by decide +kernel) (by decide +kernel), g_mem 109 (by decide +kernel) (by decide +kernel), by decide +kernel, by decide⟩
theorem ki_X7_price : LKI mX7_price 1 7 := ⟨k0_X7_price, g_mem 764 (by decide +kernel) (by decide +kernel), g_mem 74 (by decide +kernel) (by decide +kernel), rfl⟩
theorem k0_X7_pays : LK0 mX7_pays 2 := ⟨g_mem 902 (by decide +kernel) (by decide +kernel), g_mem 109 (by decide +kernel) (by decide +kernel), by decide +kernel, by decide⟩
theorem ki_X7_pays : LKI mX7_pays 2 7 := ⟨k0_X7_pays, g_mem 901 (by decide +kernel) (by decide +kernel), g_mem 94 (by decide +kernel) (by decide +kernel), rfl⟩
theorem k0_X7_setsOne : LK0 mX7_setsOne 1 := ⟨g_mem 813 (by decide +kernel) (by decide +kernel), g_mem 109 (by decide +kernel) (by decide +kernel), by decide +kernel, by decide⟩
theorem ki_X7_setsOne : LKI mX7_setsOne 1 7 := ⟨k0_X7_setsOne, g_mem 812 (by decide +kernel) (by decide +kernel), g_mem 84 (by decide +kernel) (by decide +kernel), rfl⟩
theorem k0_X7_setsOther : LK0 mX7_setsOther 1 := ⟨g_mem 817 (by decide +kernel) (by decide +kernel), g_mem 109 (by decide +kernel) (by decide +kernel), by decide +kernel, by decide⟩
theorem ki_X7_setsOther : LKI mX7_setsOther 1 7 := ⟨k0_X7_setsOther, g_mem 816 (by decide +kernel) (by decide +kernel), g_mem 85 (by decide +kernel) (by decide +kernel), rfl⟩
theorem k0_X7_setsText : LK0 mX7_setsText 0 := ⟨g_mem 850 (by decide +kernel) (by decide +kernel), g_mem 109 (by decide +kernel) (by decide +kernel), by decide +kernel, by decide⟩
theorem ki_X7_setsText : LKI mX7_setsText 0 7 := ⟨k0_X7_setsText, g_mem 849 (by decide +kernel) (by decide +kernel), g_mem 89 (by decide +kernel) (by decide +kernel), rfl⟩
theorem k0_X7_least : LK0 mX7_least 2 := ⟨g_mem 824 (by decide +kernel) (by decide +kernel), g_mem 109 (by decide +kernel) (by decide +kernel), by decide +kernel, by decide⟩
theorem k0_X7_scoreNow : LK0 mX7_scoreNow 0 := ⟨g_mem 821 (by decide +kernel) (by decide +kernel), g_mem 109 (by decide +kernel) (by decide +kernel), by decide +kernel, by decide⟩
theorem ki_X7_scoreNow : LKI mX7_scoreNow 0 7 := ⟨k0_X7_scoreNow, g_mem 820 (by decide +kernel) (by decide +kernel), g_mem 86 (by decide +kernel) (by decide +kernel), rfl⟩
theorem k0_X7_scoreOf : LK0 mX7_scoreOf 2 := ⟨g_mem 809 (by decide +kernel) (by decide +kernel), g_mem 109 (by decide +kernel) (by decide +kernel), by decide +kernel, by decide⟩
theorem ki_X7_scoreOf : LKI mX7_scoreOf 2 7 := ⟨k0_X7_scoreOf, g_mem 808 (by decide +kernel) (by decide +kernel), g_mem 83 (by decide +kernel) (by decide +kernel), rfl⟩
theorem k0_X7_textScore : LK0 mX7_textScore 1 := ⟨g_mem 874 (by decide +kernel) (by decide +kernel), g_mem 109 (by decide +kernel) (by decide +kernel), by decide +kernel, by decide⟩
theorem ki_X7_textScore : LKI mX7_textScore 1 7 := ⟨k0_X7_textScore, g_mem 873 (by decide +kernel) (by decide +kernel), g_mem 91 (by decide +kernel) (by decide +kernel), rfl⟩
theorem k0_X7_addMember : LK0 mX7_addMember 0 := ⟨g_mem 739 (by decide +kernel) (by decide +kernel), g_mem 109 (by decide +kernel) (by decide +kernel), by decide +kernel, by decide⟩
theorem ki_X7_addMember : LKI mX7_addMember 0 7 := ⟨k0_X7_addMember, g_mem 737 (by decide +kernel) (by decide +kernel), g_mem 738 (by decide +kernel) (by decide +kernel), rfl⟩
theorem k0_X7_setPrice : LK0 mX7_setPrice 2 := ⟨g_mem 752 (by decide +kernel) (by decide +kernel), g_mem 109 (by decide +kernel) (by decide +kernel), by decide +kernel, by decide⟩
theorem ki_X7_setPrice : LKI mX7_setPrice 2 7 := ⟨k0_X7_setPrice, g_mem 750 (by decide +kernel) (by decide +kernel), g_mem 751 (by decide +kernel) (by decide +kernel), rfl⟩
theorem k0_X7_set : LK0 mX7_set 2 := ⟨g_mem 769 (by decide +kernel) (by decide +kernel), g_mem 109 (by decide +kernel) (by decide +kernel), by decide +kernel, by decide⟩
theorem ki_X7_set : LKI mX7_set 2 7 := ⟨k0_X7_set, g_mem 767 (by decide +kernel) (by decide +kernel), g_mem 768 (by decide +kernel) (by decide +kernel), rfl⟩
theorem k0_X7_areInConflict : LK0 mX7_areInConflict 2 := ⟨g_mem 805 (by decide +kernel) (by decide +kernel), g_mem 109 (by decide +kernel) (by decide +kernel), by decide +kernel, by decide⟩
theorem ki_X7_areInConflict : LKI mX7_areInConflict 2 7 := ⟨k0_X7_areInConflict, g_mem 804 (by decide +kernel) (by decide +kernel), g_mem 82 (by decide +kernel) (by decide +kernel), rfl⟩
theorem k0_X7_conflicts : LK0 mX7_conflicts 1 := ⟨g_mem 801 (by decide +kernel) (by decide +kernel), g_mem 109 (by decide +kernel) (by decide +kernel), by decide +kernel, by decide⟩
theorem ki_X7_conflicts : LKI mX7_conflicts 1 7 := ⟨k0_X7_conflicts, g_mem 800 (by decide +kernel) (by decide +kernel), g_mem 81 (by decide +kernel) (by decide +kernel), rfl⟩
theorem k0_X7_live : LK0 mX7_live 0 := ⟨g_mem 781 (by decide +kernel) (by decide +kernel), g_mem 109 (by decide +kernel) (by decide +kernel), by decide +kernel, by decide⟩
theorem ki_X7_live : LKI mX7_live 0 7 := ⟨k0_X7_live, g_mem 780 (by decide +kernel) (by decide +kernel), g_mem 76 (by decide +kernel) (by decide +kernel), rfl⟩
theorem k0_X7_paidBack : LK0 mX7_paidBack 0 := ⟨g_mem 789 (by decide +kernel) (by decide +kernel), g_mem 109 (by decide +kernel) (by decide +kernel), by decide +kernel, by decide⟩
theorem ki_X7_paidBack : LKI mX7_paidBack 0 7 := ⟨k0_X7_paidBack, g_mem 788 (by decide +kernel) (by decide +kernel), g_mem 78 (by decide +kernel) (by decide +kernel), rfl⟩
theorem k0_X7_allConflicts : LK0 mX7_allConflicts 0 := ⟨g_mem 797 (by decide +kernel) (by decide +kernel), g_mem 109 (by decide +kernel) (by decide +kernel), by decide +kernel, by decide⟩
theorem ki_X7_allConflicts : LKI mX7_allConflicts 0 7 := ⟨k0_X7_allConflicts, g_mem 796 (by decide +kernel) (by decide +kernel), g_mem 80 (by decide +kernel) (by decide +kernel), rfl⟩
theorem k0_X7_counted : LK0 mX7_counted 1 := ⟨g_mem 777 (by decide +kernel) (by decide +kernel), g_mem 109 (by decide +kernel) (by decide +kernel), by decide +kernel, by decide⟩
theorem ki_X7_counted : LKI mX7_counted 1 7 := ⟨k0_X7_counted, g_mem 776 (by decide +kernel) (by decide +kernel), g_mem 75 (by decide +kernel) (by decide +kernel), rfl⟩
theorem k0_X7_count : LK0 mX7_count 1 := ⟨g_mem 773 (by decide +kernel) (by decide +kernel), g_mem 109 (by decide +kernel) (by decide +kernel), by decide +kernel, by decide⟩
theorem ki_X7_count : LKI mX7_count 1 7 := ⟨k0_X7_count, g_mem 771 (by decide +kernel) (by decide +kernel), g_mem 772 (by decide +kernel) (by decide +kernel), rfl⟩
theorem k0_X7_memberNow : LK0 mX7_memberNow 2 := ⟨g_mem 832 (by decide +kernel) (by decide +kernel), g_mem 109 (by decide +kernel) (by decide +kernel), by decide +kernel, by decide⟩
theorem ki_X7_memberNow : LKI mX7_memberNow 2 7 := ⟨k0_X7_memberNow, g_mem 831 (by decide +kernel) (by decide +kernel), g_mem 87 (by decide +kernel) (by decide +kernel), rfl⟩
theorem k0_X7_member : LK0 mX7_member 2 := ⟨g_mem 828 (by decide +kernel) (by decide +kernel), g_mem 109 (by decide +kernel) (by decide +kernel), by decide +kernel, by decide⟩
theorem ki_X7_member : LKI mX7_member 2 7 := ⟨k0_X7_member, g_mem 826 (by decide +kernel) (by decide +kernel), g_mem 827 (by decide +kernel) (by decide +kernel), rfl⟩
theorem k0_X7_addPhrase : LK0 mX7_addPhrase 3 := ⟨g_mem 836 (by decide +kernel) (by decide +kernel), g_mem 109 (by decide +kernel) (by decide +kernel), by decide +kernel, by decide⟩
theorem ki_X7_addPhrase : LKI mX7_addPhrase 3 7 := ⟨k0_X7_addPhrase, g_mem 834 (by decide +kernel) (by decide +kernel), g_mem 835 (by decide +kernel) (by decide +kernel), rfl⟩
theorem k0_X7_phrase : LK0 mX7_phrase 2 := ⟨g_mem 854 (by decide +kernel) (by decide +kernel), g_mem 109 (by decide +kernel) (by decide +kernel), by decide +kernel, by decide⟩
theorem ki_X7_phrase : LKI mX7_phrase 2 7 := ⟨k0_X7_phrase, g_mem 852 (by decide +kernel) (by decide +kernel), g_mem 853 (by decide +kernel) (by decide +kernel), rfl⟩
theorem k0_X7_word : LK0 mX7_word 2 := ⟨g_mem 858 (by decide +kernel) (by decide +kernel), g_mem 109 (by decide +kernel) (by decide +kernel), by decide +kernel, by decide⟩
theorem ki_X7_word : LKI mX7_word 2 7 := ⟨k0_X7_word, g_mem 856 (by decide +kernel) (by decide +kernel), g_mem 857 (by decide +kernel) (by decide +kernel), rfl⟩
theorem k0_X7_score : LK0 mX7_score 2 := ⟨g_mem 862 (by decide +kernel) (by decide +kernel), g_mem 109 (by decide +kernel) (by decide +kernel), by decide +kernel, by decide⟩
theorem ki_X7_score : LKI mX7_score 2 7 := ⟨k0_X7_score, g_mem 860 (by decide +kernel) (by decide +kernel), g_mem 861 (by decide +kernel) (by decide +kernel), rfl⟩
theorem k0_X7_gives : LK0 mX7_gives 2 := ⟨g_mem 870 (by decide +kernel) (by decide +kernel), g_mem 109 (by decide +kernel) (by decide +kernel), by decide +kernel, by decide⟩
theorem ki_X7_gives : LKI mX7_gives 2 7 := ⟨k0_X7_gives, g_mem 869 (by decide +kernel) (by decide +kernel), g_mem 90 (by decide +kernel) (by decide +kernel), rfl⟩
theorem k0_X7_agreed : LK0 mX7_agreed 0 := ⟨g_mem 866 (by decide +kernel) (by decide +kernel), g_mem 109 (by decide +kernel) (by decide +kernel), by decide +kernel, by decide⟩
theorem ki_X7_agreed : LKI mX7_agreed 0 7 := ⟨k0_X7_agreed, g_mem 864 (by decide +kernel) (by decide +kernel), g_mem 865 (by decide +kernel) (by decide +kernel), rfl⟩
theorem k0_X7_found : LK0 mX7_found 0 := ⟨g_mem 882 (by decide +kernel) (by decide +kernel), g_mem 109 (by decide +kernel) (by decide +kernel), by decide +kernel, by decide⟩
theorem ki_X7_found : LKI mX7_found 0 7 := ⟨k0_X7_found, g_mem 881 (by decide +kernel) (by decide +kernel), g_mem 92 (by decide +kernel) (by decide +kernel), rfl⟩
theorem k0_X7_match : LK0 mX7_match 0 := ⟨g_mem 878 (by decide +kernel) (by decide +kernel), g_mem 109 (by decide +kernel) (by decide +kernel), by decide +kernel, by decide⟩
theorem ki_X7_match : LKI mX7_match 0 7 := ⟨k0_X7_match, g_mem 876 (by decide +kernel) (by decide +kernel), g_mem 877 (by decide +kernel) (by decide +kernel), rfl⟩
theorem k0_X7_alike : LK0 mX7_alike 1 := ⟨g_mem 886 (by decide +kernel) (by decide +kernel), g_mem 109 (by decide +kernel) (by decide +kernel), by decide +kernel, by decide⟩
theorem ki_X7_alike : LKI mX7_alike 1 7 := ⟨k0_X7_alike, g_mem 884 (by decide +kernel) (by decide +kernel), g_mem 885 (by decide +kernel) (by decide +kernel), rfl⟩
theorem k0_X7_feeOf : LK0 mX7_feeOf 3 := ⟨g_mem 894 (by decide +kernel) (by decide +kernel), g_mem 109 (by decide +kernel) (by decide +kernel), by decide +kernel, by decide⟩
theorem ki_X7_feeOf : LKI mX7_feeOf 3 7 := ⟨k0_X7_feeOf, g_mem 893 (by decide +kernel) (by decide +kernel), g_mem 93 (by decide +kernel) (by decide +kernel), rfl⟩
theorem k0_X7_fee : LK0 mX7_fee 1 := ⟨g_mem 890 (by decide +kernel) (by decide +kernel), g_mem 109 (by decide +kernel) (by decide +kernel), by decide +kernel, by decide⟩
theorem ki_X7_fee : LKI mX7_fee 1 7 := ⟨k0_X7_fee, g_mem 888 (by decide +kernel) (by decide +kernel), g_mem 889 (by decide +kernel) (by decide +kernel), rfl⟩
theorem k0_X7_use : LK0 mX7_use 1 := ⟨g_mem 898 (by decide +kernel) (by decide +kernel), g_mem 109 (by decide +kernel) (by decide +kernel), by decide +kernel, by decide⟩
theorem ki_X7_use : LKI mX7_use 1 7 := ⟨k0_X7_use, g_mem 896 (by decide +kernel) (by decide +kernel), g_mem 897 (by decide +kernel) (by decide +kernel), rfl⟩
theorem k0_X7_note : LK0 mX7_note 2 := ⟨g_mem 906 (by decide +kernel) (by decide +kernel), g_mem 109 (by decide +kernel) (by decide +kernel), by decide +kernel, by decide⟩
theorem ki_X7_note : LKI mX7_note 2 7 := ⟨k0_X7_note, g_mem 904 (by decide +kernel) (by decide +kernel), g_mem 905 (by decide +kernel) (by decide +kernel), rfl⟩
theorem k0_X7_ends : LK0 mX7_ends 1 := ⟨g_mem 914 (by decide +kernel) (by decide +kernel), g_mem 109 (by decide +kernel) (by decide +kernel), by decide +kernel, by decide⟩
theorem ki_X7_ends : LKI mX7_ends 1 7 := ⟨k0_X7_ends, g_mem 913 (by decide +kernel) (by decide +kernel), g_mem 95 (by decide +kernel) (by decide +kernel), rfl⟩
theorem k0_X7_goesBack : LK0 mX7_goesBack 1 := ⟨g_mem 918 (by decide +kernel) (by decide +kernel), g_mem 109 (by decide +kernel) (by decide +kernel), by decide +kernel, by decide⟩
theorem ki_X7_goesBack : LKI mX7_goesBack 1 7 := ⟨k0_X7_goesBack, g_mem 917 (by decide +kernel) (by decide +kernel), g_mem 96 (by decide +kernel) (by decide +kernel), rfl⟩
theorem k0_X7_retract : LK0 mX7_retract 1 := ⟨g_mem 910 (by decide +kernel) (by decide +kernel), g_mem 109 (by decide +kernel) (by decide +kernel), by decide +kernel, by decide⟩
theorem ki_X7_retract : LKI mX7_retract 1 7 := ⟨k0_X7_retract, g_mem 908 (by decide +kernel) (by decide +kernel), g_mem 909 (by decide +kernel) (by decide +kernel), rfl⟩
theorem k0_X7_wouldPayBack : LK0 mX7_wouldPayBack 1 := ⟨g_mem 922 (by decide +kernel) (by decide +kernel), g_mem 109 (by decide +kernel) (by decide +kernel), by decide +kernel, by decide⟩
theorem ki_X7_wouldPayBack : LKI mX7_wouldPayBack 1 7 := ⟨k0_X7_wouldPayBack, g_mem 920 (by decide +kernel) (by decide +kernel), g_mem 921 (by decide +kernel) (by decide +kernel), rfl⟩
theorem k0_X7_pass : LK0 mX7_pass 1 := ⟨g_mem 926 (by decide +kernel) (by decide +kernel), g_mem 109 (by decide +kernel) (by decide +kernel), by decide +kernel, by decide⟩
theorem ki_X7_pass : LKI mX7_pass 1 7 := ⟨k0_X7_pass, g_mem 924 (by decide +kernel) (by decide +kernel), g_mem 925 (by decide +kernel) (by decide +kernel), rfl⟩
theorem k0_X7_standsAt : LK0 mX7_standsAt 2 := ⟨g_mem 938 (by decide +kernel) (by decide +kernel), g_mem 109 (by decide +kernel) (by decide +kernel), by decide +kernel, by decide⟩
theorem ki_X7_standsAt : LKI mX7_standsAt 2 7 := ⟨k0_X7_standsAt, g_mem 937 (by decide +kernel) (by decide +kernel), g_mem 98 (by decide +kernel) (by decide +kernel), rfl⟩
theorem k0_X7_composes : LK0 mX7_composes 1 := ⟨g_mem 934 (by decide +kernel) (by decide +kernel), g_mem 109 (by decide +kernel) (by decide +kernel), by decide +kernel, by decide⟩
theorem ki_X7_composes : LKI mX7_composes 1 7 := ⟨k0_X7_composes, g_mem 933 (by decide +kernel) (by decide +kernel), g_mem 97 (by decide +kernel) (by decide +kernel), rfl⟩
theorem k0_X7_cheapest : LK0 mX7_cheapest 1 := ⟨g_mem 930 (by decide +kernel) (by decide +kernel), g_mem 109 (by decide +kernel) (by decide +kernel), by decide +kernel, by decide⟩
theorem ki_X7_cheapest : LKI mX7_cheapest 1 7 := ⟨k0_X7_cheapest, g_mem 928 (by decide +kernel) (by decide +kernel), g_mem 929 (by decide +kernel) (by decide +kernel), rfl⟩
theorem k0_X7_piece : LK0 mX7_piece 2 := ⟨g_mem 942 (by decide +kernel) (by decide +kernel), g_mem 109 (by decide +kernel) (by decide +kernel), by decide +kernel, by decide⟩
theorem ki_X7_piece : LKI mX7_piece 2 7 := ⟨k0_X7_piece, g_mem 940 (by decide +kernel) (by decide +kernel), g_mem 941 (by decide +kernel) (by decide +kernel), rfl⟩
theorem k0_X7_type : LK0 mX7_type 1 := ⟨g_mem 946 (by decide +kernel) (by decide +kernel), g_mem 109 (by decide +kernel) (by decide +kernel), by decide +kernel, by decide⟩
theorem ki_X7_type : LKI mX7_type 1 7 := ⟨k0_X7_type, g_mem 944 (by decide +kernel) (by decide +kernel), g_mem 945 (by decide +kernel) (by decide +kernel), rfl⟩
theorem k0_X7_clearText : LK0 mX7_clearText 0 := ⟨g_mem 950 (by decide +kernel) (by decide +kernel), g_mem 109 (by decide +kernel) (by decide +kernel), by decide +kernel, by decide⟩
theorem ki_X7_clearText : LKI mX7_clearText 0 7 := ⟨k0_X7_clearText, g_mem 948 (by decide +kernel) (by decide +kernel), g_mem 949 (by decide +kernel) (by decide +kernel), rfl⟩
theorem k0_X7_textFault : LK0 mX7_textFault 0 := ⟨g_mem 845 (by decide +kernel) (by decide +kernel), g_mem 109 (by decide +kernel) (by decide +kernel), by decide +kernel, by decide⟩
theorem ki_X7_textFault : LKI mX7_textFault 0 7 := ⟨k0_X7_textFault, g_mem 843 (by decide +kernel) (by decide +kernel), g_mem 844 (by decide +kernel) (by decide +kernel), rfl⟩
theorem k0_X7_undo : LK0 mX7_undo 0 := ⟨g_mem 955 (by decide +kernel) (by decide +kernel), g_mem 109 (by decide +kernel) (by decide +kernel), by decide +kernel, by decide⟩
theorem ki_X7_undo : LKI mX7_undo 0 7 := ⟨k0_X7_undo, g_mem 953 (by decide +kernel) (by decide +kernel), g_mem 954 (by decide +kernel) (by decide +kernel), rfl⟩
theorem k0_X7_adds : LK0 mX7_adds 1 := ⟨g_mem 964 (by decide +kernel) (by decide +kernel), g_mem 109 (by decide +kernel) (by decide +kernel), by decide +kernel, by decide⟩
theorem ki_X7_adds : LKI mX7_adds 1 7 := ⟨k0_X7_adds, g_mem 963 (by decide +kernel) (by decide +kernel), g_mem 99 (by decide +kernel) (by decide +kernel), rfl⟩
theorem k0_X7_digest : LK0 mX7_digest 0 := ⟨g_mem 959 (by decide +kernel) (by decide +kernel), g_mem 109 (by decide +kernel) (by decide +kernel), by decide +kernel, by decide⟩
theorem ki_X7_digest : LKI mX7_digest 0 7 := ⟨k0_X7_digest, g_mem 957 (by decide +kernel) (by decide +kernel), g_mem 958 (by decide +kernel) (by decide +kernel), rfl⟩
theorem ac_2_39 : ACp 2 39 := ⟨g_mem 159 (by decide +kernel) (by decide +kernel), g_mem 161 (by decide +kernel) (by decide +kernel), g_mem 160 (by decide +kernel) (by decide +kernel), g_mem 105 (by decide +kernel) (by decide +kernel)⟩
theorem lk_8_13 : LKV 8 13 mX6_addMember 0 6 := ⟨ki_X6_addMember, g_mem 250 (by decide +kernel) (by decide +kernel)⟩
theorem lk_6_44 : LKN 6 44 mX2_members 0 2 := ⟨ki_X2_members, "PhrasePool", n_mem 154 (by decide +kernel) (by decide +kernel) (by decide +kernel)⟩
theorem lk_6_49 : LKN 6 49 mX0_keep 1 0 := ⟨ki_X0_keep, "PhrasePool", n_mem 159 (by decide +kernel) (by decide +kernel) (by decide +kernel)⟩
theorem lk_0_22 : LKN 0 22 mX2_copyTo 1 2 := ⟨ki_X2_copyTo, "PhrasePool", n_mem 163 (by decide +kernel) (by decide +kernel) (by decide +kernel)⟩
theorem lm_0_29 : Lmin 0 29 := ⟨g_mem 267 (by decide +kernel) (by decide +kernel), g_mem 268 (by decide +kernel) (by decide +kernel), g_mem 110 (by decide +kernel) (by decide +kernel), g_mem 269 (by decide +kernel) (by decide +kernel)⟩
theorem lk_6_53 : LKN 6 53 mX2_startMember 0 2 := ⟨ki_X2_startMember, "PhrasePool", n_mem 170 (by decide +kernel) (by decide +kernel) (by decide +kernel)⟩
theorem lk_2_55 : LKS 2 55 mX2_memberCell 2 := ⟨k0_X2_memberCell, g_mem 274 (by decide +kernel) (by decide +kernel), g_mem 275 (by decide +kernel) (by decide +kernel)⟩
theorem lk_8_18 : LKV 8 18 mX6_setPrice 2 6 := ⟨ki_X6_setPrice, g_mem 277 (by decide +kernel) (by decide +kernel)⟩
theorem lk_6_56 : LKN 6 56 mX2_hasMember 1 2 := ⟨ki_X2_hasMember, "PhrasePool", n_mem 181 (by decide +kernel) (by decide +kernel) (by decide +kernel)⟩
theorem lk_2_45 : LKV 2 45 mX2_members 0 2 := ⟨ki_X2_members, g_mem 285 (by decide +kernel) (by decide +kernel)⟩
theorem lk_6_62 : LKN 6 62 mX2_priceOf 1 2 := ⟨ki_X2_priceOf, "PhrasePool", n_mem 188 (by decide +kernel) (by decide +kernel) (by decide +kernel)⟩
theorem lk_6_66 : LKN 6 66 mX2_changePrice 2 2 := ⟨ki_X2_changePrice, "PhrasePool", n_mem 192 (by decide +kernel) (by decide +kernel) (by decide +kernel)⟩
theorem lk_8_23 : LKV 8 23 mX6_set 2 6 := ⟨ki_X6_set, g_mem 296 (by decide +kernel) (by decide +kernel)⟩
theorem lk_6_77 : LKN 6 77 mX2_settingOf 1 2 := ⟨ki_X2_settingOf, "PhrasePool", n_mem 204 (by decide +kernel) (by decide +kernel) (by decide +kernel)⟩
theorem lk_6_80 : LKN 6 80 mX2_changeSetting 2 2 := ⟨ki_X2_changeSetting, "PhrasePool", n_mem 208 (by decide +kernel) (by decide +kernel) (by decide +kernel)⟩
theorem lk_8_27 : LKV 8 27 mX6_count 1 6 := ⟨ki_X6_count, g_mem 312 (by decide +kernel) (by decide +kernel)⟩
theorem lk_6_87 : LKN 6 87 mX2_countOf 1 2 := ⟨ki_X2_countOf, "PhrasePool", n_mem 216 (by decide +kernel) (by decide +kernel) (by decide +kernel)⟩
theorem lk_2_49 : LKV 2 49 mX2_phrases 0 2 := ⟨ki_X2_phrases, g_mem 320 (by decide +kernel) (by decide +kernel)⟩
theorem lk_2_82 : LKV 2 82 mX2_countLive 0 2 := ⟨ki_X2_countLive, g_mem 324 (by decide +kernel) (by decide +kernel)⟩
theorem lk_2_69 : LKV 2 69 mX2_isLive 1 2 := ⟨ki_X2_isLive, g_mem 328 (by decide +kernel) (by decide +kernel)⟩
theorem lk_2_100 : LKS 2 100 mX2_phraseCell 2 := ⟨k0_X2_phraseCell, g_mem 332 (by decide +kernel) (by decide +kernel), g_mem 333 (by decide +kernel) (by decide +kernel)⟩
theorem lk_2_52 : LKV 2 52 mX2_notes 0 2 := ⟨ki_X2_notes, g_mem 335 (by decide +kernel) (by decide +kernel)⟩
theorem lk_2_85 : LKV 2 85 mX2_countPaidBack 0 2 := ⟨ki_X2_countPaidBack, g_mem 339 (by decide +kernel) (by decide +kernel)⟩
theorem lk_2_79 : LKV 2 79 mX2_isPaidBack 1 2 := ⟨ki_X2_isPaidBack, g_mem 343 (by decide +kernel) (by decide +kernel)⟩
theorem lk_2_153 : LKS 2 153 mX2_noteCell 2 := ⟨k0_X2_noteCell, g_mem 347 (by decide +kernel) (by decide +kernel), g_mem 348 (by decide +kernel) (by decide +kernel)⟩
theorem lk_2_88 : LKV 2 88 mX2_tick 0 2 := ⟨ki_X2_tick, g_mem 350 (by decide +kernel) (by decide +kernel)⟩
theorem lk_2_91 : LKV 2 91 mX2_countConflicts 0 2 := ⟨ki_X2_countConflicts, g_mem 354 (by decide +kernel) (by decide +kernel)⟩
theorem lk_2_97 : LKV 2 97 mX2_conflictsOf 1 2 := ⟨ki_X2_conflictsOf, g_mem 358 (by decide +kernel) (by decide +kernel)⟩
theorem lk_2_123 : LKV 2 123 mX2_readInto 2 2 := ⟨ki_X2_readInto, g_mem 362 (by decide +kernel) (by decide +kernel)⟩
theorem lk_2_110 : LKN 2 110 mX1_clear 0 1 := ⟨ki_X1_clear, "PhrasePool", n_mem 266 (by decide +kernel) (by decide +kernel) (by decide +kernel)⟩
theorem lk_2_113 : LKV 2 113 mX2_lengthOf 1 2 := ⟨ki_X2_lengthOf, g_mem 370 (by decide +kernel) (by decide +kernel)⟩
theorem lk_2_116 : LKV 2 116 mX2_wordOf 2 2 := ⟨ki_X2_wordOf, g_mem 374 (by decide +kernel) (by decide +kernel)⟩
theorem lk_2_119 : LKN 2 119 mX1_append 1 1 := ⟨ki_X1_append, "PhrasePool", n_mem 278 (by decide +kernel) (by decide +kernel) (by decide +kernel)⟩
theorem lk_2_135 : LKV 2 135 mX2_isLiveAs 2 2 := ⟨ki_X2_isLiveAs, g_mem 382 (by decide +kernel) (by decide +kernel)⟩
theorem lk_2_142 : LKV 2 142 mX2_standsAt 3 2 := ⟨ki_X2_standsAt, g_mem 386 (by decide +kernel) (by decide +kernel)⟩
theorem lk_2_139 : LKV 2 139 mX2_targetOf 1 2 := ⟨ki_X2_targetOf, g_mem 390 (by decide +kernel) (by decide +kernel)⟩
theorem lk_2_94 : LKV 2 94 mX2_settingOf 1 2 := ⟨ki_X2_settingOf, g_mem 394 (by decide +kernel) (by decide +kernel)⟩
theorem lk_8_32 : LKV 8 32 mX6_member 2 6 := ⟨ki_X6_member, g_mem 395 (by decide +kernel) (by decide +kernel)⟩
theorem lk_6_90 : LKN 6 90 mX2_memberProperty 2 2 := ⟨ki_X2_memberProperty, "PhrasePool", n_mem 299 (by decide +kernel) (by decide +kernel) (by decide +kernel)⟩
theorem lk_2_59 : LKV 2 59 mX2_countOwned 1 2 := ⟨ki_X2_countOwned, g_mem 403 (by decide +kernel) (by decide +kernel)⟩
theorem lk_2_73 : LKV 2 73 mX2_ownerOf 1 2 := ⟨ki_X2_ownerOf, g_mem 407 (by decide +kernel) (by decide +kernel)⟩
theorem lk_2_63 : LKV 2 63 mX2_countUsesNoted 1 2 := ⟨ki_X2_countUsesNoted, g_mem 411 (by decide +kernel) (by decide +kernel)⟩
theorem lk_2_76 : LKV 2 76 mX2_noteProperty 2 2 := ⟨ki_X2_noteProperty, g_mem 415 (by decide +kernel) (by decide +kernel)⟩
theorem lk_2_66 : LKV 2 66 mX2_sumGot 1 2 := ⟨ki_X2_sumGot, g_mem 419 (by decide +kernel) (by decide +kernel)⟩
theorem lk_8_36 : LKV 8 36 mX6_addPhrase 3 6 := ⟨ki_X6_addPhrase, g_mem 423 (by decide +kernel) (by decide +kernel)⟩
theorem lk_6_95 : LKN 6 95 mX2_hasPhrase 1 2 := ⟨ki_X2_hasPhrase, "PhrasePool", n_mem 328 (by decide +kernel) (by decide +kernel) (by decide +kernel)⟩
theorem lk_6_98 : LKN 6 98 mX3_isFaulty 0 3 := ⟨ki_X3_isFaulty, "PhrasePool", n_mem 332 (by decide +kernel) (by decide +kernel) (by decide +kernel)⟩
theorem lk_3_24 : LKV 3 24 mX3_fault 0 3 := ⟨ki_X3_fault, g_mem 436 (by decide +kernel) (by decide +kernel)⟩
theorem lk_3_19 : LKS 3 19 mX3_isLetter 1 := ⟨k0_X3_isLetter, g_mem 440 (by decide +kernel) (by decide +kernel), g_mem 441 (by decide +kernel) (by decide +kernel)⟩
theorem lk_6_102 : LKN 6 102 mX2_isLive 1 2 := ⟨ki_X2_isLive, "PhrasePool", n_mem 344 (by decide +kernel) (by decide +kernel) (by decide +kernel)⟩
theorem lk_6_106 : LKN 6 106 mX2_phrases 0 2 := ⟨ki_X2_phrases, "PhrasePool", n_mem 346 (by decide +kernel) (by decide +kernel) (by decide +kernel)⟩
theorem lk_6_109 : LKN 6 109 mX3_readInto 1 3 := ⟨ki_X3_readInto, "PhrasePool", n_mem 347 (by decide +kernel) (by decide +kernel) (by decide +kernel)⟩
theorem lk_3_28 : LKN 3 28 mX1_clear 0 1 := ⟨ki_X1_clear, "PhrasePool", n_mem 351 (by decide +kernel) (by decide +kernel) (by decide +kernel)⟩
theorem lk_3_33 : LKN 3 33 mX1_append 1 1 := ⟨ki_X1_append, "PhrasePool", n_mem 352 (by decide +kernel) (by decide +kernel) (by decide +kernel)⟩
theorem lk_6_113 : LKN 6 113 mX2_startPhrase 4 2 := ⟨ki_X2_startPhrase, "PhrasePool", n_mem 353 (by decide +kernel) (by decide +kernel) (by decide +kernel)⟩
theorem lk_8_41 : LKV 8 41 mX6_phrase 2 6 := ⟨ki_X6_phrase, g_mem 457 (by decide +kernel) (by decide +kernel)⟩
theorem lk_6_117 : LKN 6 117 mX2_phraseProperty 2 2 := ⟨ki_X2_phraseProperty, "PhrasePool", n_mem 361 (by decide +kernel) (by decide +kernel) (by decide +kernel)⟩
theorem lk_8_45 : LKV 8 45 mX6_word 2 6 := ⟨ki_X6_word, g_mem 465 (by decide +kernel) (by decide +kernel)⟩
theorem lk_6_120 : LKN 6 120 mX2_lengthOf 1 2 := ⟨ki_X2_lengthOf, "PhrasePool", n_mem 369 (by decide +kernel) (by decide +kernel) (by decide +kernel)⟩
theorem lk_6_123 : LKN 6 123 mX2_wordOf 2 2 := ⟨ki_X2_wordOf, "PhrasePool", n_mem 370 (by decide +kernel) (by decide +kernel) (by decide +kernel)⟩
theorem lk_8_49 : LKV 8 49 mX6_score 2 6 := ⟨ki_X6_score, g_mem 471 (by decide +kernel) (by decide +kernel)⟩
theorem lk_6_126 : LKN 6 126 mX2_likenessOf 2 2 := ⟨ki_X2_likenessOf, "PhrasePool", n_mem 375 (by decide +kernel) (by decide +kernel) (by decide +kernel)⟩
theorem lk_2_127 : LKV 2 127 mX2_likenessTo 2 2 := ⟨ki_X2_likenessTo, g_mem 479 (by decide +kernel) (by decide +kernel)⟩
theorem lk_2_131 : LKN 2 131 mX5_measure 2 5 := ⟨ki_X5_measure, "PhrasePool", n_mem 383 (by decide +kernel) (by decide +kernel) (by decide +kernel)⟩
theorem lm_5_22 : Lmax 5 22 := ⟨g_mem 487 (by decide +kernel) (by decide +kernel), g_mem 488 (by decide +kernel) (by decide +kernel), g_mem 110 (by decide +kernel) (by decide +kernel), g_mem 489 (by decide +kernel) (by decide +kernel)⟩
theorem lk_5_28 : LKV 5 28 mX5_distance 2 5 := ⟨ki_X5_distance, g_mem 490 (by decide +kernel) (by decide +kernel)⟩
theorem lm_5_36 : Lmin 5 36 := ⟨g_mem 494 (by decide +kernel) (by decide +kernel), g_mem 268 (by decide +kernel) (by decide +kernel), g_mem 110 (by decide +kernel) (by decide +kernel), g_mem 269 (by decide +kernel) (by decide +kernel)⟩
theorem lk_8_53 : LKV 8 53 mX6_agreed 0 6 := ⟨ki_X6_agreed, g_mem 495 (by decide +kernel) (by decide +kernel)⟩
theorem lk_6_129 : LKN 6 129 mX2_isLiveAs 2 2 := ⟨ki_X2_isLiveAs, "PhrasePool", n_mem 399 (by decide +kernel) (by decide +kernel) (by decide +kernel)⟩
theorem lk_6_133 : LKN 6 133 mX2_targetOf 1 2 := ⟨ki_X2_targetOf, "PhrasePool", n_mem 400 (by decide +kernel) (by decide +kernel) (by decide +kernel)⟩
theorem lk_6_136 : LKN 6 136 mX2_giversOf 2 2 := ⟨ki_X2_giversOf, "PhrasePool", n_mem 401 (by decide +kernel) (by decide +kernel) (by decide +kernel)⟩
theorem lk_2_146 : LKV 2 146 mX2_gives 3 2 := ⟨ki_X2_gives, g_mem 505 (by decide +kernel) (by decide +kernel)⟩
theorem lk_8_57 : LKV 8 57 mX6_match 0 6 := ⟨ki_X6_match, g_mem 509 (by decide +kernel) (by decide +kernel)⟩
theorem lk_6_140 : LKV 6 140 mX6_findMatch 0 6 := ⟨ki_X6_findMatch, g_mem 513 (by decide +kernel) (by decide +kernel)⟩
theorem lk_6_143 : LKN 6 143 mX2_likenessTo 2 2 := ⟨ki_X2_likenessTo, "PhrasePool", n_mem 417 (by decide +kernel) (by decide +kernel) (by decide +kernel)⟩
theorem lk_6_215 : LKN 6 215 mX2_usesOf 1 2 := ⟨ki_X2_usesOf, "PhrasePool", n_mem 418 (by decide +kernel) (by decide +kernel) (by decide +kernel)⟩
theorem lk_8_61 : LKV 8 61 mX6_alike 1 6 := ⟨ki_X6_alike, g_mem 522 (by decide +kernel) (by decide +kernel)⟩
theorem lk_8_65 : LKV 8 65 mX6_fee 1 6 := ⟨ki_X6_fee, g_mem 526 (by decide +kernel) (by decide +kernel)⟩
theorem lk_6_147 : LKN 6 147 mX2_feeFor 3 2 := ⟨ki_X2_feeFor, "PhrasePool", n_mem 430 (by decide +kernel) (by decide +kernel) (by decide +kernel)⟩
theorem lk_2_150 : LKV 2 150 mX2_priceOf 1 2 := ⟨ki_X2_priceOf, g_mem 534 (by decide +kernel) (by decide +kernel)⟩
theorem lk_8_69 : LKV 8 69 mX6_use 1 6 := ⟨ki_X6_use, g_mem 535 (by decide +kernel) (by decide +kernel)⟩
theorem lk_6_151 : LKN 6 151 mX2_notes 0 2 := ⟨ki_X2_notes, "PhrasePool", n_mem 439 (by decide +kernel) (by decide +kernel) (by decide +kernel)⟩
theorem lk_6_154 : LKN 6 154 mX2_startNote 3 2 := ⟨ki_X2_startNote, "PhrasePool", n_mem 440 (by decide +kernel) (by decide +kernel) (by decide +kernel)⟩
theorem lk_2_156 : LKV 2 156 mX2_feeFor 3 2 := ⟨ki_X2_feeFor, g_mem 544 (by decide +kernel) (by decide +kernel)⟩
theorem lk_2_160 : LKV 2 160 mX2_splitFee 1 2 := ⟨ki_X2_splitFee, g_mem 545 (by decide +kernel) (by decide +kernel)⟩
theorem lk_2_168 : LKV 2 168 mX2_parentOf 1 2 := ⟨ki_X2_parentOf, g_mem 550 (by decide +kernel) (by decide +kernel)⟩
theorem lk_2_163 : LKV 2 163 mX2_moveMoney 2 2 := ⟨ki_X2_moveMoney, g_mem 554 (by decide +kernel) (by decide +kernel)⟩
theorem lk_8_73 : LKV 8 73 mX6_note 2 6 := ⟨ki_X6_note, g_mem 558 (by decide +kernel) (by decide +kernel)⟩
theorem lk_6_157 : LKN 6 157 mX2_hasNote 1 2 := ⟨ki_X2_hasNote, "PhrasePool", n_mem 462 (by decide +kernel) (by decide +kernel) (by decide +kernel)⟩
theorem lk_6_160 : LKN 6 160 mX2_noteProperty 2 2 := ⟨ki_X2_noteProperty, "PhrasePool", n_mem 466 (by decide +kernel) (by decide +kernel) (by decide +kernel)⟩
theorem lk_8_77 : LKV 8 77 mX6_retract 1 6 := ⟨ki_X6_retract, g_mem 567 (by decide +kernel) (by decide +kernel)⟩
theorem lk_6_163 : LKN 6 163 mX2_markEndings 1 2 := ⟨ki_X2_markEndings, "PhrasePool", n_mem 471 (by decide +kernel) (by decide +kernel) (by decide +kernel)⟩
theorem lk_2_171 : LKV 2 171 mX2_hasMarkedParent 1 2 := ⟨ki_X2_hasMarkedParent, g_mem 575 (by decide +kernel) (by decide +kernel)⟩
theorem lk_2_174 : LKV 2 174 mX2_likenessOf 2 2 := ⟨ki_X2_likenessOf, g_mem 579 (by decide +kernel) (by decide +kernel)⟩
theorem lk_6_167 : LKN 6 167 mX2_payBackMarked 0 2 := ⟨ki_X2_payBackMarked, "PhrasePool", n_mem 480 (by decide +kernel) (by decide +kernel) (by decide +kernel)⟩
theorem lk_2_177 : LKV 2 177 mX2_isOwed 1 2 := ⟨ki_X2_isOwed, g_mem 584 (by decide +kernel) (by decide +kernel)⟩
theorem lk_6_170 : LKN 6 170 mX2_endMarked 0 2 := ⟨ki_X2_endMarked, "PhrasePool", n_mem 488 (by decide +kernel) (by decide +kernel) (by decide +kernel)⟩
theorem lk_8_81 : LKV 8 81 mX6_wouldPayBack 1 6 := ⟨ki_X6_wouldPayBack, g_mem 592 (by decide +kernel) (by decide +kernel)⟩
theorem lk_6_173 : LKN 6 173 mX2_owedForMarked 0 2 := ⟨ki_X2_owedForMarked, "PhrasePool", n_mem 496 (by decide +kernel) (by decide +kernel) (by decide +kernel)⟩
theorem lk_8_85 : LKV 8 85 mX6_pass 1 6 := ⟨ki_X6_pass, g_mem 600 (by decide +kernel) (by decide +kernel)⟩
theorem lk_6_176 : LKN 6 176 mX2_tick 0 2 := ⟨ki_X2_tick, "PhrasePool", n_mem 504 (by decide +kernel) (by decide +kernel) (by decide +kernel)⟩
theorem lk_6_179 : LKN 6 179 mX2_moveTick 1 2 := ⟨ki_X2_moveTick, "PhrasePool", n_mem 505 (by decide +kernel) (by decide +kernel) (by decide +kernel)⟩
theorem lk_8_89 : LKV 8 89 mX6_cheapest 1 6 := ⟨ki_X6_cheapest, g_mem 609 (by decide +kernel) (by decide +kernel)⟩
theorem lk_6_182 : LKV 6 182 mX6_findWays 1 6 := ⟨ki_X6_findWays, g_mem 613 (by decide +kernel) (by decide +kernel)⟩
theorem lk_6_219 : LKN 6 219 mX4_start 1 4 := ⟨ki_X4_start, "PhrasePool", n_mem 517 (by decide +kernel) (by decide +kernel) (by decide +kernel)⟩
theorem lk_4_28 : LKV 4 28 mX4_open 1 4 := ⟨ki_X4_open, g_mem 621 (by decide +kernel) (by decide +kernel)⟩
theorem lk_6_222 : LKN 6 222 mX4_open 1 4 := ⟨ki_X4_open, "PhrasePool", n_mem 526 (by decide +kernel) (by decide +kernel) (by decide +kernel)⟩
theorem lk_6_225 : LKN 6 225 mX2_standsAt 3 2 := ⟨ki_X2_standsAt, "PhrasePool", n_mem 527 (by decide +kernel) (by decide +kernel) (by decide +kernel)⟩
theorem lk_6_229 : LKN 6 229 mX4_offer 4 4 := ⟨ki_X4_offer, "PhrasePool", n_mem 528 (by decide +kernel) (by decide +kernel) (by decide +kernel)⟩
theorem lk_6_185 : LKN 6 185 mX4_bestCost 0 4 := ⟨ki_X4_bestCost, "PhrasePool", n_mem 532 (by decide +kernel) (by decide +kernel) (by decide +kernel)⟩
theorem lk_8_93 : LKV 8 93 mX6_piece 2 6 := ⟨ki_X6_piece, g_mem 636 (by decide +kernel) (by decide +kernel)⟩
theorem lk_6_188 : LKN 6 188 mX4_pieceAt 1 4 := ⟨ki_X4_pieceAt, "PhrasePool", n_mem 540 (by decide +kernel) (by decide +kernel) (by decide +kernel)⟩
theorem lk_8_97 : LKV 8 97 mX6_type 1 6 := ⟨ki_X6_type, g_mem 644 (by decide +kernel) (by decide +kernel)⟩
theorem lk_6_191 : LKN 6 191 mX3_append 1 3 := ⟨ki_X3_append, "PhrasePool", n_mem 548 (by decide +kernel) (by decide +kernel) (by decide +kernel)⟩
theorem lk_8_101 : LKV 8 101 mX6_clearText 0 6 := ⟨ki_X6_clearText, g_mem 652 (by decide +kernel) (by decide +kernel)⟩
theorem lk_6_194 : LKN 6 194 mX3_empty 0 3 := ⟨ki_X3_empty, "PhrasePool", n_mem 556 (by decide +kernel) (by decide +kernel) (by decide +kernel)⟩
theorem lk_8_105 : LKV 8 105 mX6_textFault 0 6 := ⟨ki_X6_textFault, g_mem 660 (by decide +kernel) (by decide +kernel)⟩
theorem lk_6_197 : LKN 6 197 mX3_fault 0 3 := ⟨ki_X3_fault, "PhrasePool", n_mem 564 (by decide +kernel) (by decide +kernel) (by decide +kernel)⟩
theorem lk_8_109 : LKV 8 109 mX6_undo 0 6 := ⟨ki_X6_undo, g_mem 665 (by decide +kernel) (by decide +kernel)⟩
theorem lk_6_203 : LKN 6 203 mX0_restoreInto 1 0 := ⟨ki_X0_restoreInto, "PhrasePool", n_mem 569 (by decide +kernel) (by decide +kernel) (by decide +kernel)⟩
theorem lk_0_35 : LKN 0 35 mX2_copyFrom 1 2 := ⟨ki_X2_copyFrom, "PhrasePool", n_mem 573 (by decide +kernel) (by decide +kernel) (by decide +kernel)⟩
theorem lk_8_113 : LKV 8 113 mX6_digest 0 6 := ⟨ki_X6_digest, g_mem 677 (by decide +kernel) (by decide +kernel)⟩
theorem lk_6_211 : LKV 6 211 mX6_hashPhrase 2 6 := ⟨ki_X6_hashPhrase, g_mem 683 (by decide +kernel) (by decide +kernel)⟩
theorem lk_8_17 : LKV 8 17 mX7_addMember 0 7 := ⟨ki_X7_addMember, g_mem 736 (by decide +kernel) (by decide +kernel)⟩
theorem lk_7_80 : LKV 7 80 mX7_records 0 7 := ⟨ki_X7_records, g_mem 741 (by decide +kernel) (by decide +kernel)⟩
theorem lk_7_41 : LKV 7 41 mX7_copies 2 7 := ⟨ki_X7_copies, g_mem 745 (by decide +kernel) (by decide +kernel)⟩
theorem lk_8_22 : LKV 8 22 mX7_setPrice 2 7 := ⟨ki_X7_setPrice, g_mem 749 (by decide +kernel) (by decide +kernel)⟩
theorem lk_7_83 : LKV 7 83 mX7_isMember 1 7 := ⟨ki_X7_isMember, g_mem 753 (by decide +kernel) (by decide +kernel)⟩
theorem lk_7_45 : LKS 7 45 mX7_in 3 := ⟨k0_X7_in, g_mem 757 (by decide +kernel) (by decide +kernel), g_mem 758 (by decide +kernel) (by decide +kernel)⟩
theorem lk_7_89 : LKV 7 89 mX7_price 1 7 := ⟨ki_X7_price, g_mem 762 (by decide +kernel) (by decide +kernel)⟩
theorem lk_8_26 : LKV 8 26 mX7_set 2 7 := ⟨ki_X7_set, g_mem 766 (by decide +kernel) (by decide +kernel)⟩
theorem lk_8_31 : LKV 8 31 mX7_count 1 7 := ⟨ki_X7_count, g_mem 770 (by decide +kernel) (by decide +kernel)⟩
theorem lk_7_115 : LKV 7 115 mX7_counted 1 7 := ⟨ki_X7_counted, g_mem 774 (by decide +kernel) (by decide +kernel)⟩
theorem lk_7_106 : LKV 7 106 mX7_live 0 7 := ⟨ki_X7_live, g_mem 778 (by decide +kernel) (by decide +kernel)⟩
theorem lk_7_49 : LKV 7 49 mX7_of 2 7 := ⟨ki_X7_of, g_mem 782 (by decide +kernel) (by decide +kernel)⟩
theorem lk_7_109 : LKV 7 109 mX7_paidBack 0 7 := ⟨ki_X7_paidBack, g_mem 786 (by decide +kernel) (by decide +kernel)⟩
theorem lk_7_100 : LKV 7 100 mX7_ofNote 2 7 := ⟨ki_X7_ofNote, g_mem 790 (by decide +kernel) (by decide +kernel)⟩
theorem lk_7_112 : LKV 7 112 mX7_allConflicts 0 7 := ⟨ki_X7_allConflicts, g_mem 794 (by decide +kernel) (by decide +kernel)⟩
theorem lk_7_103 : LKV 7 103 mX7_conflicts 1 7 := ⟨ki_X7_conflicts, g_mem 798 (by decide +kernel) (by decide +kernel)⟩
theorem lk_7_96 : LKV 7 96 mX7_areInConflict 2 7 := ⟨ki_X7_areInConflict, g_mem 802 (by decide +kernel) (by decide +kernel)⟩
theorem lk_7_93 : LKV 7 93 mX7_scoreOf 2 7 := ⟨ki_X7_scoreOf, g_mem 806 (by decide +kernel) (by decide +kernel)⟩
theorem lk_7_65 : LKV 7 65 mX7_setsOne 1 7 := ⟨ki_X7_setsOne, g_mem 810 (by decide +kernel) (by decide +kernel)⟩
theorem lk_7_69 : LKV 7 69 mX7_setsOther 1 7 := ⟨ki_X7_setsOther, g_mem 814 (by decide +kernel) (by decide +kernel)⟩
theorem lk_7_72 : LKV 7 72 mX7_scoreNow 0 7 := ⟨ki_X7_scoreNow, g_mem 818 (by decide +kernel) (by decide +kernel)⟩
theorem lk_7_62 : LKS 7 62 mX7_least 2 := ⟨k0_X7_least, g_mem 822 (by decide +kernel) (by decide +kernel), g_mem 823 (by decide +kernel) (by decide +kernel)⟩
theorem lk_8_35 : LKV 8 35 mX7_member 2 7 := ⟨ki_X7_member, g_mem 825 (by decide +kernel) (by decide +kernel)⟩
theorem lk_7_118 : LKV 7 118 mX7_memberNow 2 7 := ⟨ki_X7_memberNow, g_mem 829 (by decide +kernel) (by decide +kernel)⟩
theorem lk_8_40 : LKV 8 40 mX7_addPhrase 3 7 := ⟨ki_X7_addPhrase, g_mem 833 (by decide +kernel) (by decide +kernel)⟩
theorem lk_7_122 : LKV 7 122 mX7_isPhrase 1 7 := ⟨ki_X7_isPhrase, g_mem 838 (by decide +kernel) (by decide +kernel)⟩
theorem lk_7_125 : LKV 7 125 mX7_textFault 0 7 := ⟨ki_X7_textFault, g_mem 842 (by decide +kernel) (by decide +kernel)⟩
theorem lk_7_76 : LKV 7 76 mX7_setsText 0 7 := ⟨ki_X7_setsText, g_mem 847 (by decide +kernel) (by decide +kernel)⟩
theorem lk_8_44 : LKV 8 44 mX7_phrase 2 7 := ⟨ki_X7_phrase, g_mem 851 (by decide +kernel) (by decide +kernel)⟩
theorem lk_8_48 : LKV 8 48 mX7_word 2 7 := ⟨ki_X7_word, g_mem 855 (by decide +kernel) (by decide +kernel)⟩
theorem lk_8_52 : LKV 8 52 mX7_score 2 7 := ⟨ki_X7_score, g_mem 859 (by decide +kernel) (by decide +kernel)⟩
theorem lk_8_56 : LKV 8 56 mX7_agreed 0 7 := ⟨ki_X7_agreed, g_mem 863 (by decide +kernel) (by decide +kernel)⟩
theorem lk_7_132 : LKV 7 132 mX7_gives 2 7 := ⟨ki_X7_gives, g_mem 867 (by decide +kernel) (by decide +kernel)⟩
theorem lk_7_129 : LKV 7 129 mX7_textScore 1 7 := ⟨ki_X7_textScore, g_mem 871 (by decide +kernel) (by decide +kernel)⟩
theorem lk_8_60 : LKV 8 60 mX7_match 0 7 := ⟨ki_X7_match, g_mem 875 (by decide +kernel) (by decide +kernel)⟩
theorem lk_7_135 : LKV 7 135 mX7_found 0 7 := ⟨ki_X7_found, g_mem 879 (by decide +kernel) (by decide +kernel)⟩
theorem lk_8_64 : LKV 8 64 mX7_alike 1 7 := ⟨ki_X7_alike, g_mem 883 (by decide +kernel) (by decide +kernel)⟩
theorem lk_8_68 : LKV 8 68 mX7_fee 1 7 := ⟨ki_X7_fee, g_mem 887 (by decide +kernel) (by decide +kernel)⟩
theorem lk_7_138 : LKV 7 138 mX7_feeOf 3 7 := ⟨ki_X7_feeOf, g_mem 891 (by decide +kernel) (by decide +kernel)⟩
theorem lk_8_72 : LKV 8 72 mX7_use 1 7 := ⟨ki_X7_use, g_mem 895 (by decide +kernel) (by decide +kernel)⟩
theorem lk_7_142 : LKV 7 142 mX7_pays 2 7 := ⟨ki_X7_pays, g_mem 899 (by decide +kernel) (by decide +kernel)⟩
theorem lk_8_76 : LKV 8 76 mX7_note 2 7 := ⟨ki_X7_note, g_mem 903 (by decide +kernel) (by decide +kernel)⟩
theorem lk_8_80 : LKV 8 80 mX7_retract 1 7 := ⟨ki_X7_retract, g_mem 907 (by decide +kernel) (by decide +kernel)⟩
theorem lk_7_145 : LKV 7 145 mX7_ends 1 7 := ⟨ki_X7_ends, g_mem 911 (by decide +kernel) (by decide +kernel)⟩
theorem lk_7_148 : LKV 7 148 mX7_goesBack 1 7 := ⟨ki_X7_goesBack, g_mem 915 (by decide +kernel) (by decide +kernel)⟩
theorem lk_8_84 : LKV 8 84 mX7_wouldPayBack 1 7 := ⟨ki_X7_wouldPayBack, g_mem 919 (by decide +kernel) (by decide +kernel)⟩
theorem lk_8_88 : LKV 8 88 mX7_pass 1 7 := ⟨ki_X7_pass, g_mem 923 (by decide +kernel) (by decide +kernel)⟩
theorem lk_8_92 : LKV 8 92 mX7_cheapest 1 7 := ⟨ki_X7_cheapest, g_mem 927 (by decide +kernel) (by decide +kernel)⟩
theorem lk_7_154 : LKV 7 154 mX7_composes 1 7 := ⟨ki_X7_composes, g_mem 931 (by decide +kernel) (by decide +kernel)⟩
theorem lk_7_151 : LKV 7 151 mX7_standsAt 2 7 := ⟨ki_X7_standsAt, g_mem 935 (by decide +kernel) (by decide +kernel)⟩
theorem lk_8_96 : LKV 8 96 mX7_piece 2 7 := ⟨ki_X7_piece, g_mem 939 (by decide +kernel) (by decide +kernel)⟩
theorem lk_8_100 : LKV 8 100 mX7_type 1 7 := ⟨ki_X7_type, g_mem 943 (by decide +kernel) (by decide +kernel)⟩
theorem lk_8_104 : LKV 8 104 mX7_clearText 0 7 := ⟨ki_X7_clearText, g_mem 947 (by decide +kernel) (by decide +kernel)⟩
theorem lk_8_108 : LKV 8 108 mX7_textFault 0 7 := ⟨ki_X7_textFault, g_mem 951 (by decide +kernel) (by decide +kernel)⟩
theorem lk_8_112 : LKV 8 112 mX7_undo 0 7 := ⟨ki_X7_undo, g_mem 952 (by decide +kernel) (by decide +kernel)⟩
theorem lk_8_117 : LKV 8 117 mX7_digest 0 7 := ⟨ki_X7_digest, g_mem 956 (by decide +kernel) (by decide +kernel)⟩
theorem lk_7_165 : LKV 7 165 mX7_adds 1 7 := ⟨ki_X7_adds, g_mem 961 (by decide +kernel) (by decide +kernel)⟩
theorem lk_7_169 : LKV 7 169 mX7_phrase 2 7 := ⟨ki_X7_phrase, g_mem 966 (by decide +kernel) (by decide +kernel)⟩
end
section
theorem dX0_init_0 : decode (mc mX0_init) 0 = .ok (.aload_n 0, 1) := by decide +kernel
theorem dX0_init_1 : decode (mc mX0_init) 1 = .ok (.invokespecial 3, 3) := by decide +kernel
theorem dX0_init_4 : decode (mc mX0_init) 4 = .ok (.aload_n 0, 1) := by decide +kernel
theorem dX0_init_5 : decode (mc mX0_init) 5 = .ok (.iconst 4, 1) := by decide +kernel
theorem dX0_init_6 : decode (mc mX0_init) 6 = .ok (.sipush 654, 3) := by decide +kernel
theorem dX0_init_9 : decode (mc mX0_init) 9 = .ok (.multianewarray 11 2, 4) := by decide +kernel
theorem dX0_init_13 : decode (mc mX0_init) 13 = .ok (.putfield 13, 3) := by decide +kernel
theorem dX0_init_16 : decode (mc mX0_init) 16 = .ok (.return_, 1) := by decide +kernel
theorem dX0_keep_0 : decode (mc mX0_keep) 0 = .ok (.aload_n 1, 1) := by decide +kernel
theorem dX0_keep_1 : decode (mc mX0_keep) 1 = .ok (.aload_n 0, 1) := by decide +kernel
theorem dX0_keep_2 : decode (mc mX0_keep) 2 = .ok (.getfield 13, 3) := by decide +kernel
theorem dX0_keep_5 : decode (mc mX0_keep) 5 = .ok (.aload_n 0, 1) := by decide +kernel
theorem dX0_keep_6 : decode (mc mX0_keep) 6 = .ok (.getfield 18, 3) := by decide +kernel
theorem dX0_keep_9 : decode (mc mX0_keep) 9 = .ok (.aaload, 1) := by decide +kernel
theorem dX0_keep_10 : decode (mc mX0_keep) 10 = .ok (.invokevirtual 22, 3) := by decide +kernel
theorem dX0_keep_13 : decode (mc mX0_keep) 13 = .ok (.aload_n 0, 1) := by decide +kernel
theorem dX0_keep_14 : decode (mc mX0_keep) 14 = .ok (.aload_n 0, 1) := by decide +kernel
theorem dX0_keep_15 : decode (mc mX0_keep) 15 = .ok (.getfield 18, 3) := by decide +kernel
theorem dX0_keep_18 : decode (mc mX0_keep) 18 = .ok (.iconst 1, 1) := by decide +kernel
theorem dX0_keep_19 : decode (mc mX0_keep) 19 = .ok (.iadd, 1) := by decide +kernel
theorem dX0_keep_20 : decode (mc mX0_keep) 20 = .ok (.iconst 4, 1) := by decide +kernel
theorem dX0_keep_21 : decode (mc mX0_keep) 21 = .ok (.irem, 1) := by decide +kernel
theorem dX0_keep_22 : decode (mc mX0_keep) 22 = .ok (.putfield 18, 3) := by decide +kernel
theorem dX0_keep_25 : decode (mc mX0_keep) 25 = .ok (.aload_n 0, 1) := by decide +kernel
theorem dX0_keep_26 : decode (mc mX0_keep) 26 = .ok (.aload_n 0, 1) := by decide +kernel
theorem dX0_keep_27 : decode (mc mX0_keep) 27 = .ok (.getfield 26, 3) := by decide +kernel
theorem dX0_keep_30 : decode (mc mX0_keep) 30 = .ok (.iconst 1, 1) := by decide +kernel
theorem dX0_keep_31 : decode (mc mX0_keep) 31 = .ok (.iadd, 1) := by decide +kernel
theorem dX0_keep_32 : decode (mc mX0_keep) 32 = .ok (.iconst 4, 1) := by decide +kernel
theorem dX0_keep_33 : decode (mc mX0_keep) 33 = .ok (.invokestatic 29, 3) := by decide +kernel
theorem dX0_keep_36 : decode (mc mX0_keep) 36 = .ok (.putfield 26, 3) := by decide +kernel
theorem dX0_keep_39 : decode (mc mX0_keep) 39 = .ok (.return_, 1) := by decide +kernel
theorem dX0_restoreInto_0 : decode (mc mX0_restoreInto) 0 = .ok (.aload_n 0, 1) := by decide +kernel
theorem dX0_restoreInto_1 : decode (mc mX0_restoreInto) 1 = .ok (.getfield 26, 3) := by decide +kernel
theorem dX0_restoreInto_4 : decode (mc mX0_restoreInto) 4 = .ok (.ifCond .le 40, 3) := by decide +kernel
theorem dX0_restoreInto_7 : decode (mc mX0_restoreInto) 7 = .ok (.aload_n 0, 1) := by decide +kernel
theorem dX0_restoreInto_8 : decode (mc mX0_restoreInto) 8 = .ok (.aload_n 0, 1) := by decide +kernel
theorem dX0_restoreInto_9 : decode (mc mX0_restoreInto) 9 = .ok (.getfield 18, 3) := by decide +kernel
theorem dX0_restoreInto_12 : decode (mc mX0_restoreInto) 12 = .ok (.iconst 4, 1) := by decide +kernel
theorem dX0_restoreInto_13 : decode (mc mX0_restoreInto) 13 = .ok (.iadd, 1) := by decide +kernel
theorem dX0_restoreInto_14 : decode (mc mX0_restoreInto) 14 = .ok (.iconst 1, 1) := by decide +kernel
theorem dX0_restoreInto_15 : decode (mc mX0_restoreInto) 15 = .ok (.isub, 1) := by decide +kernel
theorem dX0_restoreInto_16 : decode (mc mX0_restoreInto) 16 = .ok (.iconst 4, 1) := by decide +kernel
theorem dX0_restoreInto_17 : decode (mc mX0_restoreInto) 17 = .ok (.irem, 1) := by decide +kernel
theorem dX0_restoreInto_18 : decode (mc mX0_restoreInto) 18 = .ok (.putfield 18, 3) := by decide +kernel
theorem dX0_restoreInto_21 : decode (mc mX0_restoreInto) 21 = .ok (.aload_n 0, 1) := by decide +kernel
theorem dX0_restoreInto_22 : decode (mc mX0_restoreInto) 22 = .ok (.dup, 1) := by decide +kernel
theorem dX0_restoreInto_23 : decode (mc mX0_restoreInto) 23 = .ok (.getfield 26, 3) := by decide +kernel
theorem dX0_restoreInto_26 : decode (mc mX0_restoreInto) 26 = .ok (.iconst 1, 1) := by decide +kernel
theorem dX0_restoreInto_27 : decode (mc mX0_restoreInto) 27 = .ok (.isub, 1) := by decide +kernel
theorem dX0_restoreInto_28 : decode (mc mX0_restoreInto) 28 = .ok (.putfield 26, 3) := by decide +kernel
theorem dX0_restoreInto_31 : decode (mc mX0_restoreInto) 31 = .ok (.aload_n 1, 1) := by decide +kernel
theorem dX0_restoreInto_32 : decode (mc mX0_restoreInto) 32 = .ok (.aload_n 0, 1) := by decide +kernel
theorem dX0_restoreInto_33 : decode (mc mX0_restoreInto) 33 = .ok (.getfield 13, 3) := by decide +kernel
theorem dX0_restoreInto_36 : decode (mc mX0_restoreInto) 36 = .ok (.aload_n 0, 1) := by decide +kernel
theorem dX0_restoreInto_37 : decode (mc mX0_restoreInto) 37 = .ok (.getfield 18, 3) := by decide +kernel
theorem dX0_restoreInto_40 : decode (mc mX0_restoreInto) 40 = .ok (.aaload, 1) := by decide +kernel
theorem dX0_restoreInto_41 : decode (mc mX0_restoreInto) 41 = .ok (.invokevirtual 35, 3) := by decide +kernel
theorem dX0_restoreInto_44 : decode (mc mX0_restoreInto) 44 = .ok (.aload_n 0, 1) := by decide +kernel
theorem dX0_restoreInto_45 : decode (mc mX0_restoreInto) 45 = .ok (.getfield 26, 3) := by decide +kernel
theorem dX0_restoreInto_48 : decode (mc mX0_restoreInto) 48 = .ok (.ireturn, 1) := by decide +kernel
theorem dX1_init_0 : decode (mc mX1_init) 0 = .ok (.aload_n 0, 1) := by decide +kernel
theorem dX1_init_1 : decode (mc mX1_init) 1 = .ok (.invokespecial 3, 3) := by decide +kernel
theorem dX1_init_4 : decode (mc mX1_init) 4 = .ok (.aload_n 0, 1) := by decide +kernel
theorem dX1_init_5 : decode (mc mX1_init) 5 = .ok (.bipush 10, 2) := by decide +kernel
theorem dX1_init_7 : decode (mc mX1_init) 7 = .ok (.newarray .int, 2) := by decide +kernel
theorem dX1_init_9 : decode (mc mX1_init) 9 = .ok (.putfield 9, 3) := by decide +kernel
theorem dX1_init_12 : decode (mc mX1_init) 12 = .ok (.return_, 1) := by decide +kernel
theorem dX1_clear_0 : decode (mc mX1_clear) 0 = .ok (.aload_n 0, 1) := by decide +kernel
theorem dX1_clear_1 : decode (mc mX1_clear) 1 = .ok (.iconst 0, 1) := by decide +kernel
theorem dX1_clear_2 : decode (mc mX1_clear) 2 = .ok (.putfield 15, 3) := by decide +kernel
theorem dX1_clear_5 : decode (mc mX1_clear) 5 = .ok (.return_, 1) := by decide +kernel
theorem dX1_append_0 : decode (mc mX1_append) 0 = .ok (.aload_n 0, 1) := by decide +kernel
theorem dX1_append_1 : decode (mc mX1_append) 1 = .ok (.getfield 15, 3) := by decide +kernel
theorem dX1_append_4 : decode (mc mX1_append) 4 = .ok (.bipush 10, 2) := by decide +kernel
theorem dX1_append_6 : decode (mc mX1_append) 6 = .ok (.if_icmp .ge 23, 3) := by decide +kernel
theorem dX1_append_9 : decode (mc mX1_append) 9 = .ok (.aload_n 0, 1) := by decide +kernel
theorem dX1_append_10 : decode (mc mX1_append) 10 = .ok (.getfield 9, 3) := by decide +kernel
theorem dX1_append_13 : decode (mc mX1_append) 13 = .ok (.aload_n 0, 1) := by decide +kernel
theorem dX1_append_14 : decode (mc mX1_append) 14 = .ok (.getfield 15, 3) := by decide +kernel
theorem dX1_append_17 : decode (mc mX1_append) 17 = .ok (.iload_n 1, 1) := by decide +kernel
theorem dX1_append_18 : decode (mc mX1_append) 18 = .ok (.iastore, 1) := by decide +kernel
theorem dX1_append_19 : decode (mc mX1_append) 19 = .ok (.aload_n 0, 1) := by decide +kernel
theorem dX1_append_20 : decode (mc mX1_append) 20 = .ok (.dup, 1) := by decide +kernel
theorem dX1_append_21 : decode (mc mX1_append) 21 = .ok (.getfield 15, 3) := by decide +kernel
theorem dX1_append_24 : decode (mc mX1_append) 24 = .ok (.iconst 1, 1) := by decide +kernel
theorem dX1_append_25 : decode (mc mX1_append) 25 = .ok (.iadd, 1) := by decide +kernel
theorem dX1_append_26 : decode (mc mX1_append) 26 = .ok (.putfield 15, 3) := by decide +kernel
theorem dX1_append_29 : decode (mc mX1_append) 29 = .ok (.return_, 1) := by decide +kernel
theorem dX2_init_0 : decode (mc mX2_init) 0 = .ok (.aload_n 0, 1) := by decide +kernel
theorem dX2_init_1 : decode (mc mX2_init) 1 = .ok (.invokespecial 5, 3) := by decide +kernel
theorem dX2_init_4 : decode (mc mX2_init) 4 = .ok (.aload_n 0, 1) := by decide +kernel
theorem dX2_init_5 : decode (mc mX2_init) 5 = .ok (.sipush 654, 3) := by decide +kernel
theorem dX2_init_8 : decode (mc mX2_init) 8 = .ok (.newarray .int, 2) := by decide +kernel
theorem dX2_init_10 : decode (mc mX2_init) 10 = .ok (.putfield 11, 3) := by decide +kernel
theorem dX2_init_13 : decode (mc mX2_init) 13 = .ok (.aload_n 0, 1) := by decide +kernel
theorem dX2_init_14 : decode (mc mX2_init) 14 = .ok (.bipush 20, 2) := by decide +kernel
theorem dX2_init_16 : decode (mc mX2_init) 16 = .ok (.newarray .boolean, 2) := by decide +kernel
theorem dX2_init_18 : decode (mc mX2_init) 18 = .ok (.putfield 15, 3) := by decide +kernel
theorem dX2_init_21 : decode (mc mX2_init) 21 = .ok (.aload_n 0, 1) := by decide +kernel
theorem dX2_init_22 : decode (mc mX2_init) 22 = .ok (.new 19, 3) := by decide +kernel
theorem dX2_init_25 : decode (mc mX2_init) 25 = .ok (.dup, 1) := by decide +kernel
theorem dX2_init_26 : decode (mc mX2_init) 26 = .ok (.invokespecial 21, 3) := by decide +kernel
theorem dX2_init_29 : decode (mc mX2_init) 29 = .ok (.putfield 22, 3) := by decide +kernel
theorem dX2_init_32 : decode (mc mX2_init) 32 = .ok (.aload_n 0, 1) := by decide +kernel
theorem dX2_init_33 : decode (mc mX2_init) 33 = .ok (.new 19, 3) := by decide +kernel
theorem dX2_init_36 : decode (mc mX2_init) 36 = .ok (.dup, 1) := by decide +kernel
theorem dX2_init_37 : decode (mc mX2_init) 37 = .ok (.invokespecial 21, 3) := by decide +kernel
theorem dX2_init_40 : decode (mc mX2_init) 40 = .ok (.putfield 26, 3) := by decide +kernel
theorem dX2_init_43 : decode (mc mX2_init) 43 = .ok (.aload_n 0, 1) := by decide +kernel
theorem dX2_init_44 : decode (mc mX2_init) 44 = .ok (.new 29, 3) := by decide +kernel
theorem dX2_init_47 : decode (mc mX2_init) 47 = .ok (.dup, 1) := by decide +kernel
theorem dX2_init_48 : decode (mc mX2_init) 48 = .ok (.invokespecial 31, 3) := by decide +kernel
theorem dX2_init_51 : decode (mc mX2_init) 51 = .ok (.putfield 32, 3) := by decide +kernel
theorem dX2_init_54 : decode (mc mX2_init) 54 = .ok (.getstatic 36, 3) := by decide +kernel
theorem dX2_init_57 : decode (mc mX2_init) 57 = .ok (.iconst 0, 1) := by decide +kernel
theorem dX2_init_58 : decode (mc mX2_init) 58 = .ok (.aload_n 0, 1) := by decide +kernel
theorem dX2_init_59 : decode (mc mX2_init) 59 = .ok (.getfield 11, 3) := by decide +kernel
theorem dX2_init_62 : decode (mc mX2_init) 62 = .ok (.iconst 5, 1) := by decide +kernel
theorem dX2_init_63 : decode (mc mX2_init) 63 = .ok (.iconst 5, 1) := by decide +kernel
theorem dX2_init_64 : decode (mc mX2_init) 64 = .ok (.invokestatic 39, 3) := by decide +kernel
theorem dX2_init_67 : decode (mc mX2_init) 67 = .ok (.return_, 1) := by decide +kernel
theorem dX2_copyTo_0 : decode (mc mX2_copyTo) 0 = .ok (.aload_n 0, 1) := by decide +kernel
theorem dX2_copyTo_1 : decode (mc mX2_copyTo) 1 = .ok (.getfield 11, 3) := by decide +kernel
theorem dX2_copyTo_4 : decode (mc mX2_copyTo) 4 = .ok (.iconst 0, 1) := by decide +kernel
theorem dX2_copyTo_5 : decode (mc mX2_copyTo) 5 = .ok (.aload_n 1, 1) := by decide +kernel
theorem dX2_copyTo_6 : decode (mc mX2_copyTo) 6 = .ok (.iconst 0, 1) := by decide +kernel
theorem dX2_copyTo_7 : decode (mc mX2_copyTo) 7 = .ok (.sipush 654, 3) := by decide +kernel
theorem dX2_copyTo_10 : decode (mc mX2_copyTo) 10 = .ok (.invokestatic 39, 3) := by decide +kernel
theorem dX2_copyTo_13 : decode (mc mX2_copyTo) 13 = .ok (.return_, 1) := by decide +kernel
theorem dX2_copyFrom_0 : decode (mc mX2_copyFrom) 0 = .ok (.aload_n 1, 1) := by decide +kernel
theorem dX2_copyFrom_1 : decode (mc mX2_copyFrom) 1 = .ok (.iconst 0, 1) := by decide +kernel
theorem dX2_copyFrom_2 : decode (mc mX2_copyFrom) 2 = .ok (.aload_n 0, 1) := by decide +kernel
theorem dX2_copyFrom_3 : decode (mc mX2_copyFrom) 3 = .ok (.getfield 11, 3) := by decide +kernel
theorem dX2_copyFrom_6 : decode (mc mX2_copyFrom) 6 = .ok (.iconst 0, 1) := by decide +kernel
theorem dX2_copyFrom_7 : decode (mc mX2_copyFrom) 7 = .ok (.sipush 654, 3) := by decide +kernel
theorem dX2_copyFrom_10 : decode (mc mX2_copyFrom) 10 = .ok (.invokestatic 39, 3) := by decide +kernel
theorem dX2_copyFrom_13 : decode (mc mX2_copyFrom) 13 = .ok (.return_, 1) := by decide +kernel
theorem dX2_memberCell_0 : decode (mc mX2_memberCell) 0 = .ok (.bipush 10, 2) := by decide +kernel
theorem dX2_memberCell_2 : decode (mc mX2_memberCell) 2 = .ok (.iload_n 0, 1) := by decide +kernel
theorem dX2_memberCell_3 : decode (mc mX2_memberCell) 3 = .ok (.iconst 2, 1) := by decide +kernel
theorem dX2_memberCell_4 : decode (mc mX2_memberCell) 4 = .ok (.imul, 1) := by decide +kernel
theorem dX2_memberCell_5 : decode (mc mX2_memberCell) 5 = .ok (.iadd, 1) := by decide +kernel
theorem dX2_memberCell_6 : decode (mc mX2_memberCell) 6 = .ok (.iload_n 1, 1) := by decide +kernel
theorem dX2_memberCell_7 : decode (mc mX2_memberCell) 7 = .ok (.iadd, 1) := by decide +kernel
theorem dX2_memberCell_8 : decode (mc mX2_memberCell) 8 = .ok (.ireturn, 1) := by decide +kernel
theorem dX2_phraseCell_0 : decode (mc mX2_phraseCell) 0 = .ok (.bipush 22, 2) := by decide +kernel
theorem dX2_phraseCell_2 : decode (mc mX2_phraseCell) 2 = .ok (.iload_n 0, 1) := by decide +kernel
theorem dX2_phraseCell_3 : decode (mc mX2_phraseCell) 3 = .ok (.bipush 16, 2) := by decide +kernel
theorem dX2_phraseCell_5 : decode (mc mX2_phraseCell) 5 = .ok (.imul, 1) := by decide +kernel
theorem dX2_phraseCell_6 : decode (mc mX2_phraseCell) 6 = .ok (.iadd, 1) := by decide +kernel
theorem dX2_phraseCell_7 : decode (mc mX2_phraseCell) 7 = .ok (.iload_n 1, 1) := by decide +kernel
theorem dX2_phraseCell_8 : decode (mc mX2_phraseCell) 8 = .ok (.iadd, 1) := by decide +kernel
theorem dX2_phraseCell_9 : decode (mc mX2_phraseCell) 9 = .ok (.ireturn, 1) := by decide +kernel
theorem dX2_noteCell_0 : decode (mc mX2_noteCell) 0 = .ok (.sipush 342, 3) := by decide +kernel
theorem dX2_noteCell_3 : decode (mc mX2_noteCell) 3 = .ok (.iload_n 0, 1) := by decide +kernel
theorem dX2_noteCell_4 : decode (mc mX2_noteCell) 4 = .ok (.bipush 13, 2) := by decide +kernel
theorem dX2_noteCell_6 : decode (mc mX2_noteCell) 6 = .ok (.imul, 1) := by decide +kernel
theorem dX2_noteCell_7 : decode (mc mX2_noteCell) 7 = .ok (.iadd, 1) := by decide +kernel
theorem dX2_noteCell_8 : decode (mc mX2_noteCell) 8 = .ok (.iload_n 1, 1) := by decide +kernel
theorem dX2_noteCell_9 : decode (mc mX2_noteCell) 9 = .ok (.iadd, 1) := by decide +kernel
theorem dX2_noteCell_10 : decode (mc mX2_noteCell) 10 = .ok (.ireturn, 1) := by decide +kernel
theorem dX2_members_0 : decode (mc mX2_members) 0 = .ok (.aload_n 0, 1) := by decide +kernel
theorem dX2_members_1 : decode (mc mX2_members) 1 = .ok (.getfield 11, 3) := by decide +kernel
theorem dX2_members_4 : decode (mc mX2_members) 4 = .ok (.iconst 0, 1) := by decide +kernel
theorem dX2_members_5 : decode (mc mX2_members) 5 = .ok (.iaload, 1) := by decide +kernel
theorem dX2_members_6 : decode (mc mX2_members) 6 = .ok (.ireturn, 1) := by decide +kernel
theorem dX2_phrases_0 : decode (mc mX2_phrases) 0 = .ok (.aload_n 0, 1) := by decide +kernel
theorem dX2_phrases_1 : decode (mc mX2_phrases) 1 = .ok (.getfield 11, 3) := by decide +kernel
theorem dX2_phrases_4 : decode (mc mX2_phrases) 4 = .ok (.iconst 1, 1) := by decide +kernel
theorem dX2_phrases_5 : decode (mc mX2_phrases) 5 = .ok (.iaload, 1) := by decide +kernel
theorem dX2_phrases_6 : decode (mc mX2_phrases) 6 = .ok (.ireturn, 1) := by decide +kernel
theorem dX2_notes_0 : decode (mc mX2_notes) 0 = .ok (.aload_n 0, 1) := by decide +kernel
theorem dX2_notes_1 : decode (mc mX2_notes) 1 = .ok (.getfield 11, 3) := by decide +kernel
theorem dX2_notes_4 : decode (mc mX2_notes) 4 = .ok (.iconst 2, 1) := by decide +kernel
theorem dX2_notes_5 : decode (mc mX2_notes) 5 = .ok (.iaload, 1) := by decide +kernel
theorem dX2_notes_6 : decode (mc mX2_notes) 6 = .ok (.ireturn, 1) := by decide +kernel
theorem dX2_tick_0 : decode (mc mX2_tick) 0 = .ok (.aload_n 0, 1) := by decide +kernel
theorem dX2_tick_1 : decode (mc mX2_tick) 1 = .ok (.getfield 11, 3) := by decide +kernel
theorem dX2_tick_4 : decode (mc mX2_tick) 4 = .ok (.iconst 3, 1) := by decide +kernel
theorem dX2_tick_5 : decode (mc mX2_tick) 5 = .ok (.iaload, 1) := by decide +kernel
theorem dX2_tick_6 : decode (mc mX2_tick) 6 = .ok (.ireturn, 1) := by decide +kernel
theorem dX2_hasMember_0 : decode (mc mX2_hasMember) 0 = .ok (.iload_n 1, 1) := by decide +kernel
theorem dX2_hasMember_1 : decode (mc mX2_hasMember) 1 = .ok (.ifCond .lt 15, 3) := by decide +kernel
theorem dX2_hasMember_4 : decode (mc mX2_hasMember) 4 = .ok (.iload_n 1, 1) := by decide +kernel
theorem dX2_hasMember_5 : decode (mc mX2_hasMember) 5 = .ok (.aload_n 0, 1) := by decide +kernel
theorem dX2_hasMember_6 : decode (mc mX2_hasMember) 6 = .ok (.invokevirtual 45, 3) := by decide +kernel
theorem dX2_hasMember_9 : decode (mc mX2_hasMember) 9 = .ok (.if_icmp .ge 7, 3) := by decide +kernel
theorem dX2_hasMember_12 : decode (mc mX2_hasMember) 12 = .ok (.iconst 1, 1) := by decide +kernel
theorem dX2_hasMember_13 : decode (mc mX2_hasMember) 13 = .ok (.goto 4, 3) := by decide +kernel
theorem dX2_hasMember_16 : decode (mc mX2_hasMember) 16 = .ok (.iconst 0, 1) := by decide +kernel
theorem dX2_hasMember_17 : decode (mc mX2_hasMember) 17 = .ok (.ireturn, 1) := by decide +kernel
theorem dX2_hasPhrase_0 : decode (mc mX2_hasPhrase) 0 = .ok (.iload_n 1, 1) := by decide +kernel
theorem dX2_hasPhrase_1 : decode (mc mX2_hasPhrase) 1 = .ok (.ifCond .lt 15, 3) := by decide +kernel
theorem dX2_hasPhrase_4 : decode (mc mX2_hasPhrase) 4 = .ok (.iload_n 1, 1) := by decide +kernel
theorem dX2_hasPhrase_5 : decode (mc mX2_hasPhrase) 5 = .ok (.aload_n 0, 1) := by decide +kernel
theorem dX2_hasPhrase_6 : decode (mc mX2_hasPhrase) 6 = .ok (.invokevirtual 49, 3) := by decide +kernel
theorem dX2_hasPhrase_9 : decode (mc mX2_hasPhrase) 9 = .ok (.if_icmp .ge 7, 3) := by decide +kernel
theorem dX2_hasPhrase_12 : decode (mc mX2_hasPhrase) 12 = .ok (.iconst 1, 1) := by decide +kernel
theorem dX2_hasPhrase_13 : decode (mc mX2_hasPhrase) 13 = .ok (.goto 4, 3) := by decide +kernel
theorem dX2_hasPhrase_16 : decode (mc mX2_hasPhrase) 16 = .ok (.iconst 0, 1) := by decide +kernel
theorem dX2_hasPhrase_17 : decode (mc mX2_hasPhrase) 17 = .ok (.ireturn, 1) := by decide +kernel
theorem dX2_hasNote_0 : decode (mc mX2_hasNote) 0 = .ok (.iload_n 1, 1) := by decide +kernel
theorem dX2_hasNote_1 : decode (mc mX2_hasNote) 1 = .ok (.ifCond .lt 15, 3) := by decide +kernel
theorem dX2_hasNote_4 : decode (mc mX2_hasNote) 4 = .ok (.iload_n 1, 1) := by decide +kernel
theorem dX2_hasNote_5 : decode (mc mX2_hasNote) 5 = .ok (.aload_n 0, 1) := by decide +kernel
theorem dX2_hasNote_6 : decode (mc mX2_hasNote) 6 = .ok (.invokevirtual 52, 3) := by decide +kernel
theorem dX2_hasNote_9 : decode (mc mX2_hasNote) 9 = .ok (.if_icmp .ge 7, 3) := by decide +kernel
theorem dX2_hasNote_12 : decode (mc mX2_hasNote) 12 = .ok (.iconst 1, 1) := by decide +kernel
theorem dX2_hasNote_13 : decode (mc mX2_hasNote) 13 = .ok (.goto 4, 3) := by decide +kernel
theorem dX2_hasNote_16 : decode (mc mX2_hasNote) 16 = .ok (.iconst 0, 1) := by decide +kernel
theorem dX2_hasNote_17 : decode (mc mX2_hasNote) 17 = .ok (.ireturn, 1) := by decide +kernel
theorem dX2_settingOf_0 : decode (mc mX2_settingOf) 0 = .ok (.aload_n 0, 1) := by decide +kernel
theorem dX2_settingOf_1 : decode (mc mX2_settingOf) 1 = .ok (.getfield 11, 3) := by decide +kernel
theorem dX2_settingOf_4 : decode (mc mX2_settingOf) 4 = .ok (.iconst 5, 1) := by decide +kernel
theorem dX2_settingOf_5 : decode (mc mX2_settingOf) 5 = .ok (.iload_n 1, 1) := by decide +kernel
theorem dX2_settingOf_6 : decode (mc mX2_settingOf) 6 = .ok (.iadd, 1) := by decide +kernel
theorem dX2_settingOf_7 : decode (mc mX2_settingOf) 7 = .ok (.iaload, 1) := by decide +kernel
theorem dX2_settingOf_8 : decode (mc mX2_settingOf) 8 = .ok (.ireturn, 1) := by decide +kernel
theorem dX2_changeSetting_0 : decode (mc mX2_changeSetting) 0 = .ok (.aload_n 0, 1) := by decide +kernel
theorem dX2_changeSetting_1 : decode (mc mX2_changeSetting) 1 = .ok (.getfield 11, 3) := by decide +kernel
theorem dX2_changeSetting_4 : decode (mc mX2_changeSetting) 4 = .ok (.iconst 5, 1) := by decide +kernel
theorem dX2_changeSetting_5 : decode (mc mX2_changeSetting) 5 = .ok (.iload_n 1, 1) := by decide +kernel
theorem dX2_changeSetting_6 : decode (mc mX2_changeSetting) 6 = .ok (.iadd, 1) := by decide +kernel
theorem dX2_changeSetting_7 : decode (mc mX2_changeSetting) 7 = .ok (.iload_n 2, 1) := by decide +kernel
theorem dX2_changeSetting_8 : decode (mc mX2_changeSetting) 8 = .ok (.iastore, 1) := by decide +kernel
theorem dX2_changeSetting_9 : decode (mc mX2_changeSetting) 9 = .ok (.return_, 1) := by decide +kernel
theorem dX2_moveTick_0 : decode (mc mX2_moveTick) 0 = .ok (.aload_n 0, 1) := by decide +kernel
theorem dX2_moveTick_1 : decode (mc mX2_moveTick) 1 = .ok (.getfield 11, 3) := by decide +kernel
theorem dX2_moveTick_4 : decode (mc mX2_moveTick) 4 = .ok (.iconst 3, 1) := by decide +kernel
theorem dX2_moveTick_5 : decode (mc mX2_moveTick) 5 = .ok (.dup2, 1) := by decide +kernel
theorem dX2_moveTick_6 : decode (mc mX2_moveTick) 6 = .ok (.iaload, 1) := by decide +kernel
theorem dX2_moveTick_7 : decode (mc mX2_moveTick) 7 = .ok (.iload_n 1, 1) := by decide +kernel
theorem dX2_moveTick_8 : decode (mc mX2_moveTick) 8 = .ok (.iadd, 1) := by decide +kernel
theorem dX2_moveTick_9 : decode (mc mX2_moveTick) 9 = .ok (.iastore, 1) := by decide +kernel
theorem dX2_moveTick_10 : decode (mc mX2_moveTick) 10 = .ok (.aload_n 0, 1) := by decide +kernel
theorem dX2_moveTick_11 : decode (mc mX2_moveTick) 11 = .ok (.getfield 11, 3) := by decide +kernel
theorem dX2_moveTick_14 : decode (mc mX2_moveTick) 14 = .ok (.iconst 3, 1) := by decide +kernel
theorem dX2_moveTick_15 : decode (mc mX2_moveTick) 15 = .ok (.iaload, 1) := by decide +kernel
theorem dX2_moveTick_16 : decode (mc mX2_moveTick) 16 = .ok (.ireturn, 1) := by decide +kernel
theorem dX2_startMember_0 : decode (mc mX2_startMember) 0 = .ok (.aload_n 0, 1) := by decide +kernel
theorem dX2_startMember_1 : decode (mc mX2_startMember) 1 = .ok (.getfield 11, 3) := by decide +kernel
theorem dX2_startMember_4 : decode (mc mX2_startMember) 4 = .ok (.iconst 0, 1) := by decide +kernel
theorem dX2_startMember_5 : decode (mc mX2_startMember) 5 = .ok (.iaload, 1) := by decide +kernel
theorem dX2_startMember_6 : decode (mc mX2_startMember) 6 = .ok (.istore_n 1, 1) := by decide +kernel
theorem dX2_startMember_7 : decode (mc mX2_startMember) 7 = .ok (.aload_n 0, 1) := by decide +kernel
theorem dX2_startMember_8 : decode (mc mX2_startMember) 8 = .ok (.getfield 11, 3) := by decide +kernel
theorem dX2_startMember_11 : decode (mc mX2_startMember) 11 = .ok (.iconst 0, 1) := by decide +kernel
theorem dX2_startMember_12 : decode (mc mX2_startMember) 12 = .ok (.dup2, 1) := by decide +kernel
theorem dX2_startMember_13 : decode (mc mX2_startMember) 13 = .ok (.iaload, 1) := by decide +kernel
theorem dX2_startMember_14 : decode (mc mX2_startMember) 14 = .ok (.iconst 1, 1) := by decide +kernel
theorem dX2_startMember_15 : decode (mc mX2_startMember) 15 = .ok (.iadd, 1) := by decide +kernel
theorem dX2_startMember_16 : decode (mc mX2_startMember) 16 = .ok (.iastore, 1) := by decide +kernel
theorem dX2_startMember_17 : decode (mc mX2_startMember) 17 = .ok (.aload_n 0, 1) := by decide +kernel
theorem dX2_startMember_18 : decode (mc mX2_startMember) 18 = .ok (.getfield 11, 3) := by decide +kernel
theorem dX2_startMember_21 : decode (mc mX2_startMember) 21 = .ok (.iload_n 1, 1) := by decide +kernel
theorem dX2_startMember_22 : decode (mc mX2_startMember) 22 = .ok (.iconst 0, 1) := by decide +kernel
theorem dX2_startMember_23 : decode (mc mX2_startMember) 23 = .ok (.invokestatic 55, 3) := by decide +kernel
theorem dX2_startMember_26 : decode (mc mX2_startMember) 26 = .ok (.bipush 40, 2) := by decide +kernel
theorem dX2_startMember_28 : decode (mc mX2_startMember) 28 = .ok (.iastore, 1) := by decide +kernel
theorem dX2_startMember_29 : decode (mc mX2_startMember) 29 = .ok (.aload_n 0, 1) := by decide +kernel
theorem dX2_startMember_30 : decode (mc mX2_startMember) 30 = .ok (.getfield 11, 3) := by decide +kernel
theorem dX2_startMember_33 : decode (mc mX2_startMember) 33 = .ok (.iload_n 1, 1) := by decide +kernel
theorem dX2_startMember_34 : decode (mc mX2_startMember) 34 = .ok (.iconst 1, 1) := by decide +kernel
theorem dX2_startMember_35 : decode (mc mX2_startMember) 35 = .ok (.invokestatic 55, 3) := by decide +kernel
theorem dX2_startMember_38 : decode (mc mX2_startMember) 38 = .ok (.iconst 0, 1) := by decide +kernel
theorem dX2_startMember_39 : decode (mc mX2_startMember) 39 = .ok (.iastore, 1) := by decide +kernel
theorem dX2_startMember_40 : decode (mc mX2_startMember) 40 = .ok (.iload_n 1, 1) := by decide +kernel
theorem dX2_startMember_41 : decode (mc mX2_startMember) 41 = .ok (.ireturn, 1) := by decide +kernel
theorem dX2_priceOf_0 : decode (mc mX2_priceOf) 0 = .ok (.aload_n 0, 1) := by decide +kernel
theorem dX2_priceOf_1 : decode (mc mX2_priceOf) 1 = .ok (.getfield 11, 3) := by decide +kernel
theorem dX2_priceOf_4 : decode (mc mX2_priceOf) 4 = .ok (.iload_n 1, 1) := by decide +kernel
theorem dX2_priceOf_5 : decode (mc mX2_priceOf) 5 = .ok (.iconst 0, 1) := by decide +kernel
theorem dX2_priceOf_6 : decode (mc mX2_priceOf) 6 = .ok (.invokestatic 55, 3) := by decide +kernel
theorem dX2_priceOf_9 : decode (mc mX2_priceOf) 9 = .ok (.iaload, 1) := by decide +kernel
theorem dX2_priceOf_10 : decode (mc mX2_priceOf) 10 = .ok (.ireturn, 1) := by decide +kernel
theorem dX2_changePrice_0 : decode (mc mX2_changePrice) 0 = .ok (.aload_n 0, 1) := by decide +kernel
theorem dX2_changePrice_1 : decode (mc mX2_changePrice) 1 = .ok (.getfield 11, 3) := by decide +kernel
theorem dX2_changePrice_4 : decode (mc mX2_changePrice) 4 = .ok (.iload_n 1, 1) := by decide +kernel
theorem dX2_changePrice_5 : decode (mc mX2_changePrice) 5 = .ok (.iconst 0, 1) := by decide +kernel
theorem dX2_changePrice_6 : decode (mc mX2_changePrice) 6 = .ok (.invokestatic 55, 3) := by decide +kernel
theorem dX2_changePrice_9 : decode (mc mX2_changePrice) 9 = .ok (.iload_n 2, 1) := by decide +kernel
theorem dX2_changePrice_10 : decode (mc mX2_changePrice) 10 = .ok (.iastore, 1) := by decide +kernel
theorem dX2_changePrice_11 : decode (mc mX2_changePrice) 11 = .ok (.return_, 1) := by decide +kernel
theorem dX2_memberProperty_0 : decode (mc mX2_memberProperty) 0 = .ok (.iload_n 2, 1) := by decide +kernel
theorem dX2_memberProperty_1 : decode (mc mX2_memberProperty) 1 = .ok (.tableswitch 54 0 3 #[31, 31, 42, 48], 31) := by decide +kernel
theorem dX2_memberProperty_32 : decode (mc mX2_memberProperty) 32 = .ok (.aload_n 0, 1) := by decide +kernel
theorem dX2_memberProperty_33 : decode (mc mX2_memberProperty) 33 = .ok (.getfield 11, 3) := by decide +kernel
theorem dX2_memberProperty_36 : decode (mc mX2_memberProperty) 36 = .ok (.iload_n 1, 1) := by decide +kernel
theorem dX2_memberProperty_37 : decode (mc mX2_memberProperty) 37 = .ok (.iload_n 2, 1) := by decide +kernel
theorem dX2_memberProperty_38 : decode (mc mX2_memberProperty) 38 = .ok (.invokestatic 55, 3) := by decide +kernel
theorem dX2_memberProperty_41 : decode (mc mX2_memberProperty) 41 = .ok (.iaload, 1) := by decide +kernel
theorem dX2_memberProperty_42 : decode (mc mX2_memberProperty) 42 = .ok (.ireturn, 1) := by decide +kernel
theorem dX2_memberProperty_43 : decode (mc mX2_memberProperty) 43 = .ok (.aload_n 0, 1) := by decide +kernel
theorem dX2_memberProperty_44 : decode (mc mX2_memberProperty) 44 = .ok (.iload_n 1, 1) := by decide +kernel
theorem dX2_memberProperty_45 : decode (mc mX2_memberProperty) 45 = .ok (.invokevirtual 59, 3) := by decide +kernel
theorem dX2_memberProperty_48 : decode (mc mX2_memberProperty) 48 = .ok (.ireturn, 1) := by decide +kernel
theorem dX2_memberProperty_49 : decode (mc mX2_memberProperty) 49 = .ok (.aload_n 0, 1) := by decide +kernel
theorem dX2_memberProperty_50 : decode (mc mX2_memberProperty) 50 = .ok (.iload_n 1, 1) := by decide +kernel
theorem dX2_memberProperty_51 : decode (mc mX2_memberProperty) 51 = .ok (.invokevirtual 63, 3) := by decide +kernel
theorem dX2_memberProperty_54 : decode (mc mX2_memberProperty) 54 = .ok (.ireturn, 1) := by decide +kernel
theorem dX2_memberProperty_55 : decode (mc mX2_memberProperty) 55 = .ok (.aload_n 0, 1) := by decide +kernel
theorem dX2_memberProperty_56 : decode (mc mX2_memberProperty) 56 = .ok (.iload_n 1, 1) := by decide +kernel
theorem dX2_memberProperty_57 : decode (mc mX2_memberProperty) 57 = .ok (.invokevirtual 66, 3) := by decide +kernel
theorem dX2_memberProperty_60 : decode (mc mX2_memberProperty) 60 = .ok (.ireturn, 1) := by decide +kernel
theorem dX2_countOwned_0 : decode (mc mX2_countOwned) 0 = .ok (.iconst 0, 1) := by decide +kernel
theorem dX2_countOwned_1 : decode (mc mX2_countOwned) 1 = .ok (.istore_n 2, 1) := by decide +kernel
theorem dX2_countOwned_2 : decode (mc mX2_countOwned) 2 = .ok (.iconst 0, 1) := by decide +kernel
theorem dX2_countOwned_3 : decode (mc mX2_countOwned) 3 = .ok (.istore_n 3, 1) := by decide +kernel
theorem dX2_countOwned_4 : decode (mc mX2_countOwned) 4 = .ok (.iload_n 3, 1) := by decide +kernel
theorem dX2_countOwned_5 : decode (mc mX2_countOwned) 5 = .ok (.aload_n 0, 1) := by decide +kernel
theorem dX2_countOwned_6 : decode (mc mX2_countOwned) 6 = .ok (.invokevirtual 49, 3) := by decide +kernel
theorem dX2_countOwned_9 : decode (mc mX2_countOwned) 9 = .ok (.if_icmp .ge 29, 3) := by decide +kernel
theorem dX2_countOwned_12 : decode (mc mX2_countOwned) 12 = .ok (.aload_n 0, 1) := by decide +kernel
theorem dX2_countOwned_13 : decode (mc mX2_countOwned) 13 = .ok (.iload_n 3, 1) := by decide +kernel
theorem dX2_countOwned_14 : decode (mc mX2_countOwned) 14 = .ok (.invokevirtual 69, 3) := by decide +kernel
theorem dX2_countOwned_17 : decode (mc mX2_countOwned) 17 = .ok (.ifCond .eq 15, 3) := by decide +kernel
theorem dX2_countOwned_20 : decode (mc mX2_countOwned) 20 = .ok (.aload_n 0, 1) := by decide +kernel
theorem dX2_countOwned_21 : decode (mc mX2_countOwned) 21 = .ok (.iload_n 3, 1) := by decide +kernel
theorem dX2_countOwned_22 : decode (mc mX2_countOwned) 22 = .ok (.invokevirtual 73, 3) := by decide +kernel
theorem dX2_countOwned_25 : decode (mc mX2_countOwned) 25 = .ok (.iload_n 1, 1) := by decide +kernel
theorem dX2_countOwned_26 : decode (mc mX2_countOwned) 26 = .ok (.if_icmp .ne 6, 3) := by decide +kernel
theorem dX2_countOwned_29 : decode (mc mX2_countOwned) 29 = .ok (.iinc 2 1, 3) := by decide +kernel
theorem dX2_countOwned_32 : decode (mc mX2_countOwned) 32 = .ok (.iinc 3 1, 3) := by decide +kernel
theorem dX2_countOwned_35 : decode (mc mX2_countOwned) 35 = .ok (.goto (-31), 3) := by decide +kernel
theorem dX2_countOwned_38 : decode (mc mX2_countOwned) 38 = .ok (.iload_n 2, 1) := by decide +kernel
theorem dX2_countOwned_39 : decode (mc mX2_countOwned) 39 = .ok (.ireturn, 1) := by decide +kernel
theorem dX2_countUsesNoted_0 : decode (mc mX2_countUsesNoted) 0 = .ok (.iconst 0, 1) := by decide +kernel
theorem dX2_countUsesNoted_1 : decode (mc mX2_countUsesNoted) 1 = .ok (.istore_n 2, 1) := by decide +kernel
theorem dX2_countUsesNoted_2 : decode (mc mX2_countUsesNoted) 2 = .ok (.iconst 0, 1) := by decide +kernel
theorem dX2_countUsesNoted_3 : decode (mc mX2_countUsesNoted) 3 = .ok (.istore_n 3, 1) := by decide +kernel
theorem dX2_countUsesNoted_4 : decode (mc mX2_countUsesNoted) 4 = .ok (.iload_n 3, 1) := by decide +kernel
theorem dX2_countUsesNoted_5 : decode (mc mX2_countUsesNoted) 5 = .ok (.aload_n 0, 1) := by decide +kernel
theorem dX2_countUsesNoted_6 : decode (mc mX2_countUsesNoted) 6 = .ok (.invokevirtual 52, 3) := by decide +kernel
theorem dX2_countUsesNoted_9 : decode (mc mX2_countUsesNoted) 9 = .ok (.if_icmp .ge 22, 3) := by decide +kernel
theorem dX2_countUsesNoted_12 : decode (mc mX2_countUsesNoted) 12 = .ok (.aload_n 0, 1) := by decide +kernel
theorem dX2_countUsesNoted_13 : decode (mc mX2_countUsesNoted) 13 = .ok (.iload_n 3, 1) := by decide +kernel
theorem dX2_countUsesNoted_14 : decode (mc mX2_countUsesNoted) 14 = .ok (.iconst 0, 1) := by decide +kernel
theorem dX2_countUsesNoted_15 : decode (mc mX2_countUsesNoted) 15 = .ok (.invokevirtual 76, 3) := by decide +kernel
theorem dX2_countUsesNoted_18 : decode (mc mX2_countUsesNoted) 18 = .ok (.iload_n 1, 1) := by decide +kernel
theorem dX2_countUsesNoted_19 : decode (mc mX2_countUsesNoted) 19 = .ok (.if_icmp .ne 6, 3) := by decide +kernel
theorem dX2_countUsesNoted_22 : decode (mc mX2_countUsesNoted) 22 = .ok (.iinc 2 1, 3) := by decide +kernel
theorem dX2_countUsesNoted_25 : decode (mc mX2_countUsesNoted) 25 = .ok (.iinc 3 1, 3) := by decide +kernel
theorem dX2_countUsesNoted_28 : decode (mc mX2_countUsesNoted) 28 = .ok (.goto (-24), 3) := by decide +kernel
theorem dX2_countUsesNoted_31 : decode (mc mX2_countUsesNoted) 31 = .ok (.iload_n 2, 1) := by decide +kernel
theorem dX2_countUsesNoted_32 : decode (mc mX2_countUsesNoted) 32 = .ok (.ireturn, 1) := by decide +kernel
theorem dX2_sumGot_0 : decode (mc mX2_sumGot) 0 = .ok (.iconst 0, 1) := by decide +kernel
theorem dX2_sumGot_1 : decode (mc mX2_sumGot) 1 = .ok (.istore_n 2, 1) := by decide +kernel
theorem dX2_sumGot_2 : decode (mc mX2_sumGot) 2 = .ok (.iconst 0, 1) := by decide +kernel
theorem dX2_sumGot_3 : decode (mc mX2_sumGot) 3 = .ok (.istore_n 3, 1) := by decide +kernel
theorem dX2_sumGot_4 : decode (mc mX2_sumGot) 4 = .ok (.iload_n 3, 1) := by decide +kernel
theorem dX2_sumGot_5 : decode (mc mX2_sumGot) 5 = .ok (.aload_n 0, 1) := by decide +kernel
theorem dX2_sumGot_6 : decode (mc mX2_sumGot) 6 = .ok (.invokevirtual 52, 3) := by decide +kernel
theorem dX2_sumGot_9 : decode (mc mX2_sumGot) 9 = .ok (.if_icmp .ge 29, 3) := by decide +kernel
theorem dX2_sumGot_12 : decode (mc mX2_sumGot) 12 = .ok (.aload_n 0, 1) := by decide +kernel
theorem dX2_sumGot_13 : decode (mc mX2_sumGot) 13 = .ok (.iload_n 3, 1) := by decide +kernel
theorem dX2_sumGot_14 : decode (mc mX2_sumGot) 14 = .ok (.invokevirtual 79, 3) := by decide +kernel
theorem dX2_sumGot_17 : decode (mc mX2_sumGot) 17 = .ok (.ifCond .ne 15, 3) := by decide +kernel
theorem dX2_sumGot_20 : decode (mc mX2_sumGot) 20 = .ok (.iload_n 2, 1) := by decide +kernel
theorem dX2_sumGot_21 : decode (mc mX2_sumGot) 21 = .ok (.aload_n 0, 1) := by decide +kernel
theorem dX2_sumGot_22 : decode (mc mX2_sumGot) 22 = .ok (.iload_n 3, 1) := by decide +kernel
theorem dX2_sumGot_23 : decode (mc mX2_sumGot) 23 = .ok (.bipush 7, 2) := by decide +kernel
theorem dX2_sumGot_25 : decode (mc mX2_sumGot) 25 = .ok (.iload_n 1, 1) := by decide +kernel
theorem dX2_sumGot_26 : decode (mc mX2_sumGot) 26 = .ok (.iadd, 1) := by decide +kernel
theorem dX2_sumGot_27 : decode (mc mX2_sumGot) 27 = .ok (.invokevirtual 76, 3) := by decide +kernel
theorem dX2_sumGot_30 : decode (mc mX2_sumGot) 30 = .ok (.iadd, 1) := by decide +kernel
theorem dX2_sumGot_31 : decode (mc mX2_sumGot) 31 = .ok (.istore_n 2, 1) := by decide +kernel
theorem dX2_sumGot_32 : decode (mc mX2_sumGot) 32 = .ok (.iinc 3 1, 3) := by decide +kernel
theorem dX2_sumGot_35 : decode (mc mX2_sumGot) 35 = .ok (.goto (-31), 3) := by decide +kernel
theorem dX2_sumGot_38 : decode (mc mX2_sumGot) 38 = .ok (.iload_n 2, 1) := by decide +kernel
theorem dX2_sumGot_39 : decode (mc mX2_sumGot) 39 = .ok (.ireturn, 1) := by decide +kernel
theorem dX2_countOf_0 : decode (mc mX2_countOf) 0 = .ok (.iload_n 1, 1) := by decide +kernel
theorem dX2_countOf_1 : decode (mc mX2_countOf) 1 = .ok (.tableswitch 89 0 7 #[47, 52, 57, 62, 67, 72, 77, 84], 47) := by decide +kernel
theorem dX2_countOf_48 : decode (mc mX2_countOf) 48 = .ok (.aload_n 0, 1) := by decide +kernel
theorem dX2_countOf_49 : decode (mc mX2_countOf) 49 = .ok (.invokevirtual 45, 3) := by decide +kernel
theorem dX2_countOf_52 : decode (mc mX2_countOf) 52 = .ok (.ireturn, 1) := by decide +kernel
theorem dX2_countOf_53 : decode (mc mX2_countOf) 53 = .ok (.aload_n 0, 1) := by decide +kernel
theorem dX2_countOf_54 : decode (mc mX2_countOf) 54 = .ok (.invokevirtual 49, 3) := by decide +kernel
theorem dX2_countOf_57 : decode (mc mX2_countOf) 57 = .ok (.ireturn, 1) := by decide +kernel
theorem dX2_countOf_58 : decode (mc mX2_countOf) 58 = .ok (.aload_n 0, 1) := by decide +kernel
theorem dX2_countOf_59 : decode (mc mX2_countOf) 59 = .ok (.invokevirtual 82, 3) := by decide +kernel
theorem dX2_countOf_62 : decode (mc mX2_countOf) 62 = .ok (.ireturn, 1) := by decide +kernel
theorem dX2_countOf_63 : decode (mc mX2_countOf) 63 = .ok (.aload_n 0, 1) := by decide +kernel
theorem dX2_countOf_64 : decode (mc mX2_countOf) 64 = .ok (.invokevirtual 52, 3) := by decide +kernel
theorem dX2_countOf_67 : decode (mc mX2_countOf) 67 = .ok (.ireturn, 1) := by decide +kernel
theorem dX2_countOf_68 : decode (mc mX2_countOf) 68 = .ok (.aload_n 0, 1) := by decide +kernel
theorem dX2_countOf_69 : decode (mc mX2_countOf) 69 = .ok (.invokevirtual 85, 3) := by decide +kernel
theorem dX2_countOf_72 : decode (mc mX2_countOf) 72 = .ok (.ireturn, 1) := by decide +kernel
theorem dX2_countOf_73 : decode (mc mX2_countOf) 73 = .ok (.aload_n 0, 1) := by decide +kernel
theorem dX2_countOf_74 : decode (mc mX2_countOf) 74 = .ok (.invokevirtual 88, 3) := by decide +kernel
theorem dX2_countOf_77 : decode (mc mX2_countOf) 77 = .ok (.ireturn, 1) := by decide +kernel
theorem dX2_countOf_78 : decode (mc mX2_countOf) 78 = .ok (.aload_n 0, 1) := by decide +kernel
theorem dX2_countOf_79 : decode (mc mX2_countOf) 79 = .ok (.getfield 11, 3) := by decide +kernel
theorem dX2_countOf_82 : decode (mc mX2_countOf) 82 = .ok (.iconst 4, 1) := by decide +kernel
theorem dX2_countOf_83 : decode (mc mX2_countOf) 83 = .ok (.iaload, 1) := by decide +kernel
theorem dX2_countOf_84 : decode (mc mX2_countOf) 84 = .ok (.ireturn, 1) := by decide +kernel
theorem dX2_countOf_85 : decode (mc mX2_countOf) 85 = .ok (.aload_n 0, 1) := by decide +kernel
theorem dX2_countOf_86 : decode (mc mX2_countOf) 86 = .ok (.invokevirtual 91, 3) := by decide +kernel
theorem dX2_countOf_89 : decode (mc mX2_countOf) 89 = .ok (.ireturn, 1) := by decide +kernel
theorem dX2_countOf_90 : decode (mc mX2_countOf) 90 = .ok (.aload_n 0, 1) := by decide +kernel
theorem dX2_countOf_91 : decode (mc mX2_countOf) 91 = .ok (.iload_n 1, 1) := by decide +kernel
theorem dX2_countOf_92 : decode (mc mX2_countOf) 92 = .ok (.bipush 8, 2) := by decide +kernel
theorem dX2_countOf_94 : decode (mc mX2_countOf) 94 = .ok (.isub, 1) := by decide +kernel
theorem dX2_countOf_95 : decode (mc mX2_countOf) 95 = .ok (.invokevirtual 94, 3) := by decide +kernel
theorem dX2_countOf_98 : decode (mc mX2_countOf) 98 = .ok (.ireturn, 1) := by decide +kernel
theorem dX2_countLive_0 : decode (mc mX2_countLive) 0 = .ok (.iconst 0, 1) := by decide +kernel
theorem dX2_countLive_1 : decode (mc mX2_countLive) 1 = .ok (.istore_n 1, 1) := by decide +kernel
theorem dX2_countLive_2 : decode (mc mX2_countLive) 2 = .ok (.iconst 0, 1) := by decide +kernel
theorem dX2_countLive_3 : decode (mc mX2_countLive) 3 = .ok (.istore_n 2, 1) := by decide +kernel
theorem dX2_countLive_4 : decode (mc mX2_countLive) 4 = .ok (.iload_n 2, 1) := by decide +kernel
theorem dX2_countLive_5 : decode (mc mX2_countLive) 5 = .ok (.aload_n 0, 1) := by decide +kernel
theorem dX2_countLive_6 : decode (mc mX2_countLive) 6 = .ok (.invokevirtual 49, 3) := by decide +kernel
theorem dX2_countLive_9 : decode (mc mX2_countLive) 9 = .ok (.if_icmp .ge 20, 3) := by decide +kernel
theorem dX2_countLive_12 : decode (mc mX2_countLive) 12 = .ok (.aload_n 0, 1) := by decide +kernel
theorem dX2_countLive_13 : decode (mc mX2_countLive) 13 = .ok (.iload_n 2, 1) := by decide +kernel
theorem dX2_countLive_14 : decode (mc mX2_countLive) 14 = .ok (.invokevirtual 69, 3) := by decide +kernel
theorem dX2_countLive_17 : decode (mc mX2_countLive) 17 = .ok (.ifCond .eq 6, 3) := by decide +kernel
theorem dX2_countLive_20 : decode (mc mX2_countLive) 20 = .ok (.iinc 1 1, 3) := by decide +kernel
theorem dX2_countLive_23 : decode (mc mX2_countLive) 23 = .ok (.iinc 2 1, 3) := by decide +kernel
theorem dX2_countLive_26 : decode (mc mX2_countLive) 26 = .ok (.goto (-22), 3) := by decide +kernel
theorem dX2_countLive_29 : decode (mc mX2_countLive) 29 = .ok (.iload_n 1, 1) := by decide +kernel
theorem dX2_countLive_30 : decode (mc mX2_countLive) 30 = .ok (.ireturn, 1) := by decide +kernel
theorem dX2_countPaidBack_0 : decode (mc mX2_countPaidBack) 0 = .ok (.iconst 0, 1) := by decide +kernel
theorem dX2_countPaidBack_1 : decode (mc mX2_countPaidBack) 1 = .ok (.istore_n 1, 1) := by decide +kernel
theorem dX2_countPaidBack_2 : decode (mc mX2_countPaidBack) 2 = .ok (.iconst 0, 1) := by decide +kernel
theorem dX2_countPaidBack_3 : decode (mc mX2_countPaidBack) 3 = .ok (.istore_n 2, 1) := by decide +kernel
theorem dX2_countPaidBack_4 : decode (mc mX2_countPaidBack) 4 = .ok (.iload_n 2, 1) := by decide +kernel
theorem dX2_countPaidBack_5 : decode (mc mX2_countPaidBack) 5 = .ok (.aload_n 0, 1) := by decide +kernel
theorem dX2_countPaidBack_6 : decode (mc mX2_countPaidBack) 6 = .ok (.invokevirtual 52, 3) := by decide +kernel
theorem dX2_countPaidBack_9 : decode (mc mX2_countPaidBack) 9 = .ok (.if_icmp .ge 20, 3) := by decide +kernel
theorem dX2_countPaidBack_12 : decode (mc mX2_countPaidBack) 12 = .ok (.aload_n 0, 1) := by decide +kernel
theorem dX2_countPaidBack_13 : decode (mc mX2_countPaidBack) 13 = .ok (.iload_n 2, 1) := by decide +kernel
theorem dX2_countPaidBack_14 : decode (mc mX2_countPaidBack) 14 = .ok (.invokevirtual 79, 3) := by decide +kernel
theorem dX2_countPaidBack_17 : decode (mc mX2_countPaidBack) 17 = .ok (.ifCond .eq 6, 3) := by decide +kernel
theorem dX2_countPaidBack_20 : decode (mc mX2_countPaidBack) 20 = .ok (.iinc 1 1, 3) := by decide +kernel
theorem dX2_countPaidBack_23 : decode (mc mX2_countPaidBack) 23 = .ok (.iinc 2 1, 3) := by decide +kernel
theorem dX2_countPaidBack_26 : decode (mc mX2_countPaidBack) 26 = .ok (.goto (-22), 3) := by decide +kernel
theorem dX2_countPaidBack_29 : decode (mc mX2_countPaidBack) 29 = .ok (.iload_n 1, 1) := by decide +kernel
theorem dX2_countPaidBack_30 : decode (mc mX2_countPaidBack) 30 = .ok (.ireturn, 1) := by decide +kernel
theorem dX2_countConflicts_0 : decode (mc mX2_countConflicts) 0 = .ok (.iconst 0, 1) := by decide +kernel
theorem dX2_countConflicts_1 : decode (mc mX2_countConflicts) 1 = .ok (.istore_n 1, 1) := by decide +kernel
theorem dX2_countConflicts_2 : decode (mc mX2_countConflicts) 2 = .ok (.iconst 0, 1) := by decide +kernel
theorem dX2_countConflicts_3 : decode (mc mX2_countConflicts) 3 = .ok (.istore_n 2, 1) := by decide +kernel
theorem dX2_countConflicts_4 : decode (mc mX2_countConflicts) 4 = .ok (.iload_n 2, 1) := by decide +kernel
theorem dX2_countConflicts_5 : decode (mc mX2_countConflicts) 5 = .ok (.aload_n 0, 1) := by decide +kernel
theorem dX2_countConflicts_6 : decode (mc mX2_countConflicts) 6 = .ok (.invokevirtual 49, 3) := by decide +kernel
theorem dX2_countConflicts_9 : decode (mc mX2_countConflicts) 9 = .ok (.if_icmp .ge 17, 3) := by decide +kernel
theorem dX2_countConflicts_12 : decode (mc mX2_countConflicts) 12 = .ok (.iload_n 1, 1) := by decide +kernel
theorem dX2_countConflicts_13 : decode (mc mX2_countConflicts) 13 = .ok (.aload_n 0, 1) := by decide +kernel
theorem dX2_countConflicts_14 : decode (mc mX2_countConflicts) 14 = .ok (.iload_n 2, 1) := by decide +kernel
theorem dX2_countConflicts_15 : decode (mc mX2_countConflicts) 15 = .ok (.invokevirtual 97, 3) := by decide +kernel
theorem dX2_countConflicts_18 : decode (mc mX2_countConflicts) 18 = .ok (.iadd, 1) := by decide +kernel
theorem dX2_countConflicts_19 : decode (mc mX2_countConflicts) 19 = .ok (.istore_n 1, 1) := by decide +kernel
theorem dX2_countConflicts_20 : decode (mc mX2_countConflicts) 20 = .ok (.iinc 2 1, 3) := by decide +kernel
theorem dX2_countConflicts_23 : decode (mc mX2_countConflicts) 23 = .ok (.goto (-19), 3) := by decide +kernel
theorem dX2_countConflicts_26 : decode (mc mX2_countConflicts) 26 = .ok (.iload_n 1, 1) := by decide +kernel
theorem dX2_countConflicts_27 : decode (mc mX2_countConflicts) 27 = .ok (.iconst 2, 1) := by decide +kernel
theorem dX2_countConflicts_28 : decode (mc mX2_countConflicts) 28 = .ok (.idiv, 1) := by decide +kernel
theorem dX2_countConflicts_29 : decode (mc mX2_countConflicts) 29 = .ok (.ireturn, 1) := by decide +kernel
theorem dX2_startPhrase_0 : decode (mc mX2_startPhrase) 0 = .ok (.aload_n 0, 1) := by decide +kernel
theorem dX2_startPhrase_1 : decode (mc mX2_startPhrase) 1 = .ok (.getfield 11, 3) := by decide +kernel
theorem dX2_startPhrase_4 : decode (mc mX2_startPhrase) 4 = .ok (.iconst 1, 1) := by decide +kernel
theorem dX2_startPhrase_5 : decode (mc mX2_startPhrase) 5 = .ok (.iaload, 1) := by decide +kernel
theorem dX2_startPhrase_6 : decode (mc mX2_startPhrase) 6 = .ok (.istore 5, 2) := by decide +kernel
theorem dX2_startPhrase_8 : decode (mc mX2_startPhrase) 8 = .ok (.aload_n 0, 1) := by decide +kernel
theorem dX2_startPhrase_9 : decode (mc mX2_startPhrase) 9 = .ok (.getfield 11, 3) := by decide +kernel
theorem dX2_startPhrase_12 : decode (mc mX2_startPhrase) 12 = .ok (.iconst 1, 1) := by decide +kernel
theorem dX2_startPhrase_13 : decode (mc mX2_startPhrase) 13 = .ok (.dup2, 1) := by decide +kernel
theorem dX2_startPhrase_14 : decode (mc mX2_startPhrase) 14 = .ok (.iaload, 1) := by decide +kernel
theorem dX2_startPhrase_15 : decode (mc mX2_startPhrase) 15 = .ok (.iconst 1, 1) := by decide +kernel
theorem dX2_startPhrase_16 : decode (mc mX2_startPhrase) 16 = .ok (.iadd, 1) := by decide +kernel
theorem dX2_startPhrase_17 : decode (mc mX2_startPhrase) 17 = .ok (.iastore, 1) := by decide +kernel
theorem dX2_startPhrase_18 : decode (mc mX2_startPhrase) 18 = .ok (.aload_n 0, 1) := by decide +kernel
theorem dX2_startPhrase_19 : decode (mc mX2_startPhrase) 19 = .ok (.getfield 11, 3) := by decide +kernel
theorem dX2_startPhrase_22 : decode (mc mX2_startPhrase) 22 = .ok (.iload 5, 2) := by decide +kernel
theorem dX2_startPhrase_24 : decode (mc mX2_startPhrase) 24 = .ok (.iconst 0, 1) := by decide +kernel
theorem dX2_startPhrase_25 : decode (mc mX2_startPhrase) 25 = .ok (.invokestatic 100, 3) := by decide +kernel
theorem dX2_startPhrase_28 : decode (mc mX2_startPhrase) 28 = .ok (.iload_n 1, 1) := by decide +kernel
theorem dX2_startPhrase_29 : decode (mc mX2_startPhrase) 29 = .ok (.iastore, 1) := by decide +kernel
theorem dX2_startPhrase_30 : decode (mc mX2_startPhrase) 30 = .ok (.aload_n 0, 1) := by decide +kernel
theorem dX2_startPhrase_31 : decode (mc mX2_startPhrase) 31 = .ok (.getfield 11, 3) := by decide +kernel
theorem dX2_startPhrase_34 : decode (mc mX2_startPhrase) 34 = .ok (.iload 5, 2) := by decide +kernel
theorem dX2_startPhrase_36 : decode (mc mX2_startPhrase) 36 = .ok (.iconst 1, 1) := by decide +kernel
theorem dX2_startPhrase_37 : decode (mc mX2_startPhrase) 37 = .ok (.invokestatic 100, 3) := by decide +kernel
theorem dX2_startPhrase_40 : decode (mc mX2_startPhrase) 40 = .ok (.aload 4, 2) := by decide +kernel
theorem dX2_startPhrase_42 : decode (mc mX2_startPhrase) 42 = .ok (.getfield 103, 3) := by decide +kernel
theorem dX2_startPhrase_45 : decode (mc mX2_startPhrase) 45 = .ok (.iastore, 1) := by decide +kernel
theorem dX2_startPhrase_46 : decode (mc mX2_startPhrase) 46 = .ok (.aload_n 0, 1) := by decide +kernel
theorem dX2_startPhrase_47 : decode (mc mX2_startPhrase) 47 = .ok (.getfield 11, 3) := by decide +kernel
theorem dX2_startPhrase_50 : decode (mc mX2_startPhrase) 50 = .ok (.iload 5, 2) := by decide +kernel
theorem dX2_startPhrase_52 : decode (mc mX2_startPhrase) 52 = .ok (.iconst 2, 1) := by decide +kernel
theorem dX2_startPhrase_53 : decode (mc mX2_startPhrase) 53 = .ok (.invokestatic 100, 3) := by decide +kernel
theorem dX2_startPhrase_56 : decode (mc mX2_startPhrase) 56 = .ok (.iload_n 2, 1) := by decide +kernel
theorem dX2_startPhrase_57 : decode (mc mX2_startPhrase) 57 = .ok (.iastore, 1) := by decide +kernel
theorem dX2_startPhrase_58 : decode (mc mX2_startPhrase) 58 = .ok (.aload_n 0, 1) := by decide +kernel
theorem dX2_startPhrase_59 : decode (mc mX2_startPhrase) 59 = .ok (.getfield 11, 3) := by decide +kernel
theorem dX2_startPhrase_62 : decode (mc mX2_startPhrase) 62 = .ok (.iload 5, 2) := by decide +kernel
theorem dX2_startPhrase_64 : decode (mc mX2_startPhrase) 64 = .ok (.iconst 3, 1) := by decide +kernel
theorem dX2_startPhrase_65 : decode (mc mX2_startPhrase) 65 = .ok (.invokestatic 100, 3) := by decide +kernel
theorem dX2_startPhrase_68 : decode (mc mX2_startPhrase) 68 = .ok (.iload_n 3, 1) := by decide +kernel
theorem dX2_startPhrase_69 : decode (mc mX2_startPhrase) 69 = .ok (.iastore, 1) := by decide +kernel
theorem dX2_startPhrase_70 : decode (mc mX2_startPhrase) 70 = .ok (.aload_n 0, 1) := by decide +kernel
theorem dX2_startPhrase_71 : decode (mc mX2_startPhrase) 71 = .ok (.getfield 11, 3) := by decide +kernel
theorem dX2_startPhrase_74 : decode (mc mX2_startPhrase) 74 = .ok (.iload 5, 2) := by decide +kernel
theorem dX2_startPhrase_76 : decode (mc mX2_startPhrase) 76 = .ok (.iconst 4, 1) := by decide +kernel
theorem dX2_startPhrase_77 : decode (mc mX2_startPhrase) 77 = .ok (.invokestatic 100, 3) := by decide +kernel
theorem dX2_startPhrase_80 : decode (mc mX2_startPhrase) 80 = .ok (.iconst 1, 1) := by decide +kernel
theorem dX2_startPhrase_81 : decode (mc mX2_startPhrase) 81 = .ok (.iastore, 1) := by decide +kernel
theorem dX2_startPhrase_82 : decode (mc mX2_startPhrase) 82 = .ok (.aload_n 0, 1) := by decide +kernel
theorem dX2_startPhrase_83 : decode (mc mX2_startPhrase) 83 = .ok (.getfield 11, 3) := by decide +kernel
theorem dX2_startPhrase_86 : decode (mc mX2_startPhrase) 86 = .ok (.iload 5, 2) := by decide +kernel
theorem dX2_startPhrase_88 : decode (mc mX2_startPhrase) 88 = .ok (.iconst 5, 1) := by decide +kernel
theorem dX2_startPhrase_89 : decode (mc mX2_startPhrase) 89 = .ok (.invokestatic 100, 3) := by decide +kernel
theorem dX2_startPhrase_92 : decode (mc mX2_startPhrase) 92 = .ok (.iconst 0, 1) := by decide +kernel
theorem dX2_startPhrase_93 : decode (mc mX2_startPhrase) 93 = .ok (.iastore, 1) := by decide +kernel
theorem dX2_startPhrase_94 : decode (mc mX2_startPhrase) 94 = .ok (.iconst 0, 1) := by decide +kernel
theorem dX2_startPhrase_95 : decode (mc mX2_startPhrase) 95 = .ok (.istore 6, 2) := by decide +kernel
theorem dX2_startPhrase_97 : decode (mc mX2_startPhrase) 97 = .ok (.iload 6, 2) := by decide +kernel
theorem dX2_startPhrase_99 : decode (mc mX2_startPhrase) 99 = .ok (.aload 4, 2) := by decide +kernel
theorem dX2_startPhrase_101 : decode (mc mX2_startPhrase) 101 = .ok (.getfield 103, 3) := by decide +kernel
theorem dX2_startPhrase_104 : decode (mc mX2_startPhrase) 104 = .ok (.if_icmp .ge 32, 3) := by decide +kernel
theorem dX2_startPhrase_107 : decode (mc mX2_startPhrase) 107 = .ok (.aload_n 0, 1) := by decide +kernel
theorem dX2_startPhrase_108 : decode (mc mX2_startPhrase) 108 = .ok (.getfield 11, 3) := by decide +kernel
theorem dX2_startPhrase_111 : decode (mc mX2_startPhrase) 111 = .ok (.iload 5, 2) := by decide +kernel
theorem dX2_startPhrase_113 : decode (mc mX2_startPhrase) 113 = .ok (.bipush 6, 2) := by decide +kernel
theorem dX2_startPhrase_115 : decode (mc mX2_startPhrase) 115 = .ok (.iload 6, 2) := by decide +kernel
theorem dX2_startPhrase_117 : decode (mc mX2_startPhrase) 117 = .ok (.iadd, 1) := by decide +kernel
theorem dX2_startPhrase_118 : decode (mc mX2_startPhrase) 118 = .ok (.invokestatic 100, 3) := by decide +kernel
theorem dX2_startPhrase_121 : decode (mc mX2_startPhrase) 121 = .ok (.aload 4, 2) := by decide +kernel
theorem dX2_startPhrase_123 : decode (mc mX2_startPhrase) 123 = .ok (.getfield 107, 3) := by decide +kernel
theorem dX2_startPhrase_126 : decode (mc mX2_startPhrase) 126 = .ok (.iload 6, 2) := by decide +kernel
theorem dX2_startPhrase_128 : decode (mc mX2_startPhrase) 128 = .ok (.iaload, 1) := by decide +kernel
theorem dX2_startPhrase_129 : decode (mc mX2_startPhrase) 129 = .ok (.iastore, 1) := by decide +kernel
theorem dX2_startPhrase_130 : decode (mc mX2_startPhrase) 130 = .ok (.iinc 6 1, 3) := by decide +kernel
theorem dX2_startPhrase_133 : decode (mc mX2_startPhrase) 133 = .ok (.goto (-36), 3) := by decide +kernel
theorem dX2_startPhrase_136 : decode (mc mX2_startPhrase) 136 = .ok (.iload 5, 2) := by decide +kernel
theorem dX2_startPhrase_138 : decode (mc mX2_startPhrase) 138 = .ok (.ireturn, 1) := by decide +kernel
theorem dX2_phraseProperty_0 : decode (mc mX2_phraseProperty) 0 = .ok (.iload_n 2, 1) := by decide +kernel
theorem dX2_phraseProperty_1 : decode (mc mX2_phraseProperty) 1 = .ok (.bipush 6, 2) := by decide +kernel
theorem dX2_phraseProperty_3 : decode (mc mX2_phraseProperty) 3 = .ok (.if_icmp .ne 11, 3) := by decide +kernel
theorem dX2_phraseProperty_6 : decode (mc mX2_phraseProperty) 6 = .ok (.aload_n 0, 1) := by decide +kernel
theorem dX2_phraseProperty_7 : decode (mc mX2_phraseProperty) 7 = .ok (.iload_n 1, 1) := by decide +kernel
theorem dX2_phraseProperty_8 : decode (mc mX2_phraseProperty) 8 = .ok (.invokevirtual 97, 3) := by decide +kernel
theorem dX2_phraseProperty_11 : decode (mc mX2_phraseProperty) 11 = .ok (.goto 13, 3) := by decide +kernel
theorem dX2_phraseProperty_14 : decode (mc mX2_phraseProperty) 14 = .ok (.aload_n 0, 1) := by decide +kernel
theorem dX2_phraseProperty_15 : decode (mc mX2_phraseProperty) 15 = .ok (.getfield 11, 3) := by decide +kernel
theorem dX2_phraseProperty_18 : decode (mc mX2_phraseProperty) 18 = .ok (.iload_n 1, 1) := by decide +kernel
theorem dX2_phraseProperty_19 : decode (mc mX2_phraseProperty) 19 = .ok (.iload_n 2, 1) := by decide +kernel
theorem dX2_phraseProperty_20 : decode (mc mX2_phraseProperty) 20 = .ok (.invokestatic 100, 3) := by decide +kernel
theorem dX2_phraseProperty_23 : decode (mc mX2_phraseProperty) 23 = .ok (.iaload, 1) := by decide +kernel
theorem dX2_phraseProperty_24 : decode (mc mX2_phraseProperty) 24 = .ok (.ireturn, 1) := by decide +kernel
theorem dX2_ownerOf_0 : decode (mc mX2_ownerOf) 0 = .ok (.aload_n 0, 1) := by decide +kernel
theorem dX2_ownerOf_1 : decode (mc mX2_ownerOf) 1 = .ok (.getfield 11, 3) := by decide +kernel
theorem dX2_ownerOf_4 : decode (mc mX2_ownerOf) 4 = .ok (.iload_n 1, 1) := by decide +kernel
theorem dX2_ownerOf_5 : decode (mc mX2_ownerOf) 5 = .ok (.iconst 0, 1) := by decide +kernel
theorem dX2_ownerOf_6 : decode (mc mX2_ownerOf) 6 = .ok (.invokestatic 100, 3) := by decide +kernel
theorem dX2_ownerOf_9 : decode (mc mX2_ownerOf) 9 = .ok (.iaload, 1) := by decide +kernel
theorem dX2_ownerOf_10 : decode (mc mX2_ownerOf) 10 = .ok (.ireturn, 1) := by decide +kernel
theorem dX2_lengthOf_0 : decode (mc mX2_lengthOf) 0 = .ok (.aload_n 0, 1) := by decide +kernel
theorem dX2_lengthOf_1 : decode (mc mX2_lengthOf) 1 = .ok (.getfield 11, 3) := by decide +kernel
theorem dX2_lengthOf_4 : decode (mc mX2_lengthOf) 4 = .ok (.iload_n 1, 1) := by decide +kernel
theorem dX2_lengthOf_5 : decode (mc mX2_lengthOf) 5 = .ok (.iconst 1, 1) := by decide +kernel
theorem dX2_lengthOf_6 : decode (mc mX2_lengthOf) 6 = .ok (.invokestatic 100, 3) := by decide +kernel
theorem dX2_lengthOf_9 : decode (mc mX2_lengthOf) 9 = .ok (.iaload, 1) := by decide +kernel
theorem dX2_lengthOf_10 : decode (mc mX2_lengthOf) 10 = .ok (.ireturn, 1) := by decide +kernel
theorem dX2_targetOf_0 : decode (mc mX2_targetOf) 0 = .ok (.aload_n 0, 1) := by decide +kernel
theorem dX2_targetOf_1 : decode (mc mX2_targetOf) 1 = .ok (.getfield 11, 3) := by decide +kernel
theorem dX2_targetOf_4 : decode (mc mX2_targetOf) 4 = .ok (.iload_n 1, 1) := by decide +kernel
theorem dX2_targetOf_5 : decode (mc mX2_targetOf) 5 = .ok (.iconst 2, 1) := by decide +kernel
theorem dX2_targetOf_6 : decode (mc mX2_targetOf) 6 = .ok (.invokestatic 100, 3) := by decide +kernel
theorem dX2_targetOf_9 : decode (mc mX2_targetOf) 9 = .ok (.iaload, 1) := by decide +kernel
theorem dX2_targetOf_10 : decode (mc mX2_targetOf) 10 = .ok (.ireturn, 1) := by decide +kernel
theorem dX2_parentOf_0 : decode (mc mX2_parentOf) 0 = .ok (.aload_n 0, 1) := by decide +kernel
theorem dX2_parentOf_1 : decode (mc mX2_parentOf) 1 = .ok (.getfield 11, 3) := by decide +kernel
theorem dX2_parentOf_4 : decode (mc mX2_parentOf) 4 = .ok (.iload_n 1, 1) := by decide +kernel
theorem dX2_parentOf_5 : decode (mc mX2_parentOf) 5 = .ok (.iconst 3, 1) := by decide +kernel
theorem dX2_parentOf_6 : decode (mc mX2_parentOf) 6 = .ok (.invokestatic 100, 3) := by decide +kernel
theorem dX2_parentOf_9 : decode (mc mX2_parentOf) 9 = .ok (.iaload, 1) := by decide +kernel
theorem dX2_parentOf_10 : decode (mc mX2_parentOf) 10 = .ok (.ireturn, 1) := by decide +kernel
theorem dX2_isLive_0 : decode (mc mX2_isLive) 0 = .ok (.aload_n 0, 1) := by decide +kernel
theorem dX2_isLive_1 : decode (mc mX2_isLive) 1 = .ok (.getfield 11, 3) := by decide +kernel
theorem dX2_isLive_4 : decode (mc mX2_isLive) 4 = .ok (.iload_n 1, 1) := by decide +kernel
theorem dX2_isLive_5 : decode (mc mX2_isLive) 5 = .ok (.iconst 4, 1) := by decide +kernel
theorem dX2_isLive_6 : decode (mc mX2_isLive) 6 = .ok (.invokestatic 100, 3) := by decide +kernel
theorem dX2_isLive_9 : decode (mc mX2_isLive) 9 = .ok (.iaload, 1) := by decide +kernel
theorem dX2_isLive_10 : decode (mc mX2_isLive) 10 = .ok (.iconst 1, 1) := by decide +kernel
theorem dX2_isLive_11 : decode (mc mX2_isLive) 11 = .ok (.if_icmp .ne 7, 3) := by decide +kernel
theorem dX2_isLive_14 : decode (mc mX2_isLive) 14 = .ok (.iconst 1, 1) := by decide +kernel
theorem dX2_isLive_15 : decode (mc mX2_isLive) 15 = .ok (.goto 4, 3) := by decide +kernel
theorem dX2_isLive_18 : decode (mc mX2_isLive) 18 = .ok (.iconst 0, 1) := by decide +kernel
theorem dX2_isLive_19 : decode (mc mX2_isLive) 19 = .ok (.ireturn, 1) := by decide +kernel
theorem dX2_usesOf_0 : decode (mc mX2_usesOf) 0 = .ok (.aload_n 0, 1) := by decide +kernel
theorem dX2_usesOf_1 : decode (mc mX2_usesOf) 1 = .ok (.getfield 11, 3) := by decide +kernel
theorem dX2_usesOf_4 : decode (mc mX2_usesOf) 4 = .ok (.iload_n 1, 1) := by decide +kernel
theorem dX2_usesOf_5 : decode (mc mX2_usesOf) 5 = .ok (.iconst 5, 1) := by decide +kernel
theorem dX2_usesOf_6 : decode (mc mX2_usesOf) 6 = .ok (.invokestatic 100, 3) := by decide +kernel
theorem dX2_usesOf_9 : decode (mc mX2_usesOf) 9 = .ok (.iaload, 1) := by decide +kernel
theorem dX2_usesOf_10 : decode (mc mX2_usesOf) 10 = .ok (.ireturn, 1) := by decide +kernel
theorem dX2_wordOf_0 : decode (mc mX2_wordOf) 0 = .ok (.aload_n 0, 1) := by decide +kernel
theorem dX2_wordOf_1 : decode (mc mX2_wordOf) 1 = .ok (.getfield 11, 3) := by decide +kernel
theorem dX2_wordOf_4 : decode (mc mX2_wordOf) 4 = .ok (.iload_n 1, 1) := by decide +kernel
theorem dX2_wordOf_5 : decode (mc mX2_wordOf) 5 = .ok (.bipush 6, 2) := by decide +kernel
theorem dX2_wordOf_7 : decode (mc mX2_wordOf) 7 = .ok (.iload_n 2, 1) := by decide +kernel
theorem dX2_wordOf_8 : decode (mc mX2_wordOf) 8 = .ok (.iadd, 1) := by decide +kernel
theorem dX2_wordOf_9 : decode (mc mX2_wordOf) 9 = .ok (.invokestatic 100, 3) := by decide +kernel
theorem dX2_wordOf_12 : decode (mc mX2_wordOf) 12 = .ok (.iaload, 1) := by decide +kernel
theorem dX2_wordOf_13 : decode (mc mX2_wordOf) 13 = .ok (.ireturn, 1) := by decide +kernel
theorem dX2_readInto_0 : decode (mc mX2_readInto) 0 = .ok (.aload_n 1, 1) := by decide +kernel
theorem dX2_readInto_1 : decode (mc mX2_readInto) 1 = .ok (.invokevirtual 110, 3) := by decide +kernel
theorem dX2_readInto_4 : decode (mc mX2_readInto) 4 = .ok (.iconst 0, 1) := by decide +kernel
theorem dX2_readInto_5 : decode (mc mX2_readInto) 5 = .ok (.istore_n 3, 1) := by decide +kernel
theorem dX2_readInto_6 : decode (mc mX2_readInto) 6 = .ok (.iload_n 3, 1) := by decide +kernel
theorem dX2_readInto_7 : decode (mc mX2_readInto) 7 = .ok (.aload_n 0, 1) := by decide +kernel
theorem dX2_readInto_8 : decode (mc mX2_readInto) 8 = .ok (.iload_n 2, 1) := by decide +kernel
theorem dX2_readInto_9 : decode (mc mX2_readInto) 9 = .ok (.invokevirtual 113, 3) := by decide +kernel
theorem dX2_readInto_12 : decode (mc mX2_readInto) 12 = .ok (.if_icmp .ge 19, 3) := by decide +kernel
theorem dX2_readInto_15 : decode (mc mX2_readInto) 15 = .ok (.aload_n 1, 1) := by decide +kernel
theorem dX2_readInto_16 : decode (mc mX2_readInto) 16 = .ok (.aload_n 0, 1) := by decide +kernel
theorem dX2_readInto_17 : decode (mc mX2_readInto) 17 = .ok (.iload_n 2, 1) := by decide +kernel
theorem dX2_readInto_18 : decode (mc mX2_readInto) 18 = .ok (.iload_n 3, 1) := by decide +kernel
theorem dX2_readInto_19 : decode (mc mX2_readInto) 19 = .ok (.invokevirtual 116, 3) := by decide +kernel
theorem dX2_readInto_22 : decode (mc mX2_readInto) 22 = .ok (.invokevirtual 119, 3) := by decide +kernel
theorem dX2_readInto_25 : decode (mc mX2_readInto) 25 = .ok (.iinc 3 1, 3) := by decide +kernel
theorem dX2_readInto_28 : decode (mc mX2_readInto) 28 = .ok (.goto (-22), 3) := by decide +kernel
theorem dX2_readInto_31 : decode (mc mX2_readInto) 31 = .ok (.return_, 1) := by decide +kernel
theorem dX2_likenessOf_0 : decode (mc mX2_likenessOf) 0 = .ok (.aload_n 0, 1) := by decide +kernel
theorem dX2_likenessOf_1 : decode (mc mX2_likenessOf) 1 = .ok (.aload_n 0, 1) := by decide +kernel
theorem dX2_likenessOf_2 : decode (mc mX2_likenessOf) 2 = .ok (.getfield 22, 3) := by decide +kernel
theorem dX2_likenessOf_5 : decode (mc mX2_likenessOf) 5 = .ok (.iload_n 1, 1) := by decide +kernel
theorem dX2_likenessOf_6 : decode (mc mX2_likenessOf) 6 = .ok (.invokevirtual 123, 3) := by decide +kernel
theorem dX2_likenessOf_9 : decode (mc mX2_likenessOf) 9 = .ok (.aload_n 0, 1) := by decide +kernel
theorem dX2_likenessOf_10 : decode (mc mX2_likenessOf) 10 = .ok (.aload_n 0, 1) := by decide +kernel
theorem dX2_likenessOf_11 : decode (mc mX2_likenessOf) 11 = .ok (.getfield 22, 3) := by decide +kernel
theorem dX2_likenessOf_14 : decode (mc mX2_likenessOf) 14 = .ok (.iload_n 2, 1) := by decide +kernel
theorem dX2_likenessOf_15 : decode (mc mX2_likenessOf) 15 = .ok (.invokevirtual 127, 3) := by decide +kernel
theorem dX2_likenessOf_18 : decode (mc mX2_likenessOf) 18 = .ok (.ireturn, 1) := by decide +kernel
theorem dX2_likenessTo_0 : decode (mc mX2_likenessTo) 0 = .ok (.aload_n 0, 1) := by decide +kernel
theorem dX2_likenessTo_1 : decode (mc mX2_likenessTo) 1 = .ok (.aload_n 0, 1) := by decide +kernel
theorem dX2_likenessTo_2 : decode (mc mX2_likenessTo) 2 = .ok (.getfield 26, 3) := by decide +kernel
theorem dX2_likenessTo_5 : decode (mc mX2_likenessTo) 5 = .ok (.iload_n 2, 1) := by decide +kernel
theorem dX2_likenessTo_6 : decode (mc mX2_likenessTo) 6 = .ok (.invokevirtual 123, 3) := by decide +kernel
theorem dX2_likenessTo_9 : decode (mc mX2_likenessTo) 9 = .ok (.aload_n 0, 1) := by decide +kernel
theorem dX2_likenessTo_10 : decode (mc mX2_likenessTo) 10 = .ok (.getfield 32, 3) := by decide +kernel
theorem dX2_likenessTo_13 : decode (mc mX2_likenessTo) 13 = .ok (.aload_n 1, 1) := by decide +kernel
theorem dX2_likenessTo_14 : decode (mc mX2_likenessTo) 14 = .ok (.aload_n 0, 1) := by decide +kernel
theorem dX2_likenessTo_15 : decode (mc mX2_likenessTo) 15 = .ok (.getfield 26, 3) := by decide +kernel
theorem dX2_likenessTo_18 : decode (mc mX2_likenessTo) 18 = .ok (.invokevirtual 131, 3) := by decide +kernel
theorem dX2_likenessTo_21 : decode (mc mX2_likenessTo) 21 = .ok (.ireturn, 1) := by decide +kernel
theorem dX2_conflictsOf_0 : decode (mc mX2_conflictsOf) 0 = .ok (.aload_n 0, 1) := by decide +kernel
theorem dX2_conflictsOf_1 : decode (mc mX2_conflictsOf) 1 = .ok (.iload_n 1, 1) := by decide +kernel
theorem dX2_conflictsOf_2 : decode (mc mX2_conflictsOf) 2 = .ok (.invokevirtual 69, 3) := by decide +kernel
theorem dX2_conflictsOf_5 : decode (mc mX2_conflictsOf) 5 = .ok (.ifCond .ne 5, 3) := by decide +kernel
theorem dX2_conflictsOf_8 : decode (mc mX2_conflictsOf) 8 = .ok (.iconst 0, 1) := by decide +kernel
theorem dX2_conflictsOf_9 : decode (mc mX2_conflictsOf) 9 = .ok (.ireturn, 1) := by decide +kernel
theorem dX2_conflictsOf_10 : decode (mc mX2_conflictsOf) 10 = .ok (.aload_n 0, 1) := by decide +kernel
theorem dX2_conflictsOf_11 : decode (mc mX2_conflictsOf) 11 = .ok (.aload_n 0, 1) := by decide +kernel
theorem dX2_conflictsOf_12 : decode (mc mX2_conflictsOf) 12 = .ok (.getfield 22, 3) := by decide +kernel
theorem dX2_conflictsOf_15 : decode (mc mX2_conflictsOf) 15 = .ok (.iload_n 1, 1) := by decide +kernel
theorem dX2_conflictsOf_16 : decode (mc mX2_conflictsOf) 16 = .ok (.invokevirtual 123, 3) := by decide +kernel
theorem dX2_conflictsOf_19 : decode (mc mX2_conflictsOf) 19 = .ok (.iconst 0, 1) := by decide +kernel
theorem dX2_conflictsOf_20 : decode (mc mX2_conflictsOf) 20 = .ok (.istore_n 2, 1) := by decide +kernel
theorem dX2_conflictsOf_21 : decode (mc mX2_conflictsOf) 21 = .ok (.iconst 0, 1) := by decide +kernel
theorem dX2_conflictsOf_22 : decode (mc mX2_conflictsOf) 22 = .ok (.istore_n 3, 1) := by decide +kernel
theorem dX2_conflictsOf_23 : decode (mc mX2_conflictsOf) 23 = .ok (.iload_n 3, 1) := by decide +kernel
theorem dX2_conflictsOf_24 : decode (mc mX2_conflictsOf) 24 = .ok (.aload_n 0, 1) := by decide +kernel
theorem dX2_conflictsOf_25 : decode (mc mX2_conflictsOf) 25 = .ok (.invokevirtual 49, 3) := by decide +kernel
theorem dX2_conflictsOf_28 : decode (mc mX2_conflictsOf) 28 = .ok (.if_icmp .ge 37, 3) := by decide +kernel
theorem dX2_conflictsOf_31 : decode (mc mX2_conflictsOf) 31 = .ok (.aload_n 0, 1) := by decide +kernel
theorem dX2_conflictsOf_32 : decode (mc mX2_conflictsOf) 32 = .ok (.iload_n 3, 1) := by decide +kernel
theorem dX2_conflictsOf_33 : decode (mc mX2_conflictsOf) 33 = .ok (.aload_n 0, 1) := by decide +kernel
theorem dX2_conflictsOf_34 : decode (mc mX2_conflictsOf) 34 = .ok (.getfield 22, 3) := by decide +kernel
theorem dX2_conflictsOf_37 : decode (mc mX2_conflictsOf) 37 = .ok (.invokevirtual 135, 3) := by decide +kernel
theorem dX2_conflictsOf_40 : decode (mc mX2_conflictsOf) 40 = .ok (.ifCond .eq 19, 3) := by decide +kernel
theorem dX2_conflictsOf_43 : decode (mc mX2_conflictsOf) 43 = .ok (.aload_n 0, 1) := by decide +kernel
theorem dX2_conflictsOf_44 : decode (mc mX2_conflictsOf) 44 = .ok (.iload_n 3, 1) := by decide +kernel
theorem dX2_conflictsOf_45 : decode (mc mX2_conflictsOf) 45 = .ok (.invokevirtual 139, 3) := by decide +kernel
theorem dX2_conflictsOf_48 : decode (mc mX2_conflictsOf) 48 = .ok (.aload_n 0, 1) := by decide +kernel
theorem dX2_conflictsOf_49 : decode (mc mX2_conflictsOf) 49 = .ok (.iload_n 1, 1) := by decide +kernel
theorem dX2_conflictsOf_50 : decode (mc mX2_conflictsOf) 50 = .ok (.invokevirtual 139, 3) := by decide +kernel
theorem dX2_conflictsOf_53 : decode (mc mX2_conflictsOf) 53 = .ok (.if_icmp .eq 6, 3) := by decide +kernel
theorem dX2_conflictsOf_56 : decode (mc mX2_conflictsOf) 56 = .ok (.iinc 2 1, 3) := by decide +kernel
theorem dX2_conflictsOf_59 : decode (mc mX2_conflictsOf) 59 = .ok (.iinc 3 1, 3) := by decide +kernel
theorem dX2_conflictsOf_62 : decode (mc mX2_conflictsOf) 62 = .ok (.goto (-39), 3) := by decide +kernel
theorem dX2_conflictsOf_65 : decode (mc mX2_conflictsOf) 65 = .ok (.iload_n 2, 1) := by decide +kernel
theorem dX2_conflictsOf_66 : decode (mc mX2_conflictsOf) 66 = .ok (.ireturn, 1) := by decide +kernel
theorem dX2_standsAt_0 : decode (mc mX2_standsAt) 0 = .ok (.aload_n 0, 1) := by decide +kernel
theorem dX2_standsAt_1 : decode (mc mX2_standsAt) 1 = .ok (.getfield 11, 3) := by decide +kernel
theorem dX2_standsAt_4 : decode (mc mX2_standsAt) 4 = .ok (.iload_n 1, 1) := by decide +kernel
theorem dX2_standsAt_5 : decode (mc mX2_standsAt) 5 = .ok (.iconst 1, 1) := by decide +kernel
theorem dX2_standsAt_6 : decode (mc mX2_standsAt) 6 = .ok (.invokestatic 100, 3) := by decide +kernel
theorem dX2_standsAt_9 : decode (mc mX2_standsAt) 9 = .ok (.iaload, 1) := by decide +kernel
theorem dX2_standsAt_10 : decode (mc mX2_standsAt) 10 = .ok (.istore 4, 2) := by decide +kernel
theorem dX2_standsAt_12 : decode (mc mX2_standsAt) 12 = .ok (.iload_n 1, 1) := by decide +kernel
theorem dX2_standsAt_13 : decode (mc mX2_standsAt) 13 = .ok (.bipush 6, 2) := by decide +kernel
theorem dX2_standsAt_15 : decode (mc mX2_standsAt) 15 = .ok (.invokestatic 100, 3) := by decide +kernel
theorem dX2_standsAt_18 : decode (mc mX2_standsAt) 18 = .ok (.istore 5, 2) := by decide +kernel
theorem dX2_standsAt_20 : decode (mc mX2_standsAt) 20 = .ok (.iload_n 3, 1) := by decide +kernel
theorem dX2_standsAt_21 : decode (mc mX2_standsAt) 21 = .ok (.iload 4, 2) := by decide +kernel
theorem dX2_standsAt_23 : decode (mc mX2_standsAt) 23 = .ok (.iadd, 1) := by decide +kernel
theorem dX2_standsAt_24 : decode (mc mX2_standsAt) 24 = .ok (.aload_n 2, 1) := by decide +kernel
theorem dX2_standsAt_25 : decode (mc mX2_standsAt) 25 = .ok (.getfield 103, 3) := by decide +kernel
theorem dX2_standsAt_28 : decode (mc mX2_standsAt) 28 = .ok (.if_icmp .le 5, 3) := by decide +kernel
theorem dX2_standsAt_31 : decode (mc mX2_standsAt) 31 = .ok (.iconst 0, 1) := by decide +kernel
theorem dX2_standsAt_32 : decode (mc mX2_standsAt) 32 = .ok (.ireturn, 1) := by decide +kernel
theorem dX2_standsAt_33 : decode (mc mX2_standsAt) 33 = .ok (.iconst 0, 1) := by decide +kernel
theorem dX2_standsAt_34 : decode (mc mX2_standsAt) 34 = .ok (.istore 6, 2) := by decide +kernel
theorem dX2_standsAt_36 : decode (mc mX2_standsAt) 36 = .ok (.iload 6, 2) := by decide +kernel
theorem dX2_standsAt_38 : decode (mc mX2_standsAt) 38 = .ok (.iload 4, 2) := by decide +kernel
theorem dX2_standsAt_40 : decode (mc mX2_standsAt) 40 = .ok (.if_icmp .ge 33, 3) := by decide +kernel
theorem dX2_standsAt_43 : decode (mc mX2_standsAt) 43 = .ok (.aload_n 0, 1) := by decide +kernel
theorem dX2_standsAt_44 : decode (mc mX2_standsAt) 44 = .ok (.getfield 11, 3) := by decide +kernel
theorem dX2_standsAt_47 : decode (mc mX2_standsAt) 47 = .ok (.iload 5, 2) := by decide +kernel
theorem dX2_standsAt_49 : decode (mc mX2_standsAt) 49 = .ok (.iload 6, 2) := by decide +kernel
theorem dX2_standsAt_51 : decode (mc mX2_standsAt) 51 = .ok (.iadd, 1) := by decide +kernel
theorem dX2_standsAt_52 : decode (mc mX2_standsAt) 52 = .ok (.iaload, 1) := by decide +kernel
theorem dX2_standsAt_53 : decode (mc mX2_standsAt) 53 = .ok (.aload_n 2, 1) := by decide +kernel
theorem dX2_standsAt_54 : decode (mc mX2_standsAt) 54 = .ok (.getfield 107, 3) := by decide +kernel
theorem dX2_standsAt_57 : decode (mc mX2_standsAt) 57 = .ok (.iload_n 3, 1) := by decide +kernel
theorem dX2_standsAt_58 : decode (mc mX2_standsAt) 58 = .ok (.iload 6, 2) := by decide +kernel
theorem dX2_standsAt_60 : decode (mc mX2_standsAt) 60 = .ok (.iadd, 1) := by decide +kernel
theorem dX2_standsAt_61 : decode (mc mX2_standsAt) 61 = .ok (.iaload, 1) := by decide +kernel
theorem dX2_standsAt_62 : decode (mc mX2_standsAt) 62 = .ok (.if_icmp .eq 5, 3) := by decide +kernel
theorem dX2_standsAt_65 : decode (mc mX2_standsAt) 65 = .ok (.iconst 0, 1) := by decide +kernel
theorem dX2_standsAt_66 : decode (mc mX2_standsAt) 66 = .ok (.ireturn, 1) := by decide +kernel
theorem dX2_standsAt_67 : decode (mc mX2_standsAt) 67 = .ok (.iinc 6 1, 3) := by decide +kernel
theorem dX2_standsAt_70 : decode (mc mX2_standsAt) 70 = .ok (.goto (-34), 3) := by decide +kernel
theorem dX2_standsAt_73 : decode (mc mX2_standsAt) 73 = .ok (.iconst 1, 1) := by decide +kernel
theorem dX2_standsAt_74 : decode (mc mX2_standsAt) 74 = .ok (.ireturn, 1) := by decide +kernel
theorem dX2_isLiveAs_0 : decode (mc mX2_isLiveAs) 0 = .ok (.aload_n 0, 1) := by decide +kernel
theorem dX2_isLiveAs_1 : decode (mc mX2_isLiveAs) 1 = .ok (.iload_n 1, 1) := by decide +kernel
theorem dX2_isLiveAs_2 : decode (mc mX2_isLiveAs) 2 = .ok (.invokevirtual 69, 3) := by decide +kernel
theorem dX2_isLiveAs_5 : decode (mc mX2_isLiveAs) 5 = .ok (.ifCond .eq 29, 3) := by decide +kernel
theorem dX2_isLiveAs_8 : decode (mc mX2_isLiveAs) 8 = .ok (.aload_n 0, 1) := by decide +kernel
theorem dX2_isLiveAs_9 : decode (mc mX2_isLiveAs) 9 = .ok (.iload_n 1, 1) := by decide +kernel
theorem dX2_isLiveAs_10 : decode (mc mX2_isLiveAs) 10 = .ok (.invokevirtual 113, 3) := by decide +kernel
theorem dX2_isLiveAs_13 : decode (mc mX2_isLiveAs) 13 = .ok (.aload_n 2, 1) := by decide +kernel
theorem dX2_isLiveAs_14 : decode (mc mX2_isLiveAs) 14 = .ok (.getfield 103, 3) := by decide +kernel
theorem dX2_isLiveAs_17 : decode (mc mX2_isLiveAs) 17 = .ok (.if_icmp .ne 17, 3) := by decide +kernel
theorem dX2_isLiveAs_20 : decode (mc mX2_isLiveAs) 20 = .ok (.aload_n 0, 1) := by decide +kernel
theorem dX2_isLiveAs_21 : decode (mc mX2_isLiveAs) 21 = .ok (.iload_n 1, 1) := by decide +kernel
theorem dX2_isLiveAs_22 : decode (mc mX2_isLiveAs) 22 = .ok (.aload_n 2, 1) := by decide +kernel
theorem dX2_isLiveAs_23 : decode (mc mX2_isLiveAs) 23 = .ok (.iconst 0, 1) := by decide +kernel
theorem dX2_isLiveAs_24 : decode (mc mX2_isLiveAs) 24 = .ok (.invokevirtual 142, 3) := by decide +kernel
theorem dX2_isLiveAs_27 : decode (mc mX2_isLiveAs) 27 = .ok (.ifCond .eq 7, 3) := by decide +kernel
theorem dX2_isLiveAs_30 : decode (mc mX2_isLiveAs) 30 = .ok (.iconst 1, 1) := by decide +kernel
theorem dX2_isLiveAs_31 : decode (mc mX2_isLiveAs) 31 = .ok (.goto 4, 3) := by decide +kernel
theorem dX2_isLiveAs_34 : decode (mc mX2_isLiveAs) 34 = .ok (.iconst 0, 1) := by decide +kernel
theorem dX2_isLiveAs_35 : decode (mc mX2_isLiveAs) 35 = .ok (.ireturn, 1) := by decide +kernel
theorem dX2_giversOf_0 : decode (mc mX2_giversOf) 0 = .ok (.iconst 0, 1) := by decide +kernel
theorem dX2_giversOf_1 : decode (mc mX2_giversOf) 1 = .ok (.istore_n 3, 1) := by decide +kernel
theorem dX2_giversOf_2 : decode (mc mX2_giversOf) 2 = .ok (.iconst 0, 1) := by decide +kernel
theorem dX2_giversOf_3 : decode (mc mX2_giversOf) 3 = .ok (.istore 4, 2) := by decide +kernel
theorem dX2_giversOf_5 : decode (mc mX2_giversOf) 5 = .ok (.iload 4, 2) := by decide +kernel
theorem dX2_giversOf_7 : decode (mc mX2_giversOf) 7 = .ok (.aload_n 0, 1) := by decide +kernel
theorem dX2_giversOf_8 : decode (mc mX2_giversOf) 8 = .ok (.invokevirtual 45, 3) := by decide +kernel
theorem dX2_giversOf_11 : decode (mc mX2_giversOf) 11 = .ok (.if_icmp .ge 23, 3) := by decide +kernel
theorem dX2_giversOf_14 : decode (mc mX2_giversOf) 14 = .ok (.aload_n 0, 1) := by decide +kernel
theorem dX2_giversOf_15 : decode (mc mX2_giversOf) 15 = .ok (.iload 4, 2) := by decide +kernel
theorem dX2_giversOf_17 : decode (mc mX2_giversOf) 17 = .ok (.iload_n 1, 1) := by decide +kernel
theorem dX2_giversOf_18 : decode (mc mX2_giversOf) 18 = .ok (.aload_n 2, 1) := by decide +kernel
theorem dX2_giversOf_19 : decode (mc mX2_giversOf) 19 = .ok (.invokevirtual 146, 3) := by decide +kernel
theorem dX2_giversOf_22 : decode (mc mX2_giversOf) 22 = .ok (.ifCond .eq 6, 3) := by decide +kernel
theorem dX2_giversOf_25 : decode (mc mX2_giversOf) 25 = .ok (.iinc 3 1, 3) := by decide +kernel
theorem dX2_giversOf_28 : decode (mc mX2_giversOf) 28 = .ok (.iinc 4 1, 3) := by decide +kernel
theorem dX2_giversOf_31 : decode (mc mX2_giversOf) 31 = .ok (.goto (-26), 3) := by decide +kernel
theorem dX2_giversOf_34 : decode (mc mX2_giversOf) 34 = .ok (.iload_n 3, 1) := by decide +kernel
theorem dX2_giversOf_35 : decode (mc mX2_giversOf) 35 = .ok (.ireturn, 1) := by decide +kernel
theorem dX2_gives_0 : decode (mc mX2_gives) 0 = .ok (.iconst 0, 1) := by decide +kernel
theorem dX2_gives_1 : decode (mc mX2_gives) 1 = .ok (.istore 4, 2) := by decide +kernel
theorem dX2_gives_3 : decode (mc mX2_gives) 3 = .ok (.iload 4, 2) := by decide +kernel
theorem dX2_gives_5 : decode (mc mX2_gives) 5 = .ok (.aload_n 0, 1) := by decide +kernel
theorem dX2_gives_6 : decode (mc mX2_gives) 6 = .ok (.invokevirtual 49, 3) := by decide +kernel
theorem dX2_gives_9 : decode (mc mX2_gives) 9 = .ok (.if_icmp .ge 41, 3) := by decide +kernel
theorem dX2_gives_12 : decode (mc mX2_gives) 12 = .ok (.aload_n 0, 1) := by decide +kernel
theorem dX2_gives_13 : decode (mc mX2_gives) 13 = .ok (.iload 4, 2) := by decide +kernel
theorem dX2_gives_15 : decode (mc mX2_gives) 15 = .ok (.invokevirtual 73, 3) := by decide +kernel
theorem dX2_gives_18 : decode (mc mX2_gives) 18 = .ok (.iload_n 1, 1) := by decide +kernel
theorem dX2_gives_19 : decode (mc mX2_gives) 19 = .ok (.if_icmp .ne 25, 3) := by decide +kernel
theorem dX2_gives_22 : decode (mc mX2_gives) 22 = .ok (.aload_n 0, 1) := by decide +kernel
theorem dX2_gives_23 : decode (mc mX2_gives) 23 = .ok (.iload 4, 2) := by decide +kernel
theorem dX2_gives_25 : decode (mc mX2_gives) 25 = .ok (.invokevirtual 139, 3) := by decide +kernel
theorem dX2_gives_28 : decode (mc mX2_gives) 28 = .ok (.iload_n 2, 1) := by decide +kernel
theorem dX2_gives_29 : decode (mc mX2_gives) 29 = .ok (.if_icmp .ne 15, 3) := by decide +kernel
theorem dX2_gives_32 : decode (mc mX2_gives) 32 = .ok (.aload_n 0, 1) := by decide +kernel
theorem dX2_gives_33 : decode (mc mX2_gives) 33 = .ok (.iload 4, 2) := by decide +kernel
theorem dX2_gives_35 : decode (mc mX2_gives) 35 = .ok (.aload_n 3, 1) := by decide +kernel
theorem dX2_gives_36 : decode (mc mX2_gives) 36 = .ok (.invokevirtual 135, 3) := by decide +kernel
theorem dX2_gives_39 : decode (mc mX2_gives) 39 = .ok (.ifCond .eq 5, 3) := by decide +kernel
theorem dX2_gives_42 : decode (mc mX2_gives) 42 = .ok (.iconst 1, 1) := by decide +kernel
theorem dX2_gives_43 : decode (mc mX2_gives) 43 = .ok (.ireturn, 1) := by decide +kernel
theorem dX2_gives_44 : decode (mc mX2_gives) 44 = .ok (.iinc 4 1, 3) := by decide +kernel
theorem dX2_gives_47 : decode (mc mX2_gives) 47 = .ok (.goto (-44), 3) := by decide +kernel
theorem dX2_gives_50 : decode (mc mX2_gives) 50 = .ok (.iconst 0, 1) := by decide +kernel
theorem dX2_gives_51 : decode (mc mX2_gives) 51 = .ok (.ireturn, 1) := by decide +kernel
theorem dX2_feeFor_0 : decode (mc mX2_feeFor) 0 = .ok (.aload_n 0, 1) := by decide +kernel
theorem dX2_feeFor_1 : decode (mc mX2_feeFor) 1 = .ok (.iload_n 2, 1) := by decide +kernel
theorem dX2_feeFor_2 : decode (mc mX2_feeFor) 2 = .ok (.invokevirtual 73, 3) := by decide +kernel
theorem dX2_feeFor_5 : decode (mc mX2_feeFor) 5 = .ok (.istore 4, 2) := by decide +kernel
theorem dX2_feeFor_7 : decode (mc mX2_feeFor) 7 = .ok (.iload 4, 2) := by decide +kernel
theorem dX2_feeFor_9 : decode (mc mX2_feeFor) 9 = .ok (.iload_n 1, 1) := by decide +kernel
theorem dX2_feeFor_10 : decode (mc mX2_feeFor) 10 = .ok (.if_icmp .ne 7, 3) := by decide +kernel
theorem dX2_feeFor_13 : decode (mc mX2_feeFor) 13 = .ok (.iconst 0, 1) := by decide +kernel
theorem dX2_feeFor_14 : decode (mc mX2_feeFor) 14 = .ok (.goto 14, 3) := by decide +kernel
theorem dX2_feeFor_17 : decode (mc mX2_feeFor) 17 = .ok (.aload_n 0, 1) := by decide +kernel
theorem dX2_feeFor_18 : decode (mc mX2_feeFor) 18 = .ok (.iload 4, 2) := by decide +kernel
theorem dX2_feeFor_20 : decode (mc mX2_feeFor) 20 = .ok (.invokevirtual 150, 3) := by decide +kernel
theorem dX2_feeFor_23 : decode (mc mX2_feeFor) 23 = .ok (.iload_n 3, 1) := by decide +kernel
theorem dX2_feeFor_24 : decode (mc mX2_feeFor) 24 = .ok (.imul, 1) := by decide +kernel
theorem dX2_feeFor_25 : decode (mc mX2_feeFor) 25 = .ok (.bipush 100, 2) := by decide +kernel
theorem dX2_feeFor_27 : decode (mc mX2_feeFor) 27 = .ok (.idiv, 1) := by decide +kernel
theorem dX2_feeFor_28 : decode (mc mX2_feeFor) 28 = .ok (.ireturn, 1) := by decide +kernel
theorem dX2_noteProperty_0 : decode (mc mX2_noteProperty) 0 = .ok (.aload_n 0, 1) := by decide +kernel
theorem dX2_noteProperty_1 : decode (mc mX2_noteProperty) 1 = .ok (.getfield 11, 3) := by decide +kernel
theorem dX2_noteProperty_4 : decode (mc mX2_noteProperty) 4 = .ok (.iload_n 1, 1) := by decide +kernel
theorem dX2_noteProperty_5 : decode (mc mX2_noteProperty) 5 = .ok (.iload_n 2, 1) := by decide +kernel
theorem dX2_noteProperty_6 : decode (mc mX2_noteProperty) 6 = .ok (.invokestatic 153, 3) := by decide +kernel
theorem dX2_noteProperty_9 : decode (mc mX2_noteProperty) 9 = .ok (.iaload, 1) := by decide +kernel
theorem dX2_noteProperty_10 : decode (mc mX2_noteProperty) 10 = .ok (.ireturn, 1) := by decide +kernel
theorem dX2_isPaidBack_0 : decode (mc mX2_isPaidBack) 0 = .ok (.aload_n 0, 1) := by decide +kernel
theorem dX2_isPaidBack_1 : decode (mc mX2_isPaidBack) 1 = .ok (.getfield 11, 3) := by decide +kernel
theorem dX2_isPaidBack_4 : decode (mc mX2_isPaidBack) 4 = .ok (.iload_n 1, 1) := by decide +kernel
theorem dX2_isPaidBack_5 : decode (mc mX2_isPaidBack) 5 = .ok (.iconst 5, 1) := by decide +kernel
theorem dX2_isPaidBack_6 : decode (mc mX2_isPaidBack) 6 = .ok (.invokestatic 153, 3) := by decide +kernel
theorem dX2_isPaidBack_9 : decode (mc mX2_isPaidBack) 9 = .ok (.iaload, 1) := by decide +kernel
theorem dX2_isPaidBack_10 : decode (mc mX2_isPaidBack) 10 = .ok (.iconst 1, 1) := by decide +kernel
theorem dX2_isPaidBack_11 : decode (mc mX2_isPaidBack) 11 = .ok (.if_icmp .ne 7, 3) := by decide +kernel
theorem dX2_isPaidBack_14 : decode (mc mX2_isPaidBack) 14 = .ok (.iconst 1, 1) := by decide +kernel
theorem dX2_isPaidBack_15 : decode (mc mX2_isPaidBack) 15 = .ok (.goto 4, 3) := by decide +kernel
theorem dX2_isPaidBack_18 : decode (mc mX2_isPaidBack) 18 = .ok (.iconst 0, 1) := by decide +kernel
theorem dX2_isPaidBack_19 : decode (mc mX2_isPaidBack) 19 = .ok (.ireturn, 1) := by decide +kernel
theorem dX2_startNote_0 : decode (mc mX2_startNote) 0 = .ok (.aload_n 0, 1) := by decide +kernel
theorem dX2_startNote_1 : decode (mc mX2_startNote) 1 = .ok (.getfield 11, 3) := by decide +kernel
theorem dX2_startNote_4 : decode (mc mX2_startNote) 4 = .ok (.iconst 2, 1) := by decide +kernel
theorem dX2_startNote_5 : decode (mc mX2_startNote) 5 = .ok (.iaload, 1) := by decide +kernel
theorem dX2_startNote_6 : decode (mc mX2_startNote) 6 = .ok (.istore 4, 2) := by decide +kernel
theorem dX2_startNote_8 : decode (mc mX2_startNote) 8 = .ok (.aload_n 0, 1) := by decide +kernel
theorem dX2_startNote_9 : decode (mc mX2_startNote) 9 = .ok (.getfield 11, 3) := by decide +kernel
theorem dX2_startNote_12 : decode (mc mX2_startNote) 12 = .ok (.iconst 2, 1) := by decide +kernel
theorem dX2_startNote_13 : decode (mc mX2_startNote) 13 = .ok (.dup2, 1) := by decide +kernel
theorem dX2_startNote_14 : decode (mc mX2_startNote) 14 = .ok (.iaload, 1) := by decide +kernel
theorem dX2_startNote_15 : decode (mc mX2_startNote) 15 = .ok (.iconst 1, 1) := by decide +kernel
theorem dX2_startNote_16 : decode (mc mX2_startNote) 16 = .ok (.iadd, 1) := by decide +kernel
theorem dX2_startNote_17 : decode (mc mX2_startNote) 17 = .ok (.iastore, 1) := by decide +kernel
theorem dX2_startNote_18 : decode (mc mX2_startNote) 18 = .ok (.aload_n 0, 1) := by decide +kernel
theorem dX2_startNote_19 : decode (mc mX2_startNote) 19 = .ok (.getfield 11, 3) := by decide +kernel
theorem dX2_startNote_22 : decode (mc mX2_startNote) 22 = .ok (.iload 4, 2) := by decide +kernel
theorem dX2_startNote_24 : decode (mc mX2_startNote) 24 = .ok (.iconst 0, 1) := by decide +kernel
theorem dX2_startNote_25 : decode (mc mX2_startNote) 25 = .ok (.invokestatic 153, 3) := by decide +kernel
theorem dX2_startNote_28 : decode (mc mX2_startNote) 28 = .ok (.iload_n 1, 1) := by decide +kernel
theorem dX2_startNote_29 : decode (mc mX2_startNote) 29 = .ok (.iastore, 1) := by decide +kernel
theorem dX2_startNote_30 : decode (mc mX2_startNote) 30 = .ok (.aload_n 0, 1) := by decide +kernel
theorem dX2_startNote_31 : decode (mc mX2_startNote) 31 = .ok (.getfield 11, 3) := by decide +kernel
theorem dX2_startNote_34 : decode (mc mX2_startNote) 34 = .ok (.iload 4, 2) := by decide +kernel
theorem dX2_startNote_36 : decode (mc mX2_startNote) 36 = .ok (.iconst 1, 1) := by decide +kernel
theorem dX2_startNote_37 : decode (mc mX2_startNote) 37 = .ok (.invokestatic 153, 3) := by decide +kernel
theorem dX2_startNote_40 : decode (mc mX2_startNote) 40 = .ok (.iload_n 2, 1) := by decide +kernel
theorem dX2_startNote_41 : decode (mc mX2_startNote) 41 = .ok (.iastore, 1) := by decide +kernel
theorem dX2_startNote_42 : decode (mc mX2_startNote) 42 = .ok (.aload_n 0, 1) := by decide +kernel
theorem dX2_startNote_43 : decode (mc mX2_startNote) 43 = .ok (.getfield 11, 3) := by decide +kernel
theorem dX2_startNote_46 : decode (mc mX2_startNote) 46 = .ok (.iload 4, 2) := by decide +kernel
theorem dX2_startNote_48 : decode (mc mX2_startNote) 48 = .ok (.iconst 2, 1) := by decide +kernel
theorem dX2_startNote_49 : decode (mc mX2_startNote) 49 = .ok (.invokestatic 153, 3) := by decide +kernel
theorem dX2_startNote_52 : decode (mc mX2_startNote) 52 = .ok (.iload_n 3, 1) := by decide +kernel
theorem dX2_startNote_53 : decode (mc mX2_startNote) 53 = .ok (.iastore, 1) := by decide +kernel
theorem dX2_startNote_54 : decode (mc mX2_startNote) 54 = .ok (.aload_n 0, 1) := by decide +kernel
theorem dX2_startNote_55 : decode (mc mX2_startNote) 55 = .ok (.getfield 11, 3) := by decide +kernel
theorem dX2_startNote_58 : decode (mc mX2_startNote) 58 = .ok (.iload 4, 2) := by decide +kernel
theorem dX2_startNote_60 : decode (mc mX2_startNote) 60 = .ok (.iconst 3, 1) := by decide +kernel
theorem dX2_startNote_61 : decode (mc mX2_startNote) 61 = .ok (.invokestatic 153, 3) := by decide +kernel
theorem dX2_startNote_64 : decode (mc mX2_startNote) 64 = .ok (.aload_n 0, 1) := by decide +kernel
theorem dX2_startNote_65 : decode (mc mX2_startNote) 65 = .ok (.iload_n 1, 1) := by decide +kernel
theorem dX2_startNote_66 : decode (mc mX2_startNote) 66 = .ok (.iload_n 2, 1) := by decide +kernel
theorem dX2_startNote_67 : decode (mc mX2_startNote) 67 = .ok (.iload_n 3, 1) := by decide +kernel
theorem dX2_startNote_68 : decode (mc mX2_startNote) 68 = .ok (.invokevirtual 156, 3) := by decide +kernel
theorem dX2_startNote_71 : decode (mc mX2_startNote) 71 = .ok (.iastore, 1) := by decide +kernel
theorem dX2_startNote_72 : decode (mc mX2_startNote) 72 = .ok (.aload_n 0, 1) := by decide +kernel
theorem dX2_startNote_73 : decode (mc mX2_startNote) 73 = .ok (.getfield 11, 3) := by decide +kernel
theorem dX2_startNote_76 : decode (mc mX2_startNote) 76 = .ok (.iload 4, 2) := by decide +kernel
theorem dX2_startNote_78 : decode (mc mX2_startNote) 78 = .ok (.iconst 4, 1) := by decide +kernel
theorem dX2_startNote_79 : decode (mc mX2_startNote) 79 = .ok (.invokestatic 153, 3) := by decide +kernel
theorem dX2_startNote_82 : decode (mc mX2_startNote) 82 = .ok (.aload_n 0, 1) := by decide +kernel
theorem dX2_startNote_83 : decode (mc mX2_startNote) 83 = .ok (.invokevirtual 88, 3) := by decide +kernel
theorem dX2_startNote_86 : decode (mc mX2_startNote) 86 = .ok (.iastore, 1) := by decide +kernel
theorem dX2_startNote_87 : decode (mc mX2_startNote) 87 = .ok (.aload_n 0, 1) := by decide +kernel
theorem dX2_startNote_88 : decode (mc mX2_startNote) 88 = .ok (.getfield 11, 3) := by decide +kernel
theorem dX2_startNote_91 : decode (mc mX2_startNote) 91 = .ok (.iload 4, 2) := by decide +kernel
theorem dX2_startNote_93 : decode (mc mX2_startNote) 93 = .ok (.iconst 5, 1) := by decide +kernel
theorem dX2_startNote_94 : decode (mc mX2_startNote) 94 = .ok (.invokestatic 153, 3) := by decide +kernel
theorem dX2_startNote_97 : decode (mc mX2_startNote) 97 = .ok (.iconst 0, 1) := by decide +kernel
theorem dX2_startNote_98 : decode (mc mX2_startNote) 98 = .ok (.iastore, 1) := by decide +kernel
theorem dX2_startNote_99 : decode (mc mX2_startNote) 99 = .ok (.aload_n 0, 1) := by decide +kernel
theorem dX2_startNote_100 : decode (mc mX2_startNote) 100 = .ok (.iload 4, 2) := by decide +kernel
theorem dX2_startNote_102 : decode (mc mX2_startNote) 102 = .ok (.invokevirtual 160, 3) := by decide +kernel
theorem dX2_startNote_105 : decode (mc mX2_startNote) 105 = .ok (.aload_n 0, 1) := by decide +kernel
theorem dX2_startNote_106 : decode (mc mX2_startNote) 106 = .ok (.iload 4, 2) := by decide +kernel
theorem dX2_startNote_108 : decode (mc mX2_startNote) 108 = .ok (.iconst 1, 1) := by decide +kernel
theorem dX2_startNote_109 : decode (mc mX2_startNote) 109 = .ok (.invokevirtual 163, 3) := by decide +kernel
theorem dX2_startNote_112 : decode (mc mX2_startNote) 112 = .ok (.aload_n 0, 1) := by decide +kernel
theorem dX2_startNote_113 : decode (mc mX2_startNote) 113 = .ok (.getfield 11, 3) := by decide +kernel
theorem dX2_startNote_116 : decode (mc mX2_startNote) 116 = .ok (.iload_n 2, 1) := by decide +kernel
theorem dX2_startNote_117 : decode (mc mX2_startNote) 117 = .ok (.iconst 5, 1) := by decide +kernel
theorem dX2_startNote_118 : decode (mc mX2_startNote) 118 = .ok (.invokestatic 100, 3) := by decide +kernel
theorem dX2_startNote_121 : decode (mc mX2_startNote) 121 = .ok (.dup2, 1) := by decide +kernel
theorem dX2_startNote_122 : decode (mc mX2_startNote) 122 = .ok (.iaload, 1) := by decide +kernel
theorem dX2_startNote_123 : decode (mc mX2_startNote) 123 = .ok (.iconst 1, 1) := by decide +kernel
theorem dX2_startNote_124 : decode (mc mX2_startNote) 124 = .ok (.iadd, 1) := by decide +kernel
theorem dX2_startNote_125 : decode (mc mX2_startNote) 125 = .ok (.iastore, 1) := by decide +kernel
theorem dX2_startNote_126 : decode (mc mX2_startNote) 126 = .ok (.iload 4, 2) := by decide +kernel
theorem dX2_startNote_128 : decode (mc mX2_startNote) 128 = .ok (.ireturn, 1) := by decide +kernel
theorem dX2_splitFee_0 : decode (mc mX2_splitFee) 0 = .ok (.iconst 0, 1) := by decide +kernel
theorem dX2_splitFee_1 : decode (mc mX2_splitFee) 1 = .ok (.istore_n 2, 1) := by decide +kernel
theorem dX2_splitFee_2 : decode (mc mX2_splitFee) 2 = .ok (.iload_n 2, 1) := by decide +kernel
theorem dX2_splitFee_3 : decode (mc mX2_splitFee) 3 = .ok (.bipush 6, 2) := by decide +kernel
theorem dX2_splitFee_5 : decode (mc mX2_splitFee) 5 = .ok (.if_icmp .ge 23, 3) := by decide +kernel
theorem dX2_splitFee_8 : decode (mc mX2_splitFee) 8 = .ok (.aload_n 0, 1) := by decide +kernel
theorem dX2_splitFee_9 : decode (mc mX2_splitFee) 9 = .ok (.getfield 11, 3) := by decide +kernel
theorem dX2_splitFee_12 : decode (mc mX2_splitFee) 12 = .ok (.iload_n 1, 1) := by decide +kernel
theorem dX2_splitFee_13 : decode (mc mX2_splitFee) 13 = .ok (.bipush 7, 2) := by decide +kernel
theorem dX2_splitFee_15 : decode (mc mX2_splitFee) 15 = .ok (.iload_n 2, 1) := by decide +kernel
theorem dX2_splitFee_16 : decode (mc mX2_splitFee) 16 = .ok (.iadd, 1) := by decide +kernel
theorem dX2_splitFee_17 : decode (mc mX2_splitFee) 17 = .ok (.invokestatic 153, 3) := by decide +kernel
theorem dX2_splitFee_20 : decode (mc mX2_splitFee) 20 = .ok (.iconst 0, 1) := by decide +kernel
theorem dX2_splitFee_21 : decode (mc mX2_splitFee) 21 = .ok (.iastore, 1) := by decide +kernel
theorem dX2_splitFee_22 : decode (mc mX2_splitFee) 22 = .ok (.iinc 2 1, 3) := by decide +kernel
theorem dX2_splitFee_25 : decode (mc mX2_splitFee) 25 = .ok (.goto (-23), 3) := by decide +kernel
theorem dX2_splitFee_28 : decode (mc mX2_splitFee) 28 = .ok (.aload_n 0, 1) := by decide +kernel
theorem dX2_splitFee_29 : decode (mc mX2_splitFee) 29 = .ok (.iload_n 1, 1) := by decide +kernel
theorem dX2_splitFee_30 : decode (mc mX2_splitFee) 30 = .ok (.iconst 3, 1) := by decide +kernel
theorem dX2_splitFee_31 : decode (mc mX2_splitFee) 31 = .ok (.invokevirtual 76, 3) := by decide +kernel
theorem dX2_splitFee_34 : decode (mc mX2_splitFee) 34 = .ok (.aload_n 0, 1) := by decide +kernel
theorem dX2_splitFee_35 : decode (mc mX2_splitFee) 35 = .ok (.iconst 1, 1) := by decide +kernel
theorem dX2_splitFee_36 : decode (mc mX2_splitFee) 36 = .ok (.invokevirtual 94, 3) := by decide +kernel
theorem dX2_splitFee_39 : decode (mc mX2_splitFee) 39 = .ok (.imul, 1) := by decide +kernel
theorem dX2_splitFee_40 : decode (mc mX2_splitFee) 40 = .ok (.bipush 100, 2) := by decide +kernel
theorem dX2_splitFee_42 : decode (mc mX2_splitFee) 42 = .ok (.idiv, 1) := by decide +kernel
theorem dX2_splitFee_43 : decode (mc mX2_splitFee) 43 = .ok (.istore_n 2, 1) := by decide +kernel
theorem dX2_splitFee_44 : decode (mc mX2_splitFee) 44 = .ok (.aload_n 0, 1) := by decide +kernel
theorem dX2_splitFee_45 : decode (mc mX2_splitFee) 45 = .ok (.getfield 11, 3) := by decide +kernel
theorem dX2_splitFee_48 : decode (mc mX2_splitFee) 48 = .ok (.iload_n 1, 1) := by decide +kernel
theorem dX2_splitFee_49 : decode (mc mX2_splitFee) 49 = .ok (.bipush 6, 2) := by decide +kernel
theorem dX2_splitFee_51 : decode (mc mX2_splitFee) 51 = .ok (.invokestatic 153, 3) := by decide +kernel
theorem dX2_splitFee_54 : decode (mc mX2_splitFee) 54 = .ok (.iload_n 2, 1) := by decide +kernel
theorem dX2_splitFee_55 : decode (mc mX2_splitFee) 55 = .ok (.iastore, 1) := by decide +kernel
theorem dX2_splitFee_56 : decode (mc mX2_splitFee) 56 = .ok (.aload_n 0, 1) := by decide +kernel
theorem dX2_splitFee_57 : decode (mc mX2_splitFee) 57 = .ok (.iload_n 1, 1) := by decide +kernel
theorem dX2_splitFee_58 : decode (mc mX2_splitFee) 58 = .ok (.iconst 3, 1) := by decide +kernel
theorem dX2_splitFee_59 : decode (mc mX2_splitFee) 59 = .ok (.invokevirtual 76, 3) := by decide +kernel
theorem dX2_splitFee_62 : decode (mc mX2_splitFee) 62 = .ok (.iload_n 2, 1) := by decide +kernel
theorem dX2_splitFee_63 : decode (mc mX2_splitFee) 63 = .ok (.isub, 1) := by decide +kernel
theorem dX2_splitFee_64 : decode (mc mX2_splitFee) 64 = .ok (.istore_n 3, 1) := by decide +kernel
theorem dX2_splitFee_65 : decode (mc mX2_splitFee) 65 = .ok (.aload_n 0, 1) := by decide +kernel
theorem dX2_splitFee_66 : decode (mc mX2_splitFee) 66 = .ok (.iload_n 1, 1) := by decide +kernel
theorem dX2_splitFee_67 : decode (mc mX2_splitFee) 67 = .ok (.iconst 1, 1) := by decide +kernel
theorem dX2_splitFee_68 : decode (mc mX2_splitFee) 68 = .ok (.invokevirtual 76, 3) := by decide +kernel
theorem dX2_splitFee_71 : decode (mc mX2_splitFee) 71 = .ok (.istore 4, 2) := by decide +kernel
theorem dX2_splitFee_73 : decode (mc mX2_splitFee) 73 = .ok (.iconst 0, 1) := by decide +kernel
theorem dX2_splitFee_74 : decode (mc mX2_splitFee) 74 = .ok (.istore 5, 2) := by decide +kernel
theorem dX2_splitFee_76 : decode (mc mX2_splitFee) 76 = .ok (.iload 5, 2) := by decide +kernel
theorem dX2_splitFee_78 : decode (mc mX2_splitFee) 78 = .ok (.bipush 20, 2) := by decide +kernel
theorem dX2_splitFee_80 : decode (mc mX2_splitFee) 80 = .ok (.if_icmp .ge 79, 3) := by decide +kernel
theorem dX2_splitFee_83 : decode (mc mX2_splitFee) 83 = .ok (.iload 4, 2) := by decide +kernel
theorem dX2_splitFee_85 : decode (mc mX2_splitFee) 85 = .ok (.ldc 167, 2) := by decide +kernel
theorem dX2_splitFee_87 : decode (mc mX2_splitFee) 87 = .ok (.if_icmp .eq 72, 3) := by decide +kernel
theorem dX2_splitFee_90 : decode (mc mX2_splitFee) 90 = .ok (.aload_n 0, 1) := by decide +kernel
theorem dX2_splitFee_91 : decode (mc mX2_splitFee) 91 = .ok (.iload 4, 2) := by decide +kernel
theorem dX2_splitFee_93 : decode (mc mX2_splitFee) 93 = .ok (.invokevirtual 168, 3) := by decide +kernel
theorem dX2_splitFee_96 : decode (mc mX2_splitFee) 96 = .ok (.istore 6, 2) := by decide +kernel
theorem dX2_splitFee_98 : decode (mc mX2_splitFee) 98 = .ok (.iload 6, 2) := by decide +kernel
theorem dX2_splitFee_100 : decode (mc mX2_splitFee) 100 = .ok (.ldc 167, 2) := by decide +kernel
theorem dX2_splitFee_102 : decode (mc mX2_splitFee) 102 = .ok (.if_icmp .ne 7, 3) := by decide +kernel
theorem dX2_splitFee_105 : decode (mc mX2_splitFee) 105 = .ok (.iconst 0, 1) := by decide +kernel
theorem dX2_splitFee_106 : decode (mc mX2_splitFee) 106 = .ok (.goto 13, 3) := by decide +kernel
theorem dX2_splitFee_109 : decode (mc mX2_splitFee) 109 = .ok (.iload_n 3, 1) := by decide +kernel
theorem dX2_splitFee_110 : decode (mc mX2_splitFee) 110 = .ok (.aload_n 0, 1) := by decide +kernel
theorem dX2_splitFee_111 : decode (mc mX2_splitFee) 111 = .ok (.iconst 2, 1) := by decide +kernel
theorem dX2_splitFee_112 : decode (mc mX2_splitFee) 112 = .ok (.invokevirtual 94, 3) := by decide +kernel
theorem dX2_splitFee_115 : decode (mc mX2_splitFee) 115 = .ok (.imul, 1) := by decide +kernel
theorem dX2_splitFee_116 : decode (mc mX2_splitFee) 116 = .ok (.bipush 100, 2) := by decide +kernel
theorem dX2_splitFee_118 : decode (mc mX2_splitFee) 118 = .ok (.idiv, 1) := by decide +kernel
theorem dX2_splitFee_119 : decode (mc mX2_splitFee) 119 = .ok (.istore 7, 2) := by decide +kernel
theorem dX2_splitFee_121 : decode (mc mX2_splitFee) 121 = .ok (.aload_n 0, 1) := by decide +kernel
theorem dX2_splitFee_122 : decode (mc mX2_splitFee) 122 = .ok (.getfield 11, 3) := by decide +kernel
theorem dX2_splitFee_125 : decode (mc mX2_splitFee) 125 = .ok (.iload_n 1, 1) := by decide +kernel
theorem dX2_splitFee_126 : decode (mc mX2_splitFee) 126 = .ok (.bipush 7, 2) := by decide +kernel
theorem dX2_splitFee_128 : decode (mc mX2_splitFee) 128 = .ok (.aload_n 0, 1) := by decide +kernel
theorem dX2_splitFee_129 : decode (mc mX2_splitFee) 129 = .ok (.iload 4, 2) := by decide +kernel
theorem dX2_splitFee_131 : decode (mc mX2_splitFee) 131 = .ok (.invokevirtual 73, 3) := by decide +kernel
theorem dX2_splitFee_134 : decode (mc mX2_splitFee) 134 = .ok (.iadd, 1) := by decide +kernel
theorem dX2_splitFee_135 : decode (mc mX2_splitFee) 135 = .ok (.invokestatic 153, 3) := by decide +kernel
theorem dX2_splitFee_138 : decode (mc mX2_splitFee) 138 = .ok (.dup2, 1) := by decide +kernel
theorem dX2_splitFee_139 : decode (mc mX2_splitFee) 139 = .ok (.iaload, 1) := by decide +kernel
theorem dX2_splitFee_140 : decode (mc mX2_splitFee) 140 = .ok (.iload_n 3, 1) := by decide +kernel
theorem dX2_splitFee_141 : decode (mc mX2_splitFee) 141 = .ok (.iload 7, 2) := by decide +kernel
theorem dX2_splitFee_143 : decode (mc mX2_splitFee) 143 = .ok (.isub, 1) := by decide +kernel
theorem dX2_splitFee_144 : decode (mc mX2_splitFee) 144 = .ok (.iadd, 1) := by decide +kernel
theorem dX2_splitFee_145 : decode (mc mX2_splitFee) 145 = .ok (.iastore, 1) := by decide +kernel
theorem dX2_splitFee_146 : decode (mc mX2_splitFee) 146 = .ok (.iload 7, 2) := by decide +kernel
theorem dX2_splitFee_148 : decode (mc mX2_splitFee) 148 = .ok (.istore_n 3, 1) := by decide +kernel
theorem dX2_splitFee_149 : decode (mc mX2_splitFee) 149 = .ok (.iload 6, 2) := by decide +kernel
theorem dX2_splitFee_151 : decode (mc mX2_splitFee) 151 = .ok (.istore 4, 2) := by decide +kernel
theorem dX2_splitFee_153 : decode (mc mX2_splitFee) 153 = .ok (.iinc 5 1, 3) := by decide +kernel
theorem dX2_splitFee_156 : decode (mc mX2_splitFee) 156 = .ok (.goto (-80), 3) := by decide +kernel
theorem dX2_splitFee_159 : decode (mc mX2_splitFee) 159 = .ok (.return_, 1) := by decide +kernel
theorem dX2_moveMoney_0 : decode (mc mX2_moveMoney) 0 = .ok (.aload_n 0, 1) := by decide +kernel
theorem dX2_moveMoney_1 : decode (mc mX2_moveMoney) 1 = .ok (.getfield 11, 3) := by decide +kernel
theorem dX2_moveMoney_4 : decode (mc mX2_moveMoney) 4 = .ok (.aload_n 0, 1) := by decide +kernel
theorem dX2_moveMoney_5 : decode (mc mX2_moveMoney) 5 = .ok (.iload_n 1, 1) := by decide +kernel
theorem dX2_moveMoney_6 : decode (mc mX2_moveMoney) 6 = .ok (.iconst 0, 1) := by decide +kernel
theorem dX2_moveMoney_7 : decode (mc mX2_moveMoney) 7 = .ok (.invokevirtual 76, 3) := by decide +kernel
theorem dX2_moveMoney_10 : decode (mc mX2_moveMoney) 10 = .ok (.iconst 1, 1) := by decide +kernel
theorem dX2_moveMoney_11 : decode (mc mX2_moveMoney) 11 = .ok (.invokestatic 55, 3) := by decide +kernel
theorem dX2_moveMoney_14 : decode (mc mX2_moveMoney) 14 = .ok (.dup2, 1) := by decide +kernel
theorem dX2_moveMoney_15 : decode (mc mX2_moveMoney) 15 = .ok (.iaload, 1) := by decide +kernel
theorem dX2_moveMoney_16 : decode (mc mX2_moveMoney) 16 = .ok (.iload_n 2, 1) := by decide +kernel
theorem dX2_moveMoney_17 : decode (mc mX2_moveMoney) 17 = .ok (.aload_n 0, 1) := by decide +kernel
theorem dX2_moveMoney_18 : decode (mc mX2_moveMoney) 18 = .ok (.iload_n 1, 1) := by decide +kernel
theorem dX2_moveMoney_19 : decode (mc mX2_moveMoney) 19 = .ok (.iconst 3, 1) := by decide +kernel
theorem dX2_moveMoney_20 : decode (mc mX2_moveMoney) 20 = .ok (.invokevirtual 76, 3) := by decide +kernel
theorem dX2_moveMoney_23 : decode (mc mX2_moveMoney) 23 = .ok (.imul, 1) := by decide +kernel
theorem dX2_moveMoney_24 : decode (mc mX2_moveMoney) 24 = .ok (.isub, 1) := by decide +kernel
theorem dX2_moveMoney_25 : decode (mc mX2_moveMoney) 25 = .ok (.iastore, 1) := by decide +kernel
theorem dX2_moveMoney_26 : decode (mc mX2_moveMoney) 26 = .ok (.aload_n 0, 1) := by decide +kernel
theorem dX2_moveMoney_27 : decode (mc mX2_moveMoney) 27 = .ok (.getfield 11, 3) := by decide +kernel
theorem dX2_moveMoney_30 : decode (mc mX2_moveMoney) 30 = .ok (.iconst 4, 1) := by decide +kernel
theorem dX2_moveMoney_31 : decode (mc mX2_moveMoney) 31 = .ok (.dup2, 1) := by decide +kernel
theorem dX2_moveMoney_32 : decode (mc mX2_moveMoney) 32 = .ok (.iaload, 1) := by decide +kernel
theorem dX2_moveMoney_33 : decode (mc mX2_moveMoney) 33 = .ok (.iload_n 2, 1) := by decide +kernel
theorem dX2_moveMoney_34 : decode (mc mX2_moveMoney) 34 = .ok (.aload_n 0, 1) := by decide +kernel
theorem dX2_moveMoney_35 : decode (mc mX2_moveMoney) 35 = .ok (.iload_n 1, 1) := by decide +kernel
theorem dX2_moveMoney_36 : decode (mc mX2_moveMoney) 36 = .ok (.bipush 6, 2) := by decide +kernel
theorem dX2_moveMoney_38 : decode (mc mX2_moveMoney) 38 = .ok (.invokevirtual 76, 3) := by decide +kernel
theorem dX2_moveMoney_41 : decode (mc mX2_moveMoney) 41 = .ok (.imul, 1) := by decide +kernel
theorem dX2_moveMoney_42 : decode (mc mX2_moveMoney) 42 = .ok (.iadd, 1) := by decide +kernel
theorem dX2_moveMoney_43 : decode (mc mX2_moveMoney) 43 = .ok (.iastore, 1) := by decide +kernel
theorem dX2_moveMoney_44 : decode (mc mX2_moveMoney) 44 = .ok (.iconst 0, 1) := by decide +kernel
theorem dX2_moveMoney_45 : decode (mc mX2_moveMoney) 45 = .ok (.istore_n 3, 1) := by decide +kernel
theorem dX2_moveMoney_46 : decode (mc mX2_moveMoney) 46 = .ok (.iload_n 3, 1) := by decide +kernel
theorem dX2_moveMoney_47 : decode (mc mX2_moveMoney) 47 = .ok (.aload_n 0, 1) := by decide +kernel
theorem dX2_moveMoney_48 : decode (mc mX2_moveMoney) 48 = .ok (.invokevirtual 45, 3) := by decide +kernel
theorem dX2_moveMoney_51 : decode (mc mX2_moveMoney) 51 = .ok (.if_icmp .ge 33, 3) := by decide +kernel
theorem dX2_moveMoney_54 : decode (mc mX2_moveMoney) 54 = .ok (.aload_n 0, 1) := by decide +kernel
theorem dX2_moveMoney_55 : decode (mc mX2_moveMoney) 55 = .ok (.getfield 11, 3) := by decide +kernel
theorem dX2_moveMoney_58 : decode (mc mX2_moveMoney) 58 = .ok (.iload_n 3, 1) := by decide +kernel
theorem dX2_moveMoney_59 : decode (mc mX2_moveMoney) 59 = .ok (.iconst 1, 1) := by decide +kernel
theorem dX2_moveMoney_60 : decode (mc mX2_moveMoney) 60 = .ok (.invokestatic 55, 3) := by decide +kernel
theorem dX2_moveMoney_63 : decode (mc mX2_moveMoney) 63 = .ok (.dup2, 1) := by decide +kernel
theorem dX2_moveMoney_64 : decode (mc mX2_moveMoney) 64 = .ok (.iaload, 1) := by decide +kernel
theorem dX2_moveMoney_65 : decode (mc mX2_moveMoney) 65 = .ok (.iload_n 2, 1) := by decide +kernel
theorem dX2_moveMoney_66 : decode (mc mX2_moveMoney) 66 = .ok (.aload_n 0, 1) := by decide +kernel
theorem dX2_moveMoney_67 : decode (mc mX2_moveMoney) 67 = .ok (.iload_n 1, 1) := by decide +kernel
theorem dX2_moveMoney_68 : decode (mc mX2_moveMoney) 68 = .ok (.bipush 7, 2) := by decide +kernel
theorem dX2_moveMoney_70 : decode (mc mX2_moveMoney) 70 = .ok (.iload_n 3, 1) := by decide +kernel
theorem dX2_moveMoney_71 : decode (mc mX2_moveMoney) 71 = .ok (.iadd, 1) := by decide +kernel
theorem dX2_moveMoney_72 : decode (mc mX2_moveMoney) 72 = .ok (.invokevirtual 76, 3) := by decide +kernel
theorem dX2_moveMoney_75 : decode (mc mX2_moveMoney) 75 = .ok (.imul, 1) := by decide +kernel
theorem dX2_moveMoney_76 : decode (mc mX2_moveMoney) 76 = .ok (.iadd, 1) := by decide +kernel
theorem dX2_moveMoney_77 : decode (mc mX2_moveMoney) 77 = .ok (.iastore, 1) := by decide +kernel
theorem dX2_moveMoney_78 : decode (mc mX2_moveMoney) 78 = .ok (.iinc 3 1, 3) := by decide +kernel
theorem dX2_moveMoney_81 : decode (mc mX2_moveMoney) 81 = .ok (.goto (-35), 3) := by decide +kernel
theorem dX2_moveMoney_84 : decode (mc mX2_moveMoney) 84 = .ok (.return_, 1) := by decide +kernel
theorem dX2_markEndings_0 : decode (mc mX2_markEndings) 0 = .ok (.iconst 0, 1) := by decide +kernel
theorem dX2_markEndings_1 : decode (mc mX2_markEndings) 1 = .ok (.istore_n 2, 1) := by decide +kernel
theorem dX2_markEndings_2 : decode (mc mX2_markEndings) 2 = .ok (.iload_n 2, 1) := by decide +kernel
theorem dX2_markEndings_3 : decode (mc mX2_markEndings) 3 = .ok (.bipush 20, 2) := by decide +kernel
theorem dX2_markEndings_5 : decode (mc mX2_markEndings) 5 = .ok (.if_icmp .ge 25, 3) := by decide +kernel
theorem dX2_markEndings_8 : decode (mc mX2_markEndings) 8 = .ok (.aload_n 0, 1) := by decide +kernel
theorem dX2_markEndings_9 : decode (mc mX2_markEndings) 9 = .ok (.getfield 15, 3) := by decide +kernel
theorem dX2_markEndings_12 : decode (mc mX2_markEndings) 12 = .ok (.iload_n 2, 1) := by decide +kernel
theorem dX2_markEndings_13 : decode (mc mX2_markEndings) 13 = .ok (.iload_n 2, 1) := by decide +kernel
theorem dX2_markEndings_14 : decode (mc mX2_markEndings) 14 = .ok (.iload_n 1, 1) := by decide +kernel
theorem dX2_markEndings_15 : decode (mc mX2_markEndings) 15 = .ok (.if_icmp .ne 7, 3) := by decide +kernel
theorem dX2_markEndings_18 : decode (mc mX2_markEndings) 18 = .ok (.iconst 1, 1) := by decide +kernel
theorem dX2_markEndings_19 : decode (mc mX2_markEndings) 19 = .ok (.goto 4, 3) := by decide +kernel
theorem dX2_markEndings_22 : decode (mc mX2_markEndings) 22 = .ok (.iconst 0, 1) := by decide +kernel
theorem dX2_markEndings_23 : decode (mc mX2_markEndings) 23 = .ok (.bastore, 1) := by decide +kernel
theorem dX2_markEndings_24 : decode (mc mX2_markEndings) 24 = .ok (.iinc 2 1, 3) := by decide +kernel
theorem dX2_markEndings_27 : decode (mc mX2_markEndings) 27 = .ok (.goto (-25), 3) := by decide +kernel
theorem dX2_markEndings_30 : decode (mc mX2_markEndings) 30 = .ok (.iconst 0, 1) := by decide +kernel
theorem dX2_markEndings_31 : decode (mc mX2_markEndings) 31 = .ok (.istore_n 2, 1) := by decide +kernel
theorem dX2_markEndings_32 : decode (mc mX2_markEndings) 32 = .ok (.iload_n 2, 1) := by decide +kernel
theorem dX2_markEndings_33 : decode (mc mX2_markEndings) 33 = .ok (.aload_n 0, 1) := by decide +kernel
theorem dX2_markEndings_34 : decode (mc mX2_markEndings) 34 = .ok (.invokevirtual 49, 3) := by decide +kernel
theorem dX2_markEndings_37 : decode (mc mX2_markEndings) 37 = .ok (.if_icmp .ge 42, 3) := by decide +kernel
theorem dX2_markEndings_40 : decode (mc mX2_markEndings) 40 = .ok (.aload_n 0, 1) := by decide +kernel
theorem dX2_markEndings_41 : decode (mc mX2_markEndings) 41 = .ok (.iload_n 2, 1) := by decide +kernel
theorem dX2_markEndings_42 : decode (mc mX2_markEndings) 42 = .ok (.invokevirtual 171, 3) := by decide +kernel
theorem dX2_markEndings_45 : decode (mc mX2_markEndings) 45 = .ok (.ifCond .eq 28, 3) := by decide +kernel
theorem dX2_markEndings_48 : decode (mc mX2_markEndings) 48 = .ok (.aload_n 0, 1) := by decide +kernel
theorem dX2_markEndings_49 : decode (mc mX2_markEndings) 49 = .ok (.iload_n 2, 1) := by decide +kernel
theorem dX2_markEndings_50 : decode (mc mX2_markEndings) 50 = .ok (.aload_n 0, 1) := by decide +kernel
theorem dX2_markEndings_51 : decode (mc mX2_markEndings) 51 = .ok (.iload_n 2, 1) := by decide +kernel
theorem dX2_markEndings_52 : decode (mc mX2_markEndings) 52 = .ok (.invokevirtual 168, 3) := by decide +kernel
theorem dX2_markEndings_55 : decode (mc mX2_markEndings) 55 = .ok (.invokevirtual 174, 3) := by decide +kernel
theorem dX2_markEndings_58 : decode (mc mX2_markEndings) 58 = .ok (.aload_n 0, 1) := by decide +kernel
theorem dX2_markEndings_59 : decode (mc mX2_markEndings) 59 = .ok (.iconst 4, 1) := by decide +kernel
theorem dX2_markEndings_60 : decode (mc mX2_markEndings) 60 = .ok (.invokevirtual 94, 3) := by decide +kernel
theorem dX2_markEndings_63 : decode (mc mX2_markEndings) 63 = .ok (.if_icmp .lt 10, 3) := by decide +kernel
theorem dX2_markEndings_66 : decode (mc mX2_markEndings) 66 = .ok (.aload_n 0, 1) := by decide +kernel
theorem dX2_markEndings_67 : decode (mc mX2_markEndings) 67 = .ok (.getfield 15, 3) := by decide +kernel
theorem dX2_markEndings_70 : decode (mc mX2_markEndings) 70 = .ok (.iload_n 2, 1) := by decide +kernel
theorem dX2_markEndings_71 : decode (mc mX2_markEndings) 71 = .ok (.iconst 1, 1) := by decide +kernel
theorem dX2_markEndings_72 : decode (mc mX2_markEndings) 72 = .ok (.bastore, 1) := by decide +kernel
theorem dX2_markEndings_73 : decode (mc mX2_markEndings) 73 = .ok (.iinc 2 1, 3) := by decide +kernel
theorem dX2_markEndings_76 : decode (mc mX2_markEndings) 76 = .ok (.goto (-44), 3) := by decide +kernel
theorem dX2_markEndings_79 : decode (mc mX2_markEndings) 79 = .ok (.return_, 1) := by decide +kernel
theorem dX2_hasMarkedParent_0 : decode (mc mX2_hasMarkedParent) 0 = .ok (.aload_n 0, 1) := by decide +kernel
theorem dX2_hasMarkedParent_1 : decode (mc mX2_hasMarkedParent) 1 = .ok (.iload_n 1, 1) := by decide +kernel
theorem dX2_hasMarkedParent_2 : decode (mc mX2_hasMarkedParent) 2 = .ok (.invokevirtual 69, 3) := by decide +kernel
theorem dX2_hasMarkedParent_5 : decode (mc mX2_hasMarkedParent) 5 = .ok (.ifCond .eq 30, 3) := by decide +kernel
theorem dX2_hasMarkedParent_8 : decode (mc mX2_hasMarkedParent) 8 = .ok (.aload_n 0, 1) := by decide +kernel
theorem dX2_hasMarkedParent_9 : decode (mc mX2_hasMarkedParent) 9 = .ok (.iload_n 1, 1) := by decide +kernel
theorem dX2_hasMarkedParent_10 : decode (mc mX2_hasMarkedParent) 10 = .ok (.invokevirtual 168, 3) := by decide +kernel
theorem dX2_hasMarkedParent_13 : decode (mc mX2_hasMarkedParent) 13 = .ok (.ldc 167, 2) := by decide +kernel
theorem dX2_hasMarkedParent_15 : decode (mc mX2_hasMarkedParent) 15 = .ok (.if_icmp .eq 20, 3) := by decide +kernel
theorem dX2_hasMarkedParent_18 : decode (mc mX2_hasMarkedParent) 18 = .ok (.aload_n 0, 1) := by decide +kernel
theorem dX2_hasMarkedParent_19 : decode (mc mX2_hasMarkedParent) 19 = .ok (.getfield 15, 3) := by decide +kernel
theorem dX2_hasMarkedParent_22 : decode (mc mX2_hasMarkedParent) 22 = .ok (.aload_n 0, 1) := by decide +kernel
theorem dX2_hasMarkedParent_23 : decode (mc mX2_hasMarkedParent) 23 = .ok (.iload_n 1, 1) := by decide +kernel
theorem dX2_hasMarkedParent_24 : decode (mc mX2_hasMarkedParent) 24 = .ok (.invokevirtual 168, 3) := by decide +kernel
theorem dX2_hasMarkedParent_27 : decode (mc mX2_hasMarkedParent) 27 = .ok (.baload, 1) := by decide +kernel
theorem dX2_hasMarkedParent_28 : decode (mc mX2_hasMarkedParent) 28 = .ok (.ifCond .eq 7, 3) := by decide +kernel
theorem dX2_hasMarkedParent_31 : decode (mc mX2_hasMarkedParent) 31 = .ok (.iconst 1, 1) := by decide +kernel
theorem dX2_hasMarkedParent_32 : decode (mc mX2_hasMarkedParent) 32 = .ok (.goto 4, 3) := by decide +kernel
theorem dX2_hasMarkedParent_35 : decode (mc mX2_hasMarkedParent) 35 = .ok (.iconst 0, 1) := by decide +kernel
theorem dX2_hasMarkedParent_36 : decode (mc mX2_hasMarkedParent) 36 = .ok (.ireturn, 1) := by decide +kernel
theorem dX2_endMarked_0 : decode (mc mX2_endMarked) 0 = .ok (.iconst 0, 1) := by decide +kernel
theorem dX2_endMarked_1 : decode (mc mX2_endMarked) 1 = .ok (.istore_n 1, 1) := by decide +kernel
theorem dX2_endMarked_2 : decode (mc mX2_endMarked) 2 = .ok (.iconst 0, 1) := by decide +kernel
theorem dX2_endMarked_3 : decode (mc mX2_endMarked) 3 = .ok (.istore_n 2, 1) := by decide +kernel
theorem dX2_endMarked_4 : decode (mc mX2_endMarked) 4 = .ok (.iload_n 2, 1) := by decide +kernel
theorem dX2_endMarked_5 : decode (mc mX2_endMarked) 5 = .ok (.aload_n 0, 1) := by decide +kernel
theorem dX2_endMarked_6 : decode (mc mX2_endMarked) 6 = .ok (.invokevirtual 49, 3) := by decide +kernel
theorem dX2_endMarked_9 : decode (mc mX2_endMarked) 9 = .ok (.if_icmp .ge 55, 3) := by decide +kernel
theorem dX2_endMarked_12 : decode (mc mX2_endMarked) 12 = .ok (.aload_n 0, 1) := by decide +kernel
theorem dX2_endMarked_13 : decode (mc mX2_endMarked) 13 = .ok (.getfield 15, 3) := by decide +kernel
theorem dX2_endMarked_16 : decode (mc mX2_endMarked) 16 = .ok (.iload_n 2, 1) := by decide +kernel
theorem dX2_endMarked_17 : decode (mc mX2_endMarked) 17 = .ok (.baload, 1) := by decide +kernel
theorem dX2_endMarked_18 : decode (mc mX2_endMarked) 18 = .ok (.ifCond .eq 20, 3) := by decide +kernel
theorem dX2_endMarked_21 : decode (mc mX2_endMarked) 21 = .ok (.aload_n 0, 1) := by decide +kernel
theorem dX2_endMarked_22 : decode (mc mX2_endMarked) 22 = .ok (.getfield 11, 3) := by decide +kernel
theorem dX2_endMarked_25 : decode (mc mX2_endMarked) 25 = .ok (.iload_n 2, 1) := by decide +kernel
theorem dX2_endMarked_26 : decode (mc mX2_endMarked) 26 = .ok (.iconst 4, 1) := by decide +kernel
theorem dX2_endMarked_27 : decode (mc mX2_endMarked) 27 = .ok (.invokestatic 100, 3) := by decide +kernel
theorem dX2_endMarked_30 : decode (mc mX2_endMarked) 30 = .ok (.iconst 0, 1) := by decide +kernel
theorem dX2_endMarked_31 : decode (mc mX2_endMarked) 31 = .ok (.iastore, 1) := by decide +kernel
theorem dX2_endMarked_32 : decode (mc mX2_endMarked) 32 = .ok (.iinc 1 1, 3) := by decide +kernel
theorem dX2_endMarked_35 : decode (mc mX2_endMarked) 35 = .ok (.goto 23, 3) := by decide +kernel
theorem dX2_endMarked_38 : decode (mc mX2_endMarked) 38 = .ok (.aload_n 0, 1) := by decide +kernel
theorem dX2_endMarked_39 : decode (mc mX2_endMarked) 39 = .ok (.iload_n 2, 1) := by decide +kernel
theorem dX2_endMarked_40 : decode (mc mX2_endMarked) 40 = .ok (.invokevirtual 171, 3) := by decide +kernel
theorem dX2_endMarked_43 : decode (mc mX2_endMarked) 43 = .ok (.ifCond .eq 15, 3) := by decide +kernel
theorem dX2_endMarked_46 : decode (mc mX2_endMarked) 46 = .ok (.aload_n 0, 1) := by decide +kernel
theorem dX2_endMarked_47 : decode (mc mX2_endMarked) 47 = .ok (.getfield 11, 3) := by decide +kernel
theorem dX2_endMarked_50 : decode (mc mX2_endMarked) 50 = .ok (.iload_n 2, 1) := by decide +kernel
theorem dX2_endMarked_51 : decode (mc mX2_endMarked) 51 = .ok (.iconst 3, 1) := by decide +kernel
theorem dX2_endMarked_52 : decode (mc mX2_endMarked) 52 = .ok (.invokestatic 100, 3) := by decide +kernel
theorem dX2_endMarked_55 : decode (mc mX2_endMarked) 55 = .ok (.ldc 167, 2) := by decide +kernel
theorem dX2_endMarked_57 : decode (mc mX2_endMarked) 57 = .ok (.iastore, 1) := by decide +kernel
theorem dX2_endMarked_58 : decode (mc mX2_endMarked) 58 = .ok (.iinc 2 1, 3) := by decide +kernel
theorem dX2_endMarked_61 : decode (mc mX2_endMarked) 61 = .ok (.goto (-57), 3) := by decide +kernel
theorem dX2_endMarked_64 : decode (mc mX2_endMarked) 64 = .ok (.iload_n 1, 1) := by decide +kernel
theorem dX2_endMarked_65 : decode (mc mX2_endMarked) 65 = .ok (.ireturn, 1) := by decide +kernel
theorem dX2_isOwed_0 : decode (mc mX2_isOwed) 0 = .ok (.aload_n 0, 1) := by decide +kernel
theorem dX2_isOwed_1 : decode (mc mX2_isOwed) 1 = .ok (.iload_n 1, 1) := by decide +kernel
theorem dX2_isOwed_2 : decode (mc mX2_isOwed) 2 = .ok (.invokevirtual 79, 3) := by decide +kernel
theorem dX2_isOwed_5 : decode (mc mX2_isOwed) 5 = .ok (.ifCond .ne 40, 3) := by decide +kernel
theorem dX2_isOwed_8 : decode (mc mX2_isOwed) 8 = .ok (.aload_n 0, 1) := by decide +kernel
theorem dX2_isOwed_9 : decode (mc mX2_isOwed) 9 = .ok (.getfield 15, 3) := by decide +kernel
theorem dX2_isOwed_12 : decode (mc mX2_isOwed) 12 = .ok (.aload_n 0, 1) := by decide +kernel
theorem dX2_isOwed_13 : decode (mc mX2_isOwed) 13 = .ok (.iload_n 1, 1) := by decide +kernel
theorem dX2_isOwed_14 : decode (mc mX2_isOwed) 14 = .ok (.iconst 1, 1) := by decide +kernel
theorem dX2_isOwed_15 : decode (mc mX2_isOwed) 15 = .ok (.invokevirtual 76, 3) := by decide +kernel
theorem dX2_isOwed_18 : decode (mc mX2_isOwed) 18 = .ok (.baload, 1) := by decide +kernel
theorem dX2_isOwed_19 : decode (mc mX2_isOwed) 19 = .ok (.ifCond .eq 26, 3) := by decide +kernel
theorem dX2_isOwed_22 : decode (mc mX2_isOwed) 22 = .ok (.aload_n 0, 1) := by decide +kernel
theorem dX2_isOwed_23 : decode (mc mX2_isOwed) 23 = .ok (.iload_n 1, 1) := by decide +kernel
theorem dX2_isOwed_24 : decode (mc mX2_isOwed) 24 = .ok (.iconst 4, 1) := by decide +kernel
theorem dX2_isOwed_25 : decode (mc mX2_isOwed) 25 = .ok (.invokevirtual 76, 3) := by decide +kernel
theorem dX2_isOwed_28 : decode (mc mX2_isOwed) 28 = .ok (.aload_n 0, 1) := by decide +kernel
theorem dX2_isOwed_29 : decode (mc mX2_isOwed) 29 = .ok (.invokevirtual 88, 3) := by decide +kernel
theorem dX2_isOwed_32 : decode (mc mX2_isOwed) 32 = .ok (.aload_n 0, 1) := by decide +kernel
theorem dX2_isOwed_33 : decode (mc mX2_isOwed) 33 = .ok (.iconst 3, 1) := by decide +kernel
theorem dX2_isOwed_34 : decode (mc mX2_isOwed) 34 = .ok (.invokevirtual 94, 3) := by decide +kernel
theorem dX2_isOwed_37 : decode (mc mX2_isOwed) 37 = .ok (.isub, 1) := by decide +kernel
theorem dX2_isOwed_38 : decode (mc mX2_isOwed) 38 = .ok (.if_icmp .lt 7, 3) := by decide +kernel
theorem dX2_isOwed_41 : decode (mc mX2_isOwed) 41 = .ok (.iconst 1, 1) := by decide +kernel
theorem dX2_isOwed_42 : decode (mc mX2_isOwed) 42 = .ok (.goto 4, 3) := by decide +kernel
theorem dX2_isOwed_45 : decode (mc mX2_isOwed) 45 = .ok (.iconst 0, 1) := by decide +kernel
theorem dX2_isOwed_46 : decode (mc mX2_isOwed) 46 = .ok (.ireturn, 1) := by decide +kernel
theorem dX2_owedForMarked_0 : decode (mc mX2_owedForMarked) 0 = .ok (.iconst 0, 1) := by decide +kernel
theorem dX2_owedForMarked_1 : decode (mc mX2_owedForMarked) 1 = .ok (.istore_n 1, 1) := by decide +kernel
theorem dX2_owedForMarked_2 : decode (mc mX2_owedForMarked) 2 = .ok (.iconst 0, 1) := by decide +kernel
theorem dX2_owedForMarked_3 : decode (mc mX2_owedForMarked) 3 = .ok (.istore_n 2, 1) := by decide +kernel
theorem dX2_owedForMarked_4 : decode (mc mX2_owedForMarked) 4 = .ok (.iload_n 2, 1) := by decide +kernel
theorem dX2_owedForMarked_5 : decode (mc mX2_owedForMarked) 5 = .ok (.aload_n 0, 1) := by decide +kernel
theorem dX2_owedForMarked_6 : decode (mc mX2_owedForMarked) 6 = .ok (.invokevirtual 52, 3) := by decide +kernel
theorem dX2_owedForMarked_9 : decode (mc mX2_owedForMarked) 9 = .ok (.if_icmp .ge 26, 3) := by decide +kernel
theorem dX2_owedForMarked_12 : decode (mc mX2_owedForMarked) 12 = .ok (.aload_n 0, 1) := by decide +kernel
theorem dX2_owedForMarked_13 : decode (mc mX2_owedForMarked) 13 = .ok (.iload_n 2, 1) := by decide +kernel
theorem dX2_owedForMarked_14 : decode (mc mX2_owedForMarked) 14 = .ok (.invokevirtual 177, 3) := by decide +kernel
theorem dX2_owedForMarked_17 : decode (mc mX2_owedForMarked) 17 = .ok (.ifCond .eq 12, 3) := by decide +kernel
theorem dX2_owedForMarked_20 : decode (mc mX2_owedForMarked) 20 = .ok (.iload_n 1, 1) := by decide +kernel
theorem dX2_owedForMarked_21 : decode (mc mX2_owedForMarked) 21 = .ok (.aload_n 0, 1) := by decide +kernel
theorem dX2_owedForMarked_22 : decode (mc mX2_owedForMarked) 22 = .ok (.iload_n 2, 1) := by decide +kernel
theorem dX2_owedForMarked_23 : decode (mc mX2_owedForMarked) 23 = .ok (.iconst 3, 1) := by decide +kernel
theorem dX2_owedForMarked_24 : decode (mc mX2_owedForMarked) 24 = .ok (.invokevirtual 76, 3) := by decide +kernel
theorem dX2_owedForMarked_27 : decode (mc mX2_owedForMarked) 27 = .ok (.iadd, 1) := by decide +kernel
theorem dX2_owedForMarked_28 : decode (mc mX2_owedForMarked) 28 = .ok (.istore_n 1, 1) := by decide +kernel
theorem dX2_owedForMarked_29 : decode (mc mX2_owedForMarked) 29 = .ok (.iinc 2 1, 3) := by decide +kernel
theorem dX2_owedForMarked_32 : decode (mc mX2_owedForMarked) 32 = .ok (.goto (-28), 3) := by decide +kernel
theorem dX2_owedForMarked_35 : decode (mc mX2_owedForMarked) 35 = .ok (.iload_n 1, 1) := by decide +kernel
theorem dX2_owedForMarked_36 : decode (mc mX2_owedForMarked) 36 = .ok (.ireturn, 1) := by decide +kernel
theorem dX2_payBackMarked_0 : decode (mc mX2_payBackMarked) 0 = .ok (.iconst 0, 1) := by decide +kernel
theorem dX2_payBackMarked_1 : decode (mc mX2_payBackMarked) 1 = .ok (.istore_n 1, 1) := by decide +kernel
theorem dX2_payBackMarked_2 : decode (mc mX2_payBackMarked) 2 = .ok (.iload_n 1, 1) := by decide +kernel
theorem dX2_payBackMarked_3 : decode (mc mX2_payBackMarked) 3 = .ok (.aload_n 0, 1) := by decide +kernel
theorem dX2_payBackMarked_4 : decode (mc mX2_payBackMarked) 4 = .ok (.invokevirtual 52, 3) := by decide +kernel
theorem dX2_payBackMarked_7 : decode (mc mX2_payBackMarked) 7 = .ok (.if_icmp .ge 34, 3) := by decide +kernel
theorem dX2_payBackMarked_10 : decode (mc mX2_payBackMarked) 10 = .ok (.aload_n 0, 1) := by decide +kernel
theorem dX2_payBackMarked_11 : decode (mc mX2_payBackMarked) 11 = .ok (.iload_n 1, 1) := by decide +kernel
theorem dX2_payBackMarked_12 : decode (mc mX2_payBackMarked) 12 = .ok (.invokevirtual 177, 3) := by decide +kernel
theorem dX2_payBackMarked_15 : decode (mc mX2_payBackMarked) 15 = .ok (.ifCond .eq 20, 3) := by decide +kernel
theorem dX2_payBackMarked_18 : decode (mc mX2_payBackMarked) 18 = .ok (.aload_n 0, 1) := by decide +kernel
theorem dX2_payBackMarked_19 : decode (mc mX2_payBackMarked) 19 = .ok (.iload_n 1, 1) := by decide +kernel
theorem dX2_payBackMarked_20 : decode (mc mX2_payBackMarked) 20 = .ok (.iconst (-1), 1) := by decide +kernel
theorem dX2_payBackMarked_21 : decode (mc mX2_payBackMarked) 21 = .ok (.invokevirtual 163, 3) := by decide +kernel
theorem dX2_payBackMarked_24 : decode (mc mX2_payBackMarked) 24 = .ok (.aload_n 0, 1) := by decide +kernel
theorem dX2_payBackMarked_25 : decode (mc mX2_payBackMarked) 25 = .ok (.getfield 11, 3) := by decide +kernel
theorem dX2_payBackMarked_28 : decode (mc mX2_payBackMarked) 28 = .ok (.iload_n 1, 1) := by decide +kernel
theorem dX2_payBackMarked_29 : decode (mc mX2_payBackMarked) 29 = .ok (.iconst 5, 1) := by decide +kernel
theorem dX2_payBackMarked_30 : decode (mc mX2_payBackMarked) 30 = .ok (.invokestatic 153, 3) := by decide +kernel
theorem dX2_payBackMarked_33 : decode (mc mX2_payBackMarked) 33 = .ok (.iconst 1, 1) := by decide +kernel
theorem dX2_payBackMarked_34 : decode (mc mX2_payBackMarked) 34 = .ok (.iastore, 1) := by decide +kernel
theorem dX2_payBackMarked_35 : decode (mc mX2_payBackMarked) 35 = .ok (.iinc 1 1, 3) := by decide +kernel
theorem dX2_payBackMarked_38 : decode (mc mX2_payBackMarked) 38 = .ok (.goto (-36), 3) := by decide +kernel
theorem dX2_payBackMarked_41 : decode (mc mX2_payBackMarked) 41 = .ok (.return_, 1) := by decide +kernel
theorem dX3_init_0 : decode (mc mX3_init) 0 = .ok (.aload_n 0, 1) := by decide +kernel
theorem dX3_init_1 : decode (mc mX3_init) 1 = .ok (.invokespecial 3, 3) := by decide +kernel
theorem dX3_init_4 : decode (mc mX3_init) 4 = .ok (.aload_n 0, 1) := by decide +kernel
theorem dX3_init_5 : decode (mc mX3_init) 5 = .ok (.bipush 40, 2) := by decide +kernel
theorem dX3_init_7 : decode (mc mX3_init) 7 = .ok (.newarray .int, 2) := by decide +kernel
theorem dX3_init_9 : decode (mc mX3_init) 9 = .ok (.putfield 9, 3) := by decide +kernel
theorem dX3_init_12 : decode (mc mX3_init) 12 = .ok (.return_, 1) := by decide +kernel
theorem dX3_isLetter_0 : decode (mc mX3_isLetter) 0 = .ok (.iload_n 0, 1) := by decide +kernel
theorem dX3_isLetter_1 : decode (mc mX3_isLetter) 1 = .ok (.bipush 97, 2) := by decide +kernel
theorem dX3_isLetter_3 : decode (mc mX3_isLetter) 3 = .ok (.if_icmp .lt 13, 3) := by decide +kernel
theorem dX3_isLetter_6 : decode (mc mX3_isLetter) 6 = .ok (.iload_n 0, 1) := by decide +kernel
theorem dX3_isLetter_7 : decode (mc mX3_isLetter) 7 = .ok (.bipush 122, 2) := by decide +kernel
theorem dX3_isLetter_9 : decode (mc mX3_isLetter) 9 = .ok (.if_icmp .gt 7, 3) := by decide +kernel
theorem dX3_isLetter_12 : decode (mc mX3_isLetter) 12 = .ok (.iconst 1, 1) := by decide +kernel
theorem dX3_isLetter_13 : decode (mc mX3_isLetter) 13 = .ok (.goto 4, 3) := by decide +kernel
theorem dX3_isLetter_16 : decode (mc mX3_isLetter) 16 = .ok (.iconst 0, 1) := by decide +kernel
theorem dX3_isLetter_17 : decode (mc mX3_isLetter) 17 = .ok (.ireturn, 1) := by decide +kernel
theorem dX3_append_0 : decode (mc mX3_append) 0 = .ok (.aload_n 0, 1) := by decide +kernel
theorem dX3_append_1 : decode (mc mX3_append) 1 = .ok (.getfield 15, 3) := by decide +kernel
theorem dX3_append_4 : decode (mc mX3_append) 4 = .ok (.bipush 40, 2) := by decide +kernel
theorem dX3_append_6 : decode (mc mX3_append) 6 = .ok (.if_icmp .ge 23, 3) := by decide +kernel
theorem dX3_append_9 : decode (mc mX3_append) 9 = .ok (.aload_n 0, 1) := by decide +kernel
theorem dX3_append_10 : decode (mc mX3_append) 10 = .ok (.getfield 9, 3) := by decide +kernel
theorem dX3_append_13 : decode (mc mX3_append) 13 = .ok (.aload_n 0, 1) := by decide +kernel
theorem dX3_append_14 : decode (mc mX3_append) 14 = .ok (.getfield 15, 3) := by decide +kernel
theorem dX3_append_17 : decode (mc mX3_append) 17 = .ok (.iload_n 1, 1) := by decide +kernel
theorem dX3_append_18 : decode (mc mX3_append) 18 = .ok (.iastore, 1) := by decide +kernel
theorem dX3_append_19 : decode (mc mX3_append) 19 = .ok (.aload_n 0, 1) := by decide +kernel
theorem dX3_append_20 : decode (mc mX3_append) 20 = .ok (.dup, 1) := by decide +kernel
theorem dX3_append_21 : decode (mc mX3_append) 21 = .ok (.getfield 15, 3) := by decide +kernel
theorem dX3_append_24 : decode (mc mX3_append) 24 = .ok (.iconst 1, 1) := by decide +kernel
theorem dX3_append_25 : decode (mc mX3_append) 25 = .ok (.iadd, 1) := by decide +kernel
theorem dX3_append_26 : decode (mc mX3_append) 26 = .ok (.putfield 15, 3) := by decide +kernel
theorem dX3_append_29 : decode (mc mX3_append) 29 = .ok (.aload_n 0, 1) := by decide +kernel
theorem dX3_append_30 : decode (mc mX3_append) 30 = .ok (.getfield 15, 3) := by decide +kernel
theorem dX3_append_33 : decode (mc mX3_append) 33 = .ok (.ireturn, 1) := by decide +kernel
theorem dX3_empty_0 : decode (mc mX3_empty) 0 = .ok (.aload_n 0, 1) := by decide +kernel
theorem dX3_empty_1 : decode (mc mX3_empty) 1 = .ok (.getfield 15, 3) := by decide +kernel
theorem dX3_empty_4 : decode (mc mX3_empty) 4 = .ok (.istore_n 1, 1) := by decide +kernel
theorem dX3_empty_5 : decode (mc mX3_empty) 5 = .ok (.aload_n 0, 1) := by decide +kernel
theorem dX3_empty_6 : decode (mc mX3_empty) 6 = .ok (.iconst 0, 1) := by decide +kernel
theorem dX3_empty_7 : decode (mc mX3_empty) 7 = .ok (.putfield 15, 3) := by decide +kernel
theorem dX3_empty_10 : decode (mc mX3_empty) 10 = .ok (.iload_n 1, 1) := by decide +kernel
theorem dX3_empty_11 : decode (mc mX3_empty) 11 = .ok (.ireturn, 1) := by decide +kernel
theorem dX3_fault_0 : decode (mc mX3_fault) 0 = .ok (.iconst 0, 1) := by decide +kernel
theorem dX3_fault_1 : decode (mc mX3_fault) 1 = .ok (.istore_n 1, 1) := by decide +kernel
theorem dX3_fault_2 : decode (mc mX3_fault) 2 = .ok (.iconst 0, 1) := by decide +kernel
theorem dX3_fault_3 : decode (mc mX3_fault) 3 = .ok (.istore_n 2, 1) := by decide +kernel
theorem dX3_fault_4 : decode (mc mX3_fault) 4 = .ok (.iload_n 2, 1) := by decide +kernel
theorem dX3_fault_5 : decode (mc mX3_fault) 5 = .ok (.aload_n 0, 1) := by decide +kernel
theorem dX3_fault_6 : decode (mc mX3_fault) 6 = .ok (.getfield 15, 3) := by decide +kernel
theorem dX3_fault_9 : decode (mc mX3_fault) 9 = .ok (.if_icmp .ge 46, 3) := by decide +kernel
theorem dX3_fault_12 : decode (mc mX3_fault) 12 = .ok (.aload_n 0, 1) := by decide +kernel
theorem dX3_fault_13 : decode (mc mX3_fault) 13 = .ok (.getfield 9, 3) := by decide +kernel
theorem dX3_fault_16 : decode (mc mX3_fault) 16 = .ok (.iload_n 2, 1) := by decide +kernel
theorem dX3_fault_17 : decode (mc mX3_fault) 17 = .ok (.iaload, 1) := by decide +kernel
theorem dX3_fault_18 : decode (mc mX3_fault) 18 = .ok (.invokestatic 19, 3) := by decide +kernel
theorem dX3_fault_21 : decode (mc mX3_fault) 21 = .ok (.ifCond .eq 15, 3) := by decide +kernel
theorem dX3_fault_24 : decode (mc mX3_fault) 24 = .ok (.iload_n 1, 1) := by decide +kernel
theorem dX3_fault_25 : decode (mc mX3_fault) 25 = .ok (.bipush 10, 2) := by decide +kernel
theorem dX3_fault_27 : decode (mc mX3_fault) 27 = .ok (.if_icmp .ge 9, 3) := by decide +kernel
theorem dX3_fault_30 : decode (mc mX3_fault) 30 = .ok (.iinc 1 1, 3) := by decide +kernel
theorem dX3_fault_33 : decode (mc mX3_fault) 33 = .ok (.goto 16, 3) := by decide +kernel
theorem dX3_fault_36 : decode (mc mX3_fault) 36 = .ok (.aload_n 0, 1) := by decide +kernel
theorem dX3_fault_37 : decode (mc mX3_fault) 37 = .ok (.getfield 9, 3) := by decide +kernel
theorem dX3_fault_40 : decode (mc mX3_fault) 40 = .ok (.iload_n 2, 1) := by decide +kernel
theorem dX3_fault_41 : decode (mc mX3_fault) 41 = .ok (.iaload, 1) := by decide +kernel
theorem dX3_fault_42 : decode (mc mX3_fault) 42 = .ok (.bipush 32, 2) := by decide +kernel
theorem dX3_fault_44 : decode (mc mX3_fault) 44 = .ok (.if_icmp .eq 5, 3) := by decide +kernel
theorem dX3_fault_47 : decode (mc mX3_fault) 47 = .ok (.iload_n 2, 1) := by decide +kernel
theorem dX3_fault_48 : decode (mc mX3_fault) 48 = .ok (.ireturn, 1) := by decide +kernel
theorem dX3_fault_49 : decode (mc mX3_fault) 49 = .ok (.iinc 2 1, 3) := by decide +kernel
theorem dX3_fault_52 : decode (mc mX3_fault) 52 = .ok (.goto (-48), 3) := by decide +kernel
theorem dX3_fault_55 : decode (mc mX3_fault) 55 = .ok (.iload_n 1, 1) := by decide +kernel
theorem dX3_fault_56 : decode (mc mX3_fault) 56 = .ok (.ifCond .ne 10, 3) := by decide +kernel
theorem dX3_fault_59 : decode (mc mX3_fault) 59 = .ok (.aload_n 0, 1) := by decide +kernel
theorem dX3_fault_60 : decode (mc mX3_fault) 60 = .ok (.getfield 15, 3) := by decide +kernel
theorem dX3_fault_63 : decode (mc mX3_fault) 63 = .ok (.goto 5, 3) := by decide +kernel
theorem dX3_fault_66 : decode (mc mX3_fault) 66 = .ok (.ldc 23, 2) := by decide +kernel
theorem dX3_fault_68 : decode (mc mX3_fault) 68 = .ok (.ireturn, 1) := by decide +kernel
theorem dX3_isFaulty_0 : decode (mc mX3_isFaulty) 0 = .ok (.aload_n 0, 1) := by decide +kernel
theorem dX3_isFaulty_1 : decode (mc mX3_isFaulty) 1 = .ok (.invokevirtual 24, 3) := by decide +kernel
theorem dX3_isFaulty_4 : decode (mc mX3_isFaulty) 4 = .ok (.ldc 23, 2) := by decide +kernel
theorem dX3_isFaulty_6 : decode (mc mX3_isFaulty) 6 = .ok (.if_icmp .eq 7, 3) := by decide +kernel
theorem dX3_isFaulty_9 : decode (mc mX3_isFaulty) 9 = .ok (.iconst 1, 1) := by decide +kernel
theorem dX3_isFaulty_10 : decode (mc mX3_isFaulty) 10 = .ok (.goto 4, 3) := by decide +kernel
theorem dX3_isFaulty_13 : decode (mc mX3_isFaulty) 13 = .ok (.iconst 0, 1) := by decide +kernel
theorem dX3_isFaulty_14 : decode (mc mX3_isFaulty) 14 = .ok (.ireturn, 1) := by decide +kernel
theorem dX3_readInto_0 : decode (mc mX3_readInto) 0 = .ok (.aload_n 1, 1) := by decide +kernel
theorem dX3_readInto_1 : decode (mc mX3_readInto) 1 = .ok (.invokevirtual 28, 3) := by decide +kernel
theorem dX3_readInto_4 : decode (mc mX3_readInto) 4 = .ok (.iconst 0, 1) := by decide +kernel
theorem dX3_readInto_5 : decode (mc mX3_readInto) 5 = .ok (.istore_n 2, 1) := by decide +kernel
theorem dX3_readInto_6 : decode (mc mX3_readInto) 6 = .ok (.iload_n 2, 1) := by decide +kernel
theorem dX3_readInto_7 : decode (mc mX3_readInto) 7 = .ok (.aload_n 0, 1) := by decide +kernel
theorem dX3_readInto_8 : decode (mc mX3_readInto) 8 = .ok (.getfield 15, 3) := by decide +kernel
theorem dX3_readInto_11 : decode (mc mX3_readInto) 11 = .ok (.if_icmp .ge 34, 3) := by decide +kernel
theorem dX3_readInto_14 : decode (mc mX3_readInto) 14 = .ok (.aload_n 0, 1) := by decide +kernel
theorem dX3_readInto_15 : decode (mc mX3_readInto) 15 = .ok (.getfield 9, 3) := by decide +kernel
theorem dX3_readInto_18 : decode (mc mX3_readInto) 18 = .ok (.iload_n 2, 1) := by decide +kernel
theorem dX3_readInto_19 : decode (mc mX3_readInto) 19 = .ok (.iaload, 1) := by decide +kernel
theorem dX3_readInto_20 : decode (mc mX3_readInto) 20 = .ok (.invokestatic 19, 3) := by decide +kernel
theorem dX3_readInto_23 : decode (mc mX3_readInto) 23 = .ok (.ifCond .eq 16, 3) := by decide +kernel
theorem dX3_readInto_26 : decode (mc mX3_readInto) 26 = .ok (.aload_n 1, 1) := by decide +kernel
theorem dX3_readInto_27 : decode (mc mX3_readInto) 27 = .ok (.aload_n 0, 1) := by decide +kernel
theorem dX3_readInto_28 : decode (mc mX3_readInto) 28 = .ok (.getfield 9, 3) := by decide +kernel
theorem dX3_readInto_31 : decode (mc mX3_readInto) 31 = .ok (.iload_n 2, 1) := by decide +kernel
theorem dX3_readInto_32 : decode (mc mX3_readInto) 32 = .ok (.iaload, 1) := by decide +kernel
theorem dX3_readInto_33 : decode (mc mX3_readInto) 33 = .ok (.bipush 97, 2) := by decide +kernel
theorem dX3_readInto_35 : decode (mc mX3_readInto) 35 = .ok (.isub, 1) := by decide +kernel
theorem dX3_readInto_36 : decode (mc mX3_readInto) 36 = .ok (.invokevirtual 33, 3) := by decide +kernel
theorem dX3_readInto_39 : decode (mc mX3_readInto) 39 = .ok (.iinc 2 1, 3) := by decide +kernel
theorem dX3_readInto_42 : decode (mc mX3_readInto) 42 = .ok (.goto (-36), 3) := by decide +kernel
theorem dX3_readInto_45 : decode (mc mX3_readInto) 45 = .ok (.return_, 1) := by decide +kernel
theorem dX4_init_0 : decode (mc mX4_init) 0 = .ok (.aload_n 0, 1) := by decide +kernel
theorem dX4_init_1 : decode (mc mX4_init) 1 = .ok (.invokespecial 3, 3) := by decide +kernel
theorem dX4_init_4 : decode (mc mX4_init) 4 = .ok (.aload_n 0, 1) := by decide +kernel
theorem dX4_init_5 : decode (mc mX4_init) 5 = .ok (.bipush 11, 2) := by decide +kernel
theorem dX4_init_7 : decode (mc mX4_init) 7 = .ok (.newarray .int, 2) := by decide +kernel
theorem dX4_init_9 : decode (mc mX4_init) 9 = .ok (.putfield 9, 3) := by decide +kernel
theorem dX4_init_12 : decode (mc mX4_init) 12 = .ok (.aload_n 0, 1) := by decide +kernel
theorem dX4_init_13 : decode (mc mX4_init) 13 = .ok (.bipush 11, 2) := by decide +kernel
theorem dX4_init_15 : decode (mc mX4_init) 15 = .ok (.newarray .int, 2) := by decide +kernel
theorem dX4_init_17 : decode (mc mX4_init) 17 = .ok (.putfield 15, 3) := by decide +kernel
theorem dX4_init_20 : decode (mc mX4_init) 20 = .ok (.aload_n 0, 1) := by decide +kernel
theorem dX4_init_21 : decode (mc mX4_init) 21 = .ok (.bipush 11, 2) := by decide +kernel
theorem dX4_init_23 : decode (mc mX4_init) 23 = .ok (.newarray .int, 2) := by decide +kernel
theorem dX4_init_25 : decode (mc mX4_init) 25 = .ok (.putfield 18, 3) := by decide +kernel
theorem dX4_init_28 : decode (mc mX4_init) 28 = .ok (.aload_n 0, 1) := by decide +kernel
theorem dX4_init_29 : decode (mc mX4_init) 29 = .ok (.bipush 11, 2) := by decide +kernel
theorem dX4_init_31 : decode (mc mX4_init) 31 = .ok (.newarray .int, 2) := by decide +kernel
theorem dX4_init_33 : decode (mc mX4_init) 33 = .ok (.putfield 21, 3) := by decide +kernel
theorem dX4_init_36 : decode (mc mX4_init) 36 = .ok (.return_, 1) := by decide +kernel
theorem dX4_start_0 : decode (mc mX4_start) 0 = .ok (.aload_n 0, 1) := by decide +kernel
theorem dX4_start_1 : decode (mc mX4_start) 1 = .ok (.iload_n 1, 1) := by decide +kernel
theorem dX4_start_2 : decode (mc mX4_start) 2 = .ok (.putfield 24, 3) := by decide +kernel
theorem dX4_start_5 : decode (mc mX4_start) 5 = .ok (.aload_n 0, 1) := by decide +kernel
theorem dX4_start_6 : decode (mc mX4_start) 6 = .ok (.aload_n 0, 1) := by decide +kernel
theorem dX4_start_7 : decode (mc mX4_start) 7 = .ok (.getfield 24, 3) := by decide +kernel
theorem dX4_start_10 : decode (mc mX4_start) 10 = .ok (.invokevirtual 28, 3) := by decide +kernel
theorem dX4_start_13 : decode (mc mX4_start) 13 = .ok (.aload_n 0, 1) := by decide +kernel
theorem dX4_start_14 : decode (mc mX4_start) 14 = .ok (.getfield 9, 3) := by decide +kernel
theorem dX4_start_17 : decode (mc mX4_start) 17 = .ok (.aload_n 0, 1) := by decide +kernel
theorem dX4_start_18 : decode (mc mX4_start) 18 = .ok (.getfield 24, 3) := by decide +kernel
theorem dX4_start_21 : decode (mc mX4_start) 21 = .ok (.iconst 0, 1) := by decide +kernel
theorem dX4_start_22 : decode (mc mX4_start) 22 = .ok (.iastore, 1) := by decide +kernel
theorem dX4_start_23 : decode (mc mX4_start) 23 = .ok (.return_, 1) := by decide +kernel
theorem dX4_open_0 : decode (mc mX4_open) 0 = .ok (.aload_n 0, 1) := by decide +kernel
theorem dX4_open_1 : decode (mc mX4_open) 1 = .ok (.getfield 9, 3) := by decide +kernel
theorem dX4_open_4 : decode (mc mX4_open) 4 = .ok (.iload_n 1, 1) := by decide +kernel
theorem dX4_open_5 : decode (mc mX4_open) 5 = .ok (.ldc 32, 2) := by decide +kernel
theorem dX4_open_7 : decode (mc mX4_open) 7 = .ok (.iastore, 1) := by decide +kernel
theorem dX4_open_8 : decode (mc mX4_open) 8 = .ok (.aload_n 0, 1) := by decide +kernel
theorem dX4_open_9 : decode (mc mX4_open) 9 = .ok (.getfield 15, 3) := by decide +kernel
theorem dX4_open_12 : decode (mc mX4_open) 12 = .ok (.iload_n 1, 1) := by decide +kernel
theorem dX4_open_13 : decode (mc mX4_open) 13 = .ok (.iconst 0, 1) := by decide +kernel
theorem dX4_open_14 : decode (mc mX4_open) 14 = .ok (.iastore, 1) := by decide +kernel
theorem dX4_open_15 : decode (mc mX4_open) 15 = .ok (.aload_n 0, 1) := by decide +kernel
theorem dX4_open_16 : decode (mc mX4_open) 16 = .ok (.getfield 18, 3) := by decide +kernel
theorem dX4_open_19 : decode (mc mX4_open) 19 = .ok (.iload_n 1, 1) := by decide +kernel
theorem dX4_open_20 : decode (mc mX4_open) 20 = .ok (.ldc 32, 2) := by decide +kernel
theorem dX4_open_22 : decode (mc mX4_open) 22 = .ok (.iastore, 1) := by decide +kernel
theorem dX4_open_23 : decode (mc mX4_open) 23 = .ok (.aload_n 0, 1) := by decide +kernel
theorem dX4_open_24 : decode (mc mX4_open) 24 = .ok (.getfield 21, 3) := by decide +kernel
theorem dX4_open_27 : decode (mc mX4_open) 27 = .ok (.iload_n 1, 1) := by decide +kernel
theorem dX4_open_28 : decode (mc mX4_open) 28 = .ok (.aload_n 0, 1) := by decide +kernel
theorem dX4_open_29 : decode (mc mX4_open) 29 = .ok (.getfield 24, 3) := by decide +kernel
theorem dX4_open_32 : decode (mc mX4_open) 32 = .ok (.iastore, 1) := by decide +kernel
theorem dX4_open_33 : decode (mc mX4_open) 33 = .ok (.return_, 1) := by decide +kernel
theorem dX4_offer_0 : decode (mc mX4_offer) 0 = .ok (.iload_n 1, 1) := by decide +kernel
theorem dX4_offer_1 : decode (mc mX4_offer) 1 = .ok (.iload_n 3, 1) := by decide +kernel
theorem dX4_offer_2 : decode (mc mX4_offer) 2 = .ok (.iadd, 1) := by decide +kernel
theorem dX4_offer_3 : decode (mc mX4_offer) 3 = .ok (.istore 5, 2) := by decide +kernel
theorem dX4_offer_5 : decode (mc mX4_offer) 5 = .ok (.iload 5, 2) := by decide +kernel
theorem dX4_offer_7 : decode (mc mX4_offer) 7 = .ok (.aload_n 0, 1) := by decide +kernel
theorem dX4_offer_8 : decode (mc mX4_offer) 8 = .ok (.getfield 24, 3) := by decide +kernel
theorem dX4_offer_11 : decode (mc mX4_offer) 11 = .ok (.if_icmp .gt 15, 3) := by decide +kernel
theorem dX4_offer_14 : decode (mc mX4_offer) 14 = .ok (.aload_n 0, 1) := by decide +kernel
theorem dX4_offer_15 : decode (mc mX4_offer) 15 = .ok (.getfield 9, 3) := by decide +kernel
theorem dX4_offer_18 : decode (mc mX4_offer) 18 = .ok (.iload 5, 2) := by decide +kernel
theorem dX4_offer_20 : decode (mc mX4_offer) 20 = .ok (.iaload, 1) := by decide +kernel
theorem dX4_offer_21 : decode (mc mX4_offer) 21 = .ok (.ldc 32, 2) := by decide +kernel
theorem dX4_offer_23 : decode (mc mX4_offer) 23 = .ok (.if_icmp .ne 4, 3) := by decide +kernel
theorem dX4_offer_26 : decode (mc mX4_offer) 26 = .ok (.return_, 1) := by decide +kernel
theorem dX4_offer_27 : decode (mc mX4_offer) 27 = .ok (.iload 4, 2) := by decide +kernel
theorem dX4_offer_29 : decode (mc mX4_offer) 29 = .ok (.aload_n 0, 1) := by decide +kernel
theorem dX4_offer_30 : decode (mc mX4_offer) 30 = .ok (.getfield 9, 3) := by decide +kernel
theorem dX4_offer_33 : decode (mc mX4_offer) 33 = .ok (.iload 5, 2) := by decide +kernel
theorem dX4_offer_35 : decode (mc mX4_offer) 35 = .ok (.iaload, 1) := by decide +kernel
theorem dX4_offer_36 : decode (mc mX4_offer) 36 = .ok (.iadd, 1) := by decide +kernel
theorem dX4_offer_37 : decode (mc mX4_offer) 37 = .ok (.istore 6, 2) := by decide +kernel
theorem dX4_offer_39 : decode (mc mX4_offer) 39 = .ok (.iconst 1, 1) := by decide +kernel
theorem dX4_offer_40 : decode (mc mX4_offer) 40 = .ok (.aload_n 0, 1) := by decide +kernel
theorem dX4_offer_41 : decode (mc mX4_offer) 41 = .ok (.getfield 15, 3) := by decide +kernel
theorem dX4_offer_44 : decode (mc mX4_offer) 44 = .ok (.iload 5, 2) := by decide +kernel
theorem dX4_offer_46 : decode (mc mX4_offer) 46 = .ok (.iaload, 1) := by decide +kernel
theorem dX4_offer_47 : decode (mc mX4_offer) 47 = .ok (.iadd, 1) := by decide +kernel
theorem dX4_offer_48 : decode (mc mX4_offer) 48 = .ok (.istore 7, 2) := by decide +kernel
theorem dX4_offer_50 : decode (mc mX4_offer) 50 = .ok (.aload_n 0, 1) := by decide +kernel
theorem dX4_offer_51 : decode (mc mX4_offer) 51 = .ok (.getfield 9, 3) := by decide +kernel
theorem dX4_offer_54 : decode (mc mX4_offer) 54 = .ok (.iload_n 1, 1) := by decide +kernel
theorem dX4_offer_55 : decode (mc mX4_offer) 55 = .ok (.iaload, 1) := by decide +kernel
theorem dX4_offer_56 : decode (mc mX4_offer) 56 = .ok (.ldc 32, 2) := by decide +kernel
theorem dX4_offer_58 : decode (mc mX4_offer) 58 = .ok (.if_icmp .eq 36, 3) := by decide +kernel
theorem dX4_offer_61 : decode (mc mX4_offer) 61 = .ok (.iload 6, 2) := by decide +kernel
theorem dX4_offer_63 : decode (mc mX4_offer) 63 = .ok (.aload_n 0, 1) := by decide +kernel
theorem dX4_offer_64 : decode (mc mX4_offer) 64 = .ok (.getfield 9, 3) := by decide +kernel
theorem dX4_offer_67 : decode (mc mX4_offer) 67 = .ok (.iload_n 1, 1) := by decide +kernel
theorem dX4_offer_68 : decode (mc mX4_offer) 68 = .ok (.iaload, 1) := by decide +kernel
theorem dX4_offer_69 : decode (mc mX4_offer) 69 = .ok (.if_icmp .lt 25, 3) := by decide +kernel
theorem dX4_offer_72 : decode (mc mX4_offer) 72 = .ok (.iload 6, 2) := by decide +kernel
theorem dX4_offer_74 : decode (mc mX4_offer) 74 = .ok (.aload_n 0, 1) := by decide +kernel
theorem dX4_offer_75 : decode (mc mX4_offer) 75 = .ok (.getfield 9, 3) := by decide +kernel
theorem dX4_offer_78 : decode (mc mX4_offer) 78 = .ok (.iload_n 1, 1) := by decide +kernel
theorem dX4_offer_79 : decode (mc mX4_offer) 79 = .ok (.iaload, 1) := by decide +kernel
theorem dX4_offer_80 : decode (mc mX4_offer) 80 = .ok (.if_icmp .ne 45, 3) := by decide +kernel
theorem dX4_offer_83 : decode (mc mX4_offer) 83 = .ok (.iload 7, 2) := by decide +kernel
theorem dX4_offer_85 : decode (mc mX4_offer) 85 = .ok (.aload_n 0, 1) := by decide +kernel
theorem dX4_offer_86 : decode (mc mX4_offer) 86 = .ok (.getfield 15, 3) := by decide +kernel
theorem dX4_offer_89 : decode (mc mX4_offer) 89 = .ok (.iload_n 1, 1) := by decide +kernel
theorem dX4_offer_90 : decode (mc mX4_offer) 90 = .ok (.iaload, 1) := by decide +kernel
theorem dX4_offer_91 : decode (mc mX4_offer) 91 = .ok (.if_icmp .ge 34, 3) := by decide +kernel
theorem dX4_offer_94 : decode (mc mX4_offer) 94 = .ok (.aload_n 0, 1) := by decide +kernel
theorem dX4_offer_95 : decode (mc mX4_offer) 95 = .ok (.getfield 9, 3) := by decide +kernel
theorem dX4_offer_98 : decode (mc mX4_offer) 98 = .ok (.iload_n 1, 1) := by decide +kernel
theorem dX4_offer_99 : decode (mc mX4_offer) 99 = .ok (.iload 6, 2) := by decide +kernel
theorem dX4_offer_101 : decode (mc mX4_offer) 101 = .ok (.iastore, 1) := by decide +kernel
theorem dX4_offer_102 : decode (mc mX4_offer) 102 = .ok (.aload_n 0, 1) := by decide +kernel
theorem dX4_offer_103 : decode (mc mX4_offer) 103 = .ok (.getfield 15, 3) := by decide +kernel
theorem dX4_offer_106 : decode (mc mX4_offer) 106 = .ok (.iload_n 1, 1) := by decide +kernel
theorem dX4_offer_107 : decode (mc mX4_offer) 107 = .ok (.iload 7, 2) := by decide +kernel
theorem dX4_offer_109 : decode (mc mX4_offer) 109 = .ok (.iastore, 1) := by decide +kernel
theorem dX4_offer_110 : decode (mc mX4_offer) 110 = .ok (.aload_n 0, 1) := by decide +kernel
theorem dX4_offer_111 : decode (mc mX4_offer) 111 = .ok (.getfield 18, 3) := by decide +kernel
theorem dX4_offer_114 : decode (mc mX4_offer) 114 = .ok (.iload_n 1, 1) := by decide +kernel
theorem dX4_offer_115 : decode (mc mX4_offer) 115 = .ok (.iload_n 2, 1) := by decide +kernel
theorem dX4_offer_116 : decode (mc mX4_offer) 116 = .ok (.iastore, 1) := by decide +kernel
theorem dX4_offer_117 : decode (mc mX4_offer) 117 = .ok (.aload_n 0, 1) := by decide +kernel
theorem dX4_offer_118 : decode (mc mX4_offer) 118 = .ok (.getfield 21, 3) := by decide +kernel
theorem dX4_offer_121 : decode (mc mX4_offer) 121 = .ok (.iload_n 1, 1) := by decide +kernel
theorem dX4_offer_122 : decode (mc mX4_offer) 122 = .ok (.iload 5, 2) := by decide +kernel
theorem dX4_offer_124 : decode (mc mX4_offer) 124 = .ok (.iastore, 1) := by decide +kernel
theorem dX4_offer_125 : decode (mc mX4_offer) 125 = .ok (.return_, 1) := by decide +kernel
theorem dX4_bestCost_0 : decode (mc mX4_bestCost) 0 = .ok (.aload_n 0, 1) := by decide +kernel
theorem dX4_bestCost_1 : decode (mc mX4_bestCost) 1 = .ok (.getfield 9, 3) := by decide +kernel
theorem dX4_bestCost_4 : decode (mc mX4_bestCost) 4 = .ok (.iconst 0, 1) := by decide +kernel
theorem dX4_bestCost_5 : decode (mc mX4_bestCost) 5 = .ok (.iaload, 1) := by decide +kernel
theorem dX4_bestCost_6 : decode (mc mX4_bestCost) 6 = .ok (.ireturn, 1) := by decide +kernel
theorem dX4_pieceAt_0 : decode (mc mX4_pieceAt) 0 = .ok (.iload_n 1, 1) := by decide +kernel
theorem dX4_pieceAt_1 : decode (mc mX4_pieceAt) 1 = .ok (.aload_n 0, 1) := by decide +kernel
theorem dX4_pieceAt_2 : decode (mc mX4_pieceAt) 2 = .ok (.getfield 15, 3) := by decide +kernel
theorem dX4_pieceAt_5 : decode (mc mX4_pieceAt) 5 = .ok (.iconst 0, 1) := by decide +kernel
theorem dX4_pieceAt_6 : decode (mc mX4_pieceAt) 6 = .ok (.iaload, 1) := by decide +kernel
theorem dX4_pieceAt_7 : decode (mc mX4_pieceAt) 7 = .ok (.if_icmp .lt 6, 3) := by decide +kernel
theorem dX4_pieceAt_10 : decode (mc mX4_pieceAt) 10 = .ok (.ldc 32, 2) := by decide +kernel
theorem dX4_pieceAt_12 : decode (mc mX4_pieceAt) 12 = .ok (.ireturn, 1) := by decide +kernel
theorem dX4_pieceAt_13 : decode (mc mX4_pieceAt) 13 = .ok (.iconst 0, 1) := by decide +kernel
theorem dX4_pieceAt_14 : decode (mc mX4_pieceAt) 14 = .ok (.istore_n 2, 1) := by decide +kernel
theorem dX4_pieceAt_15 : decode (mc mX4_pieceAt) 15 = .ok (.iconst 0, 1) := by decide +kernel
theorem dX4_pieceAt_16 : decode (mc mX4_pieceAt) 16 = .ok (.istore_n 3, 1) := by decide +kernel
theorem dX4_pieceAt_17 : decode (mc mX4_pieceAt) 17 = .ok (.iload_n 3, 1) := by decide +kernel
theorem dX4_pieceAt_18 : decode (mc mX4_pieceAt) 18 = .ok (.iload_n 1, 1) := by decide +kernel
theorem dX4_pieceAt_19 : decode (mc mX4_pieceAt) 19 = .ok (.if_icmp .ge 16, 3) := by decide +kernel
theorem dX4_pieceAt_22 : decode (mc mX4_pieceAt) 22 = .ok (.aload_n 0, 1) := by decide +kernel
theorem dX4_pieceAt_23 : decode (mc mX4_pieceAt) 23 = .ok (.getfield 21, 3) := by decide +kernel
theorem dX4_pieceAt_26 : decode (mc mX4_pieceAt) 26 = .ok (.iload_n 2, 1) := by decide +kernel
theorem dX4_pieceAt_27 : decode (mc mX4_pieceAt) 27 = .ok (.iaload, 1) := by decide +kernel
theorem dX4_pieceAt_28 : decode (mc mX4_pieceAt) 28 = .ok (.istore_n 2, 1) := by decide +kernel
theorem dX4_pieceAt_29 : decode (mc mX4_pieceAt) 29 = .ok (.iinc 3 1, 3) := by decide +kernel
theorem dX4_pieceAt_32 : decode (mc mX4_pieceAt) 32 = .ok (.goto (-15), 3) := by decide +kernel
theorem dX4_pieceAt_35 : decode (mc mX4_pieceAt) 35 = .ok (.aload_n 0, 1) := by decide +kernel
theorem dX4_pieceAt_36 : decode (mc mX4_pieceAt) 36 = .ok (.getfield 18, 3) := by decide +kernel
theorem dX4_pieceAt_39 : decode (mc mX4_pieceAt) 39 = .ok (.iload_n 2, 1) := by decide +kernel
theorem dX4_pieceAt_40 : decode (mc mX4_pieceAt) 40 = .ok (.iaload, 1) := by decide +kernel
theorem dX4_pieceAt_41 : decode (mc mX4_pieceAt) 41 = .ok (.ireturn, 1) := by decide +kernel
theorem dX5_init_0 : decode (mc mX5_init) 0 = .ok (.aload_n 0, 1) := by decide +kernel
theorem dX5_init_1 : decode (mc mX5_init) 1 = .ok (.invokespecial 3, 3) := by decide +kernel
theorem dX5_init_4 : decode (mc mX5_init) 4 = .ok (.aload_n 0, 1) := by decide +kernel
theorem dX5_init_5 : decode (mc mX5_init) 5 = .ok (.bipush 11, 2) := by decide +kernel
theorem dX5_init_7 : decode (mc mX5_init) 7 = .ok (.bipush 11, 2) := by decide +kernel
theorem dX5_init_9 : decode (mc mX5_init) 9 = .ok (.multianewarray 9 2, 4) := by decide +kernel
theorem dX5_init_13 : decode (mc mX5_init) 13 = .ok (.putfield 11, 3) := by decide +kernel
theorem dX5_init_16 : decode (mc mX5_init) 16 = .ok (.return_, 1) := by decide +kernel
theorem dX5_measure_0 : decode (mc mX5_measure) 0 = .ok (.aload_n 1, 1) := by decide +kernel
theorem dX5_measure_1 : decode (mc mX5_measure) 1 = .ok (.getfield 16, 3) := by decide +kernel
theorem dX5_measure_4 : decode (mc mX5_measure) 4 = .ok (.aload_n 2, 1) := by decide +kernel
theorem dX5_measure_5 : decode (mc mX5_measure) 5 = .ok (.getfield 16, 3) := by decide +kernel
theorem dX5_measure_8 : decode (mc mX5_measure) 8 = .ok (.invokestatic 22, 3) := by decide +kernel
theorem dX5_measure_11 : decode (mc mX5_measure) 11 = .ok (.istore_n 3, 1) := by decide +kernel
theorem dX5_measure_12 : decode (mc mX5_measure) 12 = .ok (.iload_n 3, 1) := by decide +kernel
theorem dX5_measure_13 : decode (mc mX5_measure) 13 = .ok (.ifCond .ne 7, 3) := by decide +kernel
theorem dX5_measure_16 : decode (mc mX5_measure) 16 = .ok (.iconst 0, 1) := by decide +kernel
theorem dX5_measure_17 : decode (mc mX5_measure) 17 = .ok (.goto 16, 3) := by decide +kernel
theorem dX5_measure_20 : decode (mc mX5_measure) 20 = .ok (.bipush 100, 2) := by decide +kernel
theorem dX5_measure_22 : decode (mc mX5_measure) 22 = .ok (.iload_n 3, 1) := by decide +kernel
theorem dX5_measure_23 : decode (mc mX5_measure) 23 = .ok (.aload_n 0, 1) := by decide +kernel
theorem dX5_measure_24 : decode (mc mX5_measure) 24 = .ok (.aload_n 1, 1) := by decide +kernel
theorem dX5_measure_25 : decode (mc mX5_measure) 25 = .ok (.aload_n 2, 1) := by decide +kernel
theorem dX5_measure_26 : decode (mc mX5_measure) 26 = .ok (.invokevirtual 28, 3) := by decide +kernel
theorem dX5_measure_29 : decode (mc mX5_measure) 29 = .ok (.isub, 1) := by decide +kernel
theorem dX5_measure_30 : decode (mc mX5_measure) 30 = .ok (.imul, 1) := by decide +kernel
theorem dX5_measure_31 : decode (mc mX5_measure) 31 = .ok (.iload_n 3, 1) := by decide +kernel
theorem dX5_measure_32 : decode (mc mX5_measure) 32 = .ok (.idiv, 1) := by decide +kernel
theorem dX5_measure_33 : decode (mc mX5_measure) 33 = .ok (.ireturn, 1) := by decide +kernel
theorem dX5_distance_0 : decode (mc mX5_distance) 0 = .ok (.iconst 0, 1) := by decide +kernel
theorem dX5_distance_1 : decode (mc mX5_distance) 1 = .ok (.istore_n 3, 1) := by decide +kernel
theorem dX5_distance_2 : decode (mc mX5_distance) 2 = .ok (.iload_n 3, 1) := by decide +kernel
theorem dX5_distance_3 : decode (mc mX5_distance) 3 = .ok (.aload_n 1, 1) := by decide +kernel
theorem dX5_distance_4 : decode (mc mX5_distance) 4 = .ok (.getfield 16, 3) := by decide +kernel
theorem dX5_distance_7 : decode (mc mX5_distance) 7 = .ok (.if_icmp .gt 138, 3) := by decide +kernel
theorem dX5_distance_10 : decode (mc mX5_distance) 10 = .ok (.iconst 0, 1) := by decide +kernel
theorem dX5_distance_11 : decode (mc mX5_distance) 11 = .ok (.istore 4, 2) := by decide +kernel
theorem dX5_distance_13 : decode (mc mX5_distance) 13 = .ok (.iload 4, 2) := by decide +kernel
theorem dX5_distance_15 : decode (mc mX5_distance) 15 = .ok (.aload_n 2, 1) := by decide +kernel
theorem dX5_distance_16 : decode (mc mX5_distance) 16 = .ok (.getfield 16, 3) := by decide +kernel
theorem dX5_distance_19 : decode (mc mX5_distance) 19 = .ok (.if_icmp .gt 120, 3) := by decide +kernel
theorem dX5_distance_22 : decode (mc mX5_distance) 22 = .ok (.iload_n 3, 1) := by decide +kernel
theorem dX5_distance_23 : decode (mc mX5_distance) 23 = .ok (.ifCond .eq 8, 3) := by decide +kernel
theorem dX5_distance_26 : decode (mc mX5_distance) 26 = .ok (.iload 4, 2) := by decide +kernel
theorem dX5_distance_28 : decode (mc mX5_distance) 28 = .ok (.ifCond .ne 19, 3) := by decide +kernel
theorem dX5_distance_31 : decode (mc mX5_distance) 31 = .ok (.aload_n 0, 1) := by decide +kernel
theorem dX5_distance_32 : decode (mc mX5_distance) 32 = .ok (.getfield 11, 3) := by decide +kernel
theorem dX5_distance_35 : decode (mc mX5_distance) 35 = .ok (.iload_n 3, 1) := by decide +kernel
theorem dX5_distance_36 : decode (mc mX5_distance) 36 = .ok (.aaload, 1) := by decide +kernel
theorem dX5_distance_37 : decode (mc mX5_distance) 37 = .ok (.iload 4, 2) := by decide +kernel
theorem dX5_distance_39 : decode (mc mX5_distance) 39 = .ok (.iload_n 3, 1) := by decide +kernel
theorem dX5_distance_40 : decode (mc mX5_distance) 40 = .ok (.iload 4, 2) := by decide +kernel
theorem dX5_distance_42 : decode (mc mX5_distance) 42 = .ok (.iadd, 1) := by decide +kernel
theorem dX5_distance_43 : decode (mc mX5_distance) 43 = .ok (.iastore, 1) := by decide +kernel
theorem dX5_distance_44 : decode (mc mX5_distance) 44 = .ok (.goto 89, 3) := by decide +kernel
theorem dX5_distance_47 : decode (mc mX5_distance) 47 = .ok (.aload_n 1, 1) := by decide +kernel
theorem dX5_distance_48 : decode (mc mX5_distance) 48 = .ok (.getfield 32, 3) := by decide +kernel
theorem dX5_distance_51 : decode (mc mX5_distance) 51 = .ok (.iload_n 3, 1) := by decide +kernel
theorem dX5_distance_52 : decode (mc mX5_distance) 52 = .ok (.iconst 1, 1) := by decide +kernel
theorem dX5_distance_53 : decode (mc mX5_distance) 53 = .ok (.isub, 1) := by decide +kernel
theorem dX5_distance_54 : decode (mc mX5_distance) 54 = .ok (.iaload, 1) := by decide +kernel
theorem dX5_distance_55 : decode (mc mX5_distance) 55 = .ok (.aload_n 2, 1) := by decide +kernel
theorem dX5_distance_56 : decode (mc mX5_distance) 56 = .ok (.getfield 32, 3) := by decide +kernel
theorem dX5_distance_59 : decode (mc mX5_distance) 59 = .ok (.iload 4, 2) := by decide +kernel
theorem dX5_distance_61 : decode (mc mX5_distance) 61 = .ok (.iconst 1, 1) := by decide +kernel
theorem dX5_distance_62 : decode (mc mX5_distance) 62 = .ok (.isub, 1) := by decide +kernel
theorem dX5_distance_63 : decode (mc mX5_distance) 63 = .ok (.iaload, 1) := by decide +kernel
theorem dX5_distance_64 : decode (mc mX5_distance) 64 = .ok (.if_icmp .ne 7, 3) := by decide +kernel
theorem dX5_distance_67 : decode (mc mX5_distance) 67 = .ok (.iconst 0, 1) := by decide +kernel
theorem dX5_distance_68 : decode (mc mX5_distance) 68 = .ok (.goto 4, 3) := by decide +kernel
theorem dX5_distance_71 : decode (mc mX5_distance) 71 = .ok (.iconst 1, 1) := by decide +kernel
theorem dX5_distance_72 : decode (mc mX5_distance) 72 = .ok (.istore 5, 2) := by decide +kernel
theorem dX5_distance_74 : decode (mc mX5_distance) 74 = .ok (.iconst 1, 1) := by decide +kernel
theorem dX5_distance_75 : decode (mc mX5_distance) 75 = .ok (.aload_n 0, 1) := by decide +kernel
theorem dX5_distance_76 : decode (mc mX5_distance) 76 = .ok (.getfield 11, 3) := by decide +kernel
theorem dX5_distance_79 : decode (mc mX5_distance) 79 = .ok (.iload_n 3, 1) := by decide +kernel
theorem dX5_distance_80 : decode (mc mX5_distance) 80 = .ok (.iconst 1, 1) := by decide +kernel
theorem dX5_distance_81 : decode (mc mX5_distance) 81 = .ok (.isub, 1) := by decide +kernel
theorem dX5_distance_82 : decode (mc mX5_distance) 82 = .ok (.aaload, 1) := by decide +kernel
theorem dX5_distance_83 : decode (mc mX5_distance) 83 = .ok (.iload 4, 2) := by decide +kernel
theorem dX5_distance_85 : decode (mc mX5_distance) 85 = .ok (.iaload, 1) := by decide +kernel
theorem dX5_distance_86 : decode (mc mX5_distance) 86 = .ok (.aload_n 0, 1) := by decide +kernel
theorem dX5_distance_87 : decode (mc mX5_distance) 87 = .ok (.getfield 11, 3) := by decide +kernel
theorem dX5_distance_90 : decode (mc mX5_distance) 90 = .ok (.iload_n 3, 1) := by decide +kernel
theorem dX5_distance_91 : decode (mc mX5_distance) 91 = .ok (.aaload, 1) := by decide +kernel
theorem dX5_distance_92 : decode (mc mX5_distance) 92 = .ok (.iload 4, 2) := by decide +kernel
theorem dX5_distance_94 : decode (mc mX5_distance) 94 = .ok (.iconst 1, 1) := by decide +kernel
theorem dX5_distance_95 : decode (mc mX5_distance) 95 = .ok (.isub, 1) := by decide +kernel
theorem dX5_distance_96 : decode (mc mX5_distance) 96 = .ok (.iaload, 1) := by decide +kernel
theorem dX5_distance_97 : decode (mc mX5_distance) 97 = .ok (.invokestatic 36, 3) := by decide +kernel
theorem dX5_distance_100 : decode (mc mX5_distance) 100 = .ok (.iadd, 1) := by decide +kernel
theorem dX5_distance_101 : decode (mc mX5_distance) 101 = .ok (.istore 6, 2) := by decide +kernel
theorem dX5_distance_103 : decode (mc mX5_distance) 103 = .ok (.aload_n 0, 1) := by decide +kernel
theorem dX5_distance_104 : decode (mc mX5_distance) 104 = .ok (.getfield 11, 3) := by decide +kernel
theorem dX5_distance_107 : decode (mc mX5_distance) 107 = .ok (.iload_n 3, 1) := by decide +kernel
theorem dX5_distance_108 : decode (mc mX5_distance) 108 = .ok (.aaload, 1) := by decide +kernel
theorem dX5_distance_109 : decode (mc mX5_distance) 109 = .ok (.iload 4, 2) := by decide +kernel
theorem dX5_distance_111 : decode (mc mX5_distance) 111 = .ok (.iload 6, 2) := by decide +kernel
theorem dX5_distance_113 : decode (mc mX5_distance) 113 = .ok (.aload_n 0, 1) := by decide +kernel
theorem dX5_distance_114 : decode (mc mX5_distance) 114 = .ok (.getfield 11, 3) := by decide +kernel
theorem dX5_distance_117 : decode (mc mX5_distance) 117 = .ok (.iload_n 3, 1) := by decide +kernel
theorem dX5_distance_118 : decode (mc mX5_distance) 118 = .ok (.iconst 1, 1) := by decide +kernel
theorem dX5_distance_119 : decode (mc mX5_distance) 119 = .ok (.isub, 1) := by decide +kernel
theorem dX5_distance_120 : decode (mc mX5_distance) 120 = .ok (.aaload, 1) := by decide +kernel
theorem dX5_distance_121 : decode (mc mX5_distance) 121 = .ok (.iload 4, 2) := by decide +kernel
theorem dX5_distance_123 : decode (mc mX5_distance) 123 = .ok (.iconst 1, 1) := by decide +kernel
theorem dX5_distance_124 : decode (mc mX5_distance) 124 = .ok (.isub, 1) := by decide +kernel
theorem dX5_distance_125 : decode (mc mX5_distance) 125 = .ok (.iaload, 1) := by decide +kernel
theorem dX5_distance_126 : decode (mc mX5_distance) 126 = .ok (.iload 5, 2) := by decide +kernel
theorem dX5_distance_128 : decode (mc mX5_distance) 128 = .ok (.iadd, 1) := by decide +kernel
theorem dX5_distance_129 : decode (mc mX5_distance) 129 = .ok (.invokestatic 36, 3) := by decide +kernel
theorem dX5_distance_132 : decode (mc mX5_distance) 132 = .ok (.iastore, 1) := by decide +kernel
theorem dX5_distance_133 : decode (mc mX5_distance) 133 = .ok (.iinc 4 1, 3) := by decide +kernel
theorem dX5_distance_136 : decode (mc mX5_distance) 136 = .ok (.goto (-123), 3) := by decide +kernel
theorem dX5_distance_139 : decode (mc mX5_distance) 139 = .ok (.iinc 3 1, 3) := by decide +kernel
theorem dX5_distance_142 : decode (mc mX5_distance) 142 = .ok (.goto (-140), 3) := by decide +kernel
theorem dX5_distance_145 : decode (mc mX5_distance) 145 = .ok (.aload_n 0, 1) := by decide +kernel
theorem dX5_distance_146 : decode (mc mX5_distance) 146 = .ok (.getfield 11, 3) := by decide +kernel
theorem dX5_distance_149 : decode (mc mX5_distance) 149 = .ok (.aload_n 1, 1) := by decide +kernel
theorem dX5_distance_150 : decode (mc mX5_distance) 150 = .ok (.getfield 16, 3) := by decide +kernel
theorem dX5_distance_153 : decode (mc mX5_distance) 153 = .ok (.aaload, 1) := by decide +kernel
theorem dX5_distance_154 : decode (mc mX5_distance) 154 = .ok (.aload_n 2, 1) := by decide +kernel
theorem dX5_distance_155 : decode (mc mX5_distance) 155 = .ok (.getfield 16, 3) := by decide +kernel
theorem dX5_distance_158 : decode (mc mX5_distance) 158 = .ok (.iaload, 1) := by decide +kernel
theorem dX5_distance_159 : decode (mc mX5_distance) 159 = .ok (.ireturn, 1) := by decide +kernel
theorem dX6_init_0 : decode (mc mX6_init) 0 = .ok (.aload_n 0, 1) := by decide +kernel
theorem dX6_init_1 : decode (mc mX6_init) 1 = .ok (.invokespecial 1, 3) := by decide +kernel
theorem dX6_init_4 : decode (mc mX6_init) 4 = .ok (.aload_n 0, 1) := by decide +kernel
theorem dX6_init_5 : decode (mc mX6_init) 5 = .ok (.new 7, 3) := by decide +kernel
theorem dX6_init_8 : decode (mc mX6_init) 8 = .ok (.dup, 1) := by decide +kernel
theorem dX6_init_9 : decode (mc mX6_init) 9 = .ok (.invokespecial 9, 3) := by decide +kernel
theorem dX6_init_12 : decode (mc mX6_init) 12 = .ok (.putfield 10, 3) := by decide +kernel
theorem dX6_init_15 : decode (mc mX6_init) 15 = .ok (.aload_n 0, 1) := by decide +kernel
theorem dX6_init_16 : decode (mc mX6_init) 16 = .ok (.new 16, 3) := by decide +kernel
theorem dX6_init_19 : decode (mc mX6_init) 19 = .ok (.dup, 1) := by decide +kernel
theorem dX6_init_20 : decode (mc mX6_init) 20 = .ok (.invokespecial 18, 3) := by decide +kernel
theorem dX6_init_23 : decode (mc mX6_init) 23 = .ok (.putfield 19, 3) := by decide +kernel
theorem dX6_init_26 : decode (mc mX6_init) 26 = .ok (.aload_n 0, 1) := by decide +kernel
theorem dX6_init_27 : decode (mc mX6_init) 27 = .ok (.new 23, 3) := by decide +kernel
theorem dX6_init_30 : decode (mc mX6_init) 30 = .ok (.dup, 1) := by decide +kernel
theorem dX6_init_31 : decode (mc mX6_init) 31 = .ok (.invokespecial 25, 3) := by decide +kernel
theorem dX6_init_34 : decode (mc mX6_init) 34 = .ok (.putfield 26, 3) := by decide +kernel
theorem dX6_init_37 : decode (mc mX6_init) 37 = .ok (.aload_n 0, 1) := by decide +kernel
theorem dX6_init_38 : decode (mc mX6_init) 38 = .ok (.new 30, 3) := by decide +kernel
theorem dX6_init_41 : decode (mc mX6_init) 41 = .ok (.dup, 1) := by decide +kernel
theorem dX6_init_42 : decode (mc mX6_init) 42 = .ok (.invokespecial 32, 3) := by decide +kernel
theorem dX6_init_45 : decode (mc mX6_init) 45 = .ok (.putfield 33, 3) := by decide +kernel
theorem dX6_init_48 : decode (mc mX6_init) 48 = .ok (.aload_n 0, 1) := by decide +kernel
theorem dX6_init_49 : decode (mc mX6_init) 49 = .ok (.new 37, 3) := by decide +kernel
theorem dX6_init_52 : decode (mc mX6_init) 52 = .ok (.dup, 1) := by decide +kernel
theorem dX6_init_53 : decode (mc mX6_init) 53 = .ok (.invokespecial 39, 3) := by decide +kernel
theorem dX6_init_56 : decode (mc mX6_init) 56 = .ok (.putfield 40, 3) := by decide +kernel
theorem dX6_init_59 : decode (mc mX6_init) 59 = .ok (.return_, 1) := by decide +kernel
theorem dX6_addMember_0 : decode (mc mX6_addMember) 0 = .ok (.aload_n 0, 1) := by decide +kernel
theorem dX6_addMember_1 : decode (mc mX6_addMember) 1 = .ok (.getfield 10, 3) := by decide +kernel
theorem dX6_addMember_4 : decode (mc mX6_addMember) 4 = .ok (.invokevirtual 44, 3) := by decide +kernel
theorem dX6_addMember_7 : decode (mc mX6_addMember) 7 = .ok (.bipush 6, 2) := by decide +kernel
theorem dX6_addMember_9 : decode (mc mX6_addMember) 9 = .ok (.if_icmp .lt 6, 3) := by decide +kernel
theorem dX6_addMember_12 : decode (mc mX6_addMember) 12 = .ok (.ldc 48, 2) := by decide +kernel
theorem dX6_addMember_14 : decode (mc mX6_addMember) 14 = .ok (.ireturn, 1) := by decide +kernel
theorem dX6_addMember_15 : decode (mc mX6_addMember) 15 = .ok (.aload_n 0, 1) := by decide +kernel
theorem dX6_addMember_16 : decode (mc mX6_addMember) 16 = .ok (.getfield 19, 3) := by decide +kernel
theorem dX6_addMember_19 : decode (mc mX6_addMember) 19 = .ok (.aload_n 0, 1) := by decide +kernel
theorem dX6_addMember_20 : decode (mc mX6_addMember) 20 = .ok (.getfield 10, 3) := by decide +kernel
theorem dX6_addMember_23 : decode (mc mX6_addMember) 23 = .ok (.invokevirtual 49, 3) := by decide +kernel
theorem dX6_addMember_26 : decode (mc mX6_addMember) 26 = .ok (.aload_n 0, 1) := by decide +kernel
theorem dX6_addMember_27 : decode (mc mX6_addMember) 27 = .ok (.getfield 10, 3) := by decide +kernel
theorem dX6_addMember_30 : decode (mc mX6_addMember) 30 = .ok (.invokevirtual 53, 3) := by decide +kernel
theorem dX6_addMember_33 : decode (mc mX6_addMember) 33 = .ok (.ireturn, 1) := by decide +kernel
theorem dX6_setPrice_0 : decode (mc mX6_setPrice) 0 = .ok (.aload_n 0, 1) := by decide +kernel
theorem dX6_setPrice_1 : decode (mc mX6_setPrice) 1 = .ok (.getfield 10, 3) := by decide +kernel
theorem dX6_setPrice_4 : decode (mc mX6_setPrice) 4 = .ok (.iload_n 1, 1) := by decide +kernel
theorem dX6_setPrice_5 : decode (mc mX6_setPrice) 5 = .ok (.invokevirtual 56, 3) := by decide +kernel
theorem dX6_setPrice_8 : decode (mc mX6_setPrice) 8 = .ok (.ifCond .ne 6, 3) := by decide +kernel
theorem dX6_setPrice_11 : decode (mc mX6_setPrice) 11 = .ok (.ldc 60, 2) := by decide +kernel
theorem dX6_setPrice_13 : decode (mc mX6_setPrice) 13 = .ok (.ireturn, 1) := by decide +kernel
theorem dX6_setPrice_14 : decode (mc mX6_setPrice) 14 = .ok (.iload_n 2, 1) := by decide +kernel
theorem dX6_setPrice_15 : decode (mc mX6_setPrice) 15 = .ok (.ifCond .lt 10, 3) := by decide +kernel
theorem dX6_setPrice_18 : decode (mc mX6_setPrice) 18 = .ok (.iload_n 2, 1) := by decide +kernel
theorem dX6_setPrice_19 : decode (mc mX6_setPrice) 19 = .ok (.sipush 200, 3) := by decide +kernel
theorem dX6_setPrice_22 : decode (mc mX6_setPrice) 22 = .ok (.if_icmp .le 6, 3) := by decide +kernel
theorem dX6_setPrice_25 : decode (mc mX6_setPrice) 25 = .ok (.ldc 61, 2) := by decide +kernel
theorem dX6_setPrice_27 : decode (mc mX6_setPrice) 27 = .ok (.ireturn, 1) := by decide +kernel
theorem dX6_setPrice_28 : decode (mc mX6_setPrice) 28 = .ok (.aload_n 0, 1) := by decide +kernel
theorem dX6_setPrice_29 : decode (mc mX6_setPrice) 29 = .ok (.getfield 19, 3) := by decide +kernel
theorem dX6_setPrice_32 : decode (mc mX6_setPrice) 32 = .ok (.aload_n 0, 1) := by decide +kernel
theorem dX6_setPrice_33 : decode (mc mX6_setPrice) 33 = .ok (.getfield 10, 3) := by decide +kernel
theorem dX6_setPrice_36 : decode (mc mX6_setPrice) 36 = .ok (.invokevirtual 49, 3) := by decide +kernel
theorem dX6_setPrice_39 : decode (mc mX6_setPrice) 39 = .ok (.aload_n 0, 1) := by decide +kernel
theorem dX6_setPrice_40 : decode (mc mX6_setPrice) 40 = .ok (.getfield 10, 3) := by decide +kernel
theorem dX6_setPrice_43 : decode (mc mX6_setPrice) 43 = .ok (.iload_n 1, 1) := by decide +kernel
theorem dX6_setPrice_44 : decode (mc mX6_setPrice) 44 = .ok (.invokevirtual 62, 3) := by decide +kernel
theorem dX6_setPrice_47 : decode (mc mX6_setPrice) 47 = .ok (.istore_n 3, 1) := by decide +kernel
theorem dX6_setPrice_48 : decode (mc mX6_setPrice) 48 = .ok (.aload_n 0, 1) := by decide +kernel
theorem dX6_setPrice_49 : decode (mc mX6_setPrice) 49 = .ok (.getfield 10, 3) := by decide +kernel
theorem dX6_setPrice_52 : decode (mc mX6_setPrice) 52 = .ok (.iload_n 1, 1) := by decide +kernel
theorem dX6_setPrice_53 : decode (mc mX6_setPrice) 53 = .ok (.iload_n 2, 1) := by decide +kernel
theorem dX6_setPrice_54 : decode (mc mX6_setPrice) 54 = .ok (.invokevirtual 66, 3) := by decide +kernel
theorem dX6_setPrice_57 : decode (mc mX6_setPrice) 57 = .ok (.iload_n 3, 1) := by decide +kernel
theorem dX6_setPrice_58 : decode (mc mX6_setPrice) 58 = .ok (.ireturn, 1) := by decide +kernel
theorem dX6_set_0 : decode (mc mX6_set) 0 = .ok (.iload_n 1, 1) := by decide +kernel
theorem dX6_set_1 : decode (mc mX6_set) 1 = .ok (.ifCond .lt 8, 3) := by decide +kernel
theorem dX6_set_4 : decode (mc mX6_set) 4 = .ok (.iload_n 1, 1) := by decide +kernel
theorem dX6_set_5 : decode (mc mX6_set) 5 = .ok (.iconst 5, 1) := by decide +kernel
theorem dX6_set_6 : decode (mc mX6_set) 6 = .ok (.if_icmp .lt 6, 3) := by decide +kernel
theorem dX6_set_9 : decode (mc mX6_set) 9 = .ok (.ldc 60, 2) := by decide +kernel
theorem dX6_set_11 : decode (mc mX6_set) 11 = .ok (.ireturn, 1) := by decide +kernel
theorem dX6_set_12 : decode (mc mX6_set) 12 = .ok (.iload_n 2, 1) := by decide +kernel
theorem dX6_set_13 : decode (mc mX6_set) 13 = .ok (.getstatic 70, 3) := by decide +kernel
theorem dX6_set_16 : decode (mc mX6_set) 16 = .ok (.iload_n 1, 1) := by decide +kernel
theorem dX6_set_17 : decode (mc mX6_set) 17 = .ok (.iaload, 1) := by decide +kernel
theorem dX6_set_18 : decode (mc mX6_set) 18 = .ok (.if_icmp .lt 12, 3) := by decide +kernel
theorem dX6_set_21 : decode (mc mX6_set) 21 = .ok (.iload_n 2, 1) := by decide +kernel
theorem dX6_set_22 : decode (mc mX6_set) 22 = .ok (.getstatic 74, 3) := by decide +kernel
theorem dX6_set_25 : decode (mc mX6_set) 25 = .ok (.iload_n 1, 1) := by decide +kernel
theorem dX6_set_26 : decode (mc mX6_set) 26 = .ok (.iaload, 1) := by decide +kernel
theorem dX6_set_27 : decode (mc mX6_set) 27 = .ok (.if_icmp .le 6, 3) := by decide +kernel
theorem dX6_set_30 : decode (mc mX6_set) 30 = .ok (.ldc 61, 2) := by decide +kernel
theorem dX6_set_32 : decode (mc mX6_set) 32 = .ok (.ireturn, 1) := by decide +kernel
theorem dX6_set_33 : decode (mc mX6_set) 33 = .ok (.aload_n 0, 1) := by decide +kernel
theorem dX6_set_34 : decode (mc mX6_set) 34 = .ok (.getfield 19, 3) := by decide +kernel
theorem dX6_set_37 : decode (mc mX6_set) 37 = .ok (.aload_n 0, 1) := by decide +kernel
theorem dX6_set_38 : decode (mc mX6_set) 38 = .ok (.getfield 10, 3) := by decide +kernel
theorem dX6_set_41 : decode (mc mX6_set) 41 = .ok (.invokevirtual 49, 3) := by decide +kernel
theorem dX6_set_44 : decode (mc mX6_set) 44 = .ok (.aload_n 0, 1) := by decide +kernel
theorem dX6_set_45 : decode (mc mX6_set) 45 = .ok (.getfield 10, 3) := by decide +kernel
theorem dX6_set_48 : decode (mc mX6_set) 48 = .ok (.iload_n 1, 1) := by decide +kernel
theorem dX6_set_49 : decode (mc mX6_set) 49 = .ok (.invokevirtual 77, 3) := by decide +kernel
theorem dX6_set_52 : decode (mc mX6_set) 52 = .ok (.istore_n 3, 1) := by decide +kernel
theorem dX6_set_53 : decode (mc mX6_set) 53 = .ok (.aload_n 0, 1) := by decide +kernel
theorem dX6_set_54 : decode (mc mX6_set) 54 = .ok (.getfield 10, 3) := by decide +kernel
theorem dX6_set_57 : decode (mc mX6_set) 57 = .ok (.iload_n 1, 1) := by decide +kernel
theorem dX6_set_58 : decode (mc mX6_set) 58 = .ok (.iload_n 2, 1) := by decide +kernel
theorem dX6_set_59 : decode (mc mX6_set) 59 = .ok (.invokevirtual 80, 3) := by decide +kernel
theorem dX6_set_62 : decode (mc mX6_set) 62 = .ok (.iload_n 3, 1) := by decide +kernel
theorem dX6_set_63 : decode (mc mX6_set) 63 = .ok (.ireturn, 1) := by decide +kernel
theorem dX6_count_0 : decode (mc mX6_count) 0 = .ok (.iload_n 1, 1) := by decide +kernel
theorem dX6_count_1 : decode (mc mX6_count) 1 = .ok (.ifCond .lt 9, 3) := by decide +kernel
theorem dX6_count_4 : decode (mc mX6_count) 4 = .ok (.iload_n 1, 1) := by decide +kernel
theorem dX6_count_5 : decode (mc mX6_count) 5 = .ok (.bipush 14, 2) := by decide +kernel
theorem dX6_count_7 : decode (mc mX6_count) 7 = .ok (.if_icmp .lt 6, 3) := by decide +kernel
theorem dX6_count_10 : decode (mc mX6_count) 10 = .ok (.ldc 61, 2) := by decide +kernel
theorem dX6_count_12 : decode (mc mX6_count) 12 = .ok (.ireturn, 1) := by decide +kernel
theorem dX6_count_13 : decode (mc mX6_count) 13 = .ok (.iload_n 1, 1) := by decide +kernel
theorem dX6_count_14 : decode (mc mX6_count) 14 = .ok (.bipush 13, 2) := by decide +kernel
theorem dX6_count_16 : decode (mc mX6_count) 16 = .ok (.if_icmp .ne 13, 3) := by decide +kernel
theorem dX6_count_19 : decode (mc mX6_count) 19 = .ok (.aload_n 0, 1) := by decide +kernel
theorem dX6_count_20 : decode (mc mX6_count) 20 = .ok (.getfield 26, 3) := by decide +kernel
theorem dX6_count_23 : decode (mc mX6_count) 23 = .ok (.getfield 83, 3) := by decide +kernel
theorem dX6_count_26 : decode (mc mX6_count) 26 = .ok (.goto 11, 3) := by decide +kernel
theorem dX6_count_29 : decode (mc mX6_count) 29 = .ok (.aload_n 0, 1) := by decide +kernel
theorem dX6_count_30 : decode (mc mX6_count) 30 = .ok (.getfield 10, 3) := by decide +kernel
theorem dX6_count_33 : decode (mc mX6_count) 33 = .ok (.iload_n 1, 1) := by decide +kernel
theorem dX6_count_34 : decode (mc mX6_count) 34 = .ok (.invokevirtual 87, 3) := by decide +kernel
theorem dX6_count_37 : decode (mc mX6_count) 37 = .ok (.ireturn, 1) := by decide +kernel
theorem dX6_member_0 : decode (mc mX6_member) 0 = .ok (.aload_n 0, 1) := by decide +kernel
theorem dX6_member_1 : decode (mc mX6_member) 1 = .ok (.getfield 10, 3) := by decide +kernel
theorem dX6_member_4 : decode (mc mX6_member) 4 = .ok (.iload_n 1, 1) := by decide +kernel
theorem dX6_member_5 : decode (mc mX6_member) 5 = .ok (.invokevirtual 56, 3) := by decide +kernel
theorem dX6_member_8 : decode (mc mX6_member) 8 = .ok (.ifCond .ne 6, 3) := by decide +kernel
theorem dX6_member_11 : decode (mc mX6_member) 11 = .ok (.ldc 60, 2) := by decide +kernel
theorem dX6_member_13 : decode (mc mX6_member) 13 = .ok (.ireturn, 1) := by decide +kernel
theorem dX6_member_14 : decode (mc mX6_member) 14 = .ok (.iload_n 2, 1) := by decide +kernel
theorem dX6_member_15 : decode (mc mX6_member) 15 = .ok (.ifCond .lt 8, 3) := by decide +kernel
theorem dX6_member_18 : decode (mc mX6_member) 18 = .ok (.iload_n 2, 1) := by decide +kernel
theorem dX6_member_19 : decode (mc mX6_member) 19 = .ok (.iconst 5, 1) := by decide +kernel
theorem dX6_member_20 : decode (mc mX6_member) 20 = .ok (.if_icmp .lt 6, 3) := by decide +kernel
theorem dX6_member_23 : decode (mc mX6_member) 23 = .ok (.ldc 61, 2) := by decide +kernel
theorem dX6_member_25 : decode (mc mX6_member) 25 = .ok (.ireturn, 1) := by decide +kernel
theorem dX6_member_26 : decode (mc mX6_member) 26 = .ok (.aload_n 0, 1) := by decide +kernel
theorem dX6_member_27 : decode (mc mX6_member) 27 = .ok (.getfield 10, 3) := by decide +kernel
theorem dX6_member_30 : decode (mc mX6_member) 30 = .ok (.iload_n 1, 1) := by decide +kernel
theorem dX6_member_31 : decode (mc mX6_member) 31 = .ok (.iload_n 2, 1) := by decide +kernel
theorem dX6_member_32 : decode (mc mX6_member) 32 = .ok (.invokevirtual 90, 3) := by decide +kernel
theorem dX6_member_35 : decode (mc mX6_member) 35 = .ok (.ireturn, 1) := by decide +kernel
theorem dX6_addPhrase_0 : decode (mc mX6_addPhrase) 0 = .ok (.aload_n 0, 1) := by decide +kernel
theorem dX6_addPhrase_1 : decode (mc mX6_addPhrase) 1 = .ok (.getfield 10, 3) := by decide +kernel
theorem dX6_addPhrase_4 : decode (mc mX6_addPhrase) 4 = .ok (.iload_n 1, 1) := by decide +kernel
theorem dX6_addPhrase_5 : decode (mc mX6_addPhrase) 5 = .ok (.invokevirtual 56, 3) := by decide +kernel
theorem dX6_addPhrase_8 : decode (mc mX6_addPhrase) 8 = .ok (.ifCond .eq 20, 3) := by decide +kernel
theorem dX6_addPhrase_11 : decode (mc mX6_addPhrase) 11 = .ok (.iload_n 3, 1) := by decide +kernel
theorem dX6_addPhrase_12 : decode (mc mX6_addPhrase) 12 = .ok (.ldc 94, 2) := by decide +kernel
theorem dX6_addPhrase_14 : decode (mc mX6_addPhrase) 14 = .ok (.if_icmp .eq 17, 3) := by decide +kernel
theorem dX6_addPhrase_17 : decode (mc mX6_addPhrase) 17 = .ok (.aload_n 0, 1) := by decide +kernel
theorem dX6_addPhrase_18 : decode (mc mX6_addPhrase) 18 = .ok (.getfield 10, 3) := by decide +kernel
theorem dX6_addPhrase_21 : decode (mc mX6_addPhrase) 21 = .ok (.iload_n 3, 1) := by decide +kernel
theorem dX6_addPhrase_22 : decode (mc mX6_addPhrase) 22 = .ok (.invokevirtual 95, 3) := by decide +kernel
theorem dX6_addPhrase_25 : decode (mc mX6_addPhrase) 25 = .ok (.ifCond .ne 6, 3) := by decide +kernel
theorem dX6_addPhrase_28 : decode (mc mX6_addPhrase) 28 = .ok (.ldc 60, 2) := by decide +kernel
theorem dX6_addPhrase_30 : decode (mc mX6_addPhrase) 30 = .ok (.ireturn, 1) := by decide +kernel
theorem dX6_addPhrase_31 : decode (mc mX6_addPhrase) 31 = .ok (.iload_n 2, 1) := by decide +kernel
theorem dX6_addPhrase_32 : decode (mc mX6_addPhrase) 32 = .ok (.ifCond .lt 10, 3) := by decide +kernel
theorem dX6_addPhrase_35 : decode (mc mX6_addPhrase) 35 = .ok (.iload_n 2, 1) := by decide +kernel
theorem dX6_addPhrase_36 : decode (mc mX6_addPhrase) 36 = .ok (.sipush 999, 3) := by decide +kernel
theorem dX6_addPhrase_39 : decode (mc mX6_addPhrase) 39 = .ok (.if_icmp .le 6, 3) := by decide +kernel
theorem dX6_addPhrase_42 : decode (mc mX6_addPhrase) 42 = .ok (.ldc 61, 2) := by decide +kernel
theorem dX6_addPhrase_44 : decode (mc mX6_addPhrase) 44 = .ok (.ireturn, 1) := by decide +kernel
theorem dX6_addPhrase_45 : decode (mc mX6_addPhrase) 45 = .ok (.aload_n 0, 1) := by decide +kernel
theorem dX6_addPhrase_46 : decode (mc mX6_addPhrase) 46 = .ok (.getfield 26, 3) := by decide +kernel
theorem dX6_addPhrase_49 : decode (mc mX6_addPhrase) 49 = .ok (.invokevirtual 98, 3) := by decide +kernel
theorem dX6_addPhrase_52 : decode (mc mX6_addPhrase) 52 = .ok (.ifCond .ne 20, 3) := by decide +kernel
theorem dX6_addPhrase_55 : decode (mc mX6_addPhrase) 55 = .ok (.iload_n 3, 1) := by decide +kernel
theorem dX6_addPhrase_56 : decode (mc mX6_addPhrase) 56 = .ok (.ldc 94, 2) := by decide +kernel
theorem dX6_addPhrase_58 : decode (mc mX6_addPhrase) 58 = .ok (.if_icmp .eq 17, 3) := by decide +kernel
theorem dX6_addPhrase_61 : decode (mc mX6_addPhrase) 61 = .ok (.aload_n 0, 1) := by decide +kernel
theorem dX6_addPhrase_62 : decode (mc mX6_addPhrase) 62 = .ok (.getfield 10, 3) := by decide +kernel
theorem dX6_addPhrase_65 : decode (mc mX6_addPhrase) 65 = .ok (.iload_n 3, 1) := by decide +kernel
theorem dX6_addPhrase_66 : decode (mc mX6_addPhrase) 66 = .ok (.invokevirtual 102, 3) := by decide +kernel
theorem dX6_addPhrase_69 : decode (mc mX6_addPhrase) 69 = .ok (.ifCond .ne 6, 3) := by decide +kernel
theorem dX6_addPhrase_72 : decode (mc mX6_addPhrase) 72 = .ok (.ldc 105, 2) := by decide +kernel
theorem dX6_addPhrase_74 : decode (mc mX6_addPhrase) 74 = .ok (.ireturn, 1) := by decide +kernel
theorem dX6_addPhrase_75 : decode (mc mX6_addPhrase) 75 = .ok (.aload_n 0, 1) := by decide +kernel
theorem dX6_addPhrase_76 : decode (mc mX6_addPhrase) 76 = .ok (.getfield 10, 3) := by decide +kernel
theorem dX6_addPhrase_79 : decode (mc mX6_addPhrase) 79 = .ok (.invokevirtual 106, 3) := by decide +kernel
theorem dX6_addPhrase_82 : decode (mc mX6_addPhrase) 82 = .ok (.bipush 20, 2) := by decide +kernel
theorem dX6_addPhrase_84 : decode (mc mX6_addPhrase) 84 = .ok (.if_icmp .lt 6, 3) := by decide +kernel
theorem dX6_addPhrase_87 : decode (mc mX6_addPhrase) 87 = .ok (.ldc 48, 2) := by decide +kernel
theorem dX6_addPhrase_89 : decode (mc mX6_addPhrase) 89 = .ok (.ireturn, 1) := by decide +kernel
theorem dX6_addPhrase_90 : decode (mc mX6_addPhrase) 90 = .ok (.aload_n 0, 1) := by decide +kernel
theorem dX6_addPhrase_91 : decode (mc mX6_addPhrase) 91 = .ok (.getfield 19, 3) := by decide +kernel
theorem dX6_addPhrase_94 : decode (mc mX6_addPhrase) 94 = .ok (.aload_n 0, 1) := by decide +kernel
theorem dX6_addPhrase_95 : decode (mc mX6_addPhrase) 95 = .ok (.getfield 10, 3) := by decide +kernel
theorem dX6_addPhrase_98 : decode (mc mX6_addPhrase) 98 = .ok (.invokevirtual 49, 3) := by decide +kernel
theorem dX6_addPhrase_101 : decode (mc mX6_addPhrase) 101 = .ok (.aload_n 0, 1) := by decide +kernel
theorem dX6_addPhrase_102 : decode (mc mX6_addPhrase) 102 = .ok (.getfield 26, 3) := by decide +kernel
theorem dX6_addPhrase_105 : decode (mc mX6_addPhrase) 105 = .ok (.aload_n 0, 1) := by decide +kernel
theorem dX6_addPhrase_106 : decode (mc mX6_addPhrase) 106 = .ok (.getfield 33, 3) := by decide +kernel
theorem dX6_addPhrase_109 : decode (mc mX6_addPhrase) 109 = .ok (.invokevirtual 109, 3) := by decide +kernel
theorem dX6_addPhrase_112 : decode (mc mX6_addPhrase) 112 = .ok (.aload_n 0, 1) := by decide +kernel
theorem dX6_addPhrase_113 : decode (mc mX6_addPhrase) 113 = .ok (.getfield 10, 3) := by decide +kernel
theorem dX6_addPhrase_116 : decode (mc mX6_addPhrase) 116 = .ok (.iload_n 1, 1) := by decide +kernel
theorem dX6_addPhrase_117 : decode (mc mX6_addPhrase) 117 = .ok (.iload_n 2, 1) := by decide +kernel
theorem dX6_addPhrase_118 : decode (mc mX6_addPhrase) 118 = .ok (.iload_n 3, 1) := by decide +kernel
theorem dX6_addPhrase_119 : decode (mc mX6_addPhrase) 119 = .ok (.aload_n 0, 1) := by decide +kernel
theorem dX6_addPhrase_120 : decode (mc mX6_addPhrase) 120 = .ok (.getfield 33, 3) := by decide +kernel
theorem dX6_addPhrase_123 : decode (mc mX6_addPhrase) 123 = .ok (.invokevirtual 113, 3) := by decide +kernel
theorem dX6_addPhrase_126 : decode (mc mX6_addPhrase) 126 = .ok (.ireturn, 1) := by decide +kernel
theorem dX6_phrase_0 : decode (mc mX6_phrase) 0 = .ok (.aload_n 0, 1) := by decide +kernel
theorem dX6_phrase_1 : decode (mc mX6_phrase) 1 = .ok (.getfield 10, 3) := by decide +kernel
theorem dX6_phrase_4 : decode (mc mX6_phrase) 4 = .ok (.iload_n 1, 1) := by decide +kernel
theorem dX6_phrase_5 : decode (mc mX6_phrase) 5 = .ok (.invokevirtual 95, 3) := by decide +kernel
theorem dX6_phrase_8 : decode (mc mX6_phrase) 8 = .ok (.ifCond .ne 6, 3) := by decide +kernel
theorem dX6_phrase_11 : decode (mc mX6_phrase) 11 = .ok (.ldc 60, 2) := by decide +kernel
theorem dX6_phrase_13 : decode (mc mX6_phrase) 13 = .ok (.ireturn, 1) := by decide +kernel
theorem dX6_phrase_14 : decode (mc mX6_phrase) 14 = .ok (.iload_n 2, 1) := by decide +kernel
theorem dX6_phrase_15 : decode (mc mX6_phrase) 15 = .ok (.ifCond .lt 9, 3) := by decide +kernel
theorem dX6_phrase_18 : decode (mc mX6_phrase) 18 = .ok (.iload_n 2, 1) := by decide +kernel
theorem dX6_phrase_19 : decode (mc mX6_phrase) 19 = .ok (.bipush 7, 2) := by decide +kernel
theorem dX6_phrase_21 : decode (mc mX6_phrase) 21 = .ok (.if_icmp .lt 6, 3) := by decide +kernel
theorem dX6_phrase_24 : decode (mc mX6_phrase) 24 = .ok (.ldc 61, 2) := by decide +kernel
theorem dX6_phrase_26 : decode (mc mX6_phrase) 26 = .ok (.ireturn, 1) := by decide +kernel
theorem dX6_phrase_27 : decode (mc mX6_phrase) 27 = .ok (.aload_n 0, 1) := by decide +kernel
theorem dX6_phrase_28 : decode (mc mX6_phrase) 28 = .ok (.getfield 10, 3) := by decide +kernel
theorem dX6_phrase_31 : decode (mc mX6_phrase) 31 = .ok (.iload_n 1, 1) := by decide +kernel
theorem dX6_phrase_32 : decode (mc mX6_phrase) 32 = .ok (.iload_n 2, 1) := by decide +kernel
theorem dX6_phrase_33 : decode (mc mX6_phrase) 33 = .ok (.invokevirtual 117, 3) := by decide +kernel
theorem dX6_phrase_36 : decode (mc mX6_phrase) 36 = .ok (.ireturn, 1) := by decide +kernel
theorem dX6_word_0 : decode (mc mX6_word) 0 = .ok (.aload_n 0, 1) := by decide +kernel
theorem dX6_word_1 : decode (mc mX6_word) 1 = .ok (.getfield 10, 3) := by decide +kernel
theorem dX6_word_4 : decode (mc mX6_word) 4 = .ok (.iload_n 1, 1) := by decide +kernel
theorem dX6_word_5 : decode (mc mX6_word) 5 = .ok (.invokevirtual 95, 3) := by decide +kernel
theorem dX6_word_8 : decode (mc mX6_word) 8 = .ok (.ifCond .ne 6, 3) := by decide +kernel
theorem dX6_word_11 : decode (mc mX6_word) 11 = .ok (.ldc 60, 2) := by decide +kernel
theorem dX6_word_13 : decode (mc mX6_word) 13 = .ok (.ireturn, 1) := by decide +kernel
theorem dX6_word_14 : decode (mc mX6_word) 14 = .ok (.iload_n 2, 1) := by decide +kernel
theorem dX6_word_15 : decode (mc mX6_word) 15 = .ok (.ifCond .ge 6, 3) := by decide +kernel
theorem dX6_word_18 : decode (mc mX6_word) 18 = .ok (.ldc 61, 2) := by decide +kernel
theorem dX6_word_20 : decode (mc mX6_word) 20 = .ok (.ireturn, 1) := by decide +kernel
theorem dX6_word_21 : decode (mc mX6_word) 21 = .ok (.iload_n 2, 1) := by decide +kernel
theorem dX6_word_22 : decode (mc mX6_word) 22 = .ok (.aload_n 0, 1) := by decide +kernel
theorem dX6_word_23 : decode (mc mX6_word) 23 = .ok (.getfield 10, 3) := by decide +kernel
theorem dX6_word_26 : decode (mc mX6_word) 26 = .ok (.iload_n 1, 1) := by decide +kernel
theorem dX6_word_27 : decode (mc mX6_word) 27 = .ok (.invokevirtual 120, 3) := by decide +kernel
theorem dX6_word_30 : decode (mc mX6_word) 30 = .ok (.if_icmp .ge 15, 3) := by decide +kernel
theorem dX6_word_33 : decode (mc mX6_word) 33 = .ok (.aload_n 0, 1) := by decide +kernel
theorem dX6_word_34 : decode (mc mX6_word) 34 = .ok (.getfield 10, 3) := by decide +kernel
theorem dX6_word_37 : decode (mc mX6_word) 37 = .ok (.iload_n 1, 1) := by decide +kernel
theorem dX6_word_38 : decode (mc mX6_word) 38 = .ok (.iload_n 2, 1) := by decide +kernel
theorem dX6_word_39 : decode (mc mX6_word) 39 = .ok (.invokevirtual 123, 3) := by decide +kernel
theorem dX6_word_42 : decode (mc mX6_word) 42 = .ok (.goto 5, 3) := by decide +kernel
theorem dX6_word_45 : decode (mc mX6_word) 45 = .ok (.ldc 94, 2) := by decide +kernel
theorem dX6_word_47 : decode (mc mX6_word) 47 = .ok (.ireturn, 1) := by decide +kernel
theorem dX6_score_0 : decode (mc mX6_score) 0 = .ok (.aload_n 0, 1) := by decide +kernel
theorem dX6_score_1 : decode (mc mX6_score) 1 = .ok (.getfield 10, 3) := by decide +kernel
theorem dX6_score_4 : decode (mc mX6_score) 4 = .ok (.iload_n 1, 1) := by decide +kernel
theorem dX6_score_5 : decode (mc mX6_score) 5 = .ok (.invokevirtual 95, 3) := by decide +kernel
theorem dX6_score_8 : decode (mc mX6_score) 8 = .ok (.ifCond .eq 14, 3) := by decide +kernel
theorem dX6_score_11 : decode (mc mX6_score) 11 = .ok (.aload_n 0, 1) := by decide +kernel
theorem dX6_score_12 : decode (mc mX6_score) 12 = .ok (.getfield 10, 3) := by decide +kernel
theorem dX6_score_15 : decode (mc mX6_score) 15 = .ok (.iload_n 2, 1) := by decide +kernel
theorem dX6_score_16 : decode (mc mX6_score) 16 = .ok (.invokevirtual 95, 3) := by decide +kernel
theorem dX6_score_19 : decode (mc mX6_score) 19 = .ok (.ifCond .ne 6, 3) := by decide +kernel
theorem dX6_score_22 : decode (mc mX6_score) 22 = .ok (.ldc 60, 2) := by decide +kernel
theorem dX6_score_24 : decode (mc mX6_score) 24 = .ok (.ireturn, 1) := by decide +kernel
theorem dX6_score_25 : decode (mc mX6_score) 25 = .ok (.aload_n 0, 1) := by decide +kernel
theorem dX6_score_26 : decode (mc mX6_score) 26 = .ok (.getfield 10, 3) := by decide +kernel
theorem dX6_score_29 : decode (mc mX6_score) 29 = .ok (.iload_n 1, 1) := by decide +kernel
theorem dX6_score_30 : decode (mc mX6_score) 30 = .ok (.iload_n 2, 1) := by decide +kernel
theorem dX6_score_31 : decode (mc mX6_score) 31 = .ok (.invokevirtual 126, 3) := by decide +kernel
theorem dX6_score_34 : decode (mc mX6_score) 34 = .ok (.ireturn, 1) := by decide +kernel
theorem dX6_agreed_0 : decode (mc mX6_agreed) 0 = .ok (.aload_n 0, 1) := by decide +kernel
theorem dX6_agreed_1 : decode (mc mX6_agreed) 1 = .ok (.getfield 26, 3) := by decide +kernel
theorem dX6_agreed_4 : decode (mc mX6_agreed) 4 = .ok (.invokevirtual 98, 3) := by decide +kernel
theorem dX6_agreed_7 : decode (mc mX6_agreed) 7 = .ok (.ifCond .eq 6, 3) := by decide +kernel
theorem dX6_agreed_10 : decode (mc mX6_agreed) 10 = .ok (.ldc 105, 2) := by decide +kernel
theorem dX6_agreed_12 : decode (mc mX6_agreed) 12 = .ok (.ireturn, 1) := by decide +kernel
theorem dX6_agreed_13 : decode (mc mX6_agreed) 13 = .ok (.aload_n 0, 1) := by decide +kernel
theorem dX6_agreed_14 : decode (mc mX6_agreed) 14 = .ok (.getfield 26, 3) := by decide +kernel
theorem dX6_agreed_17 : decode (mc mX6_agreed) 17 = .ok (.aload_n 0, 1) := by decide +kernel
theorem dX6_agreed_18 : decode (mc mX6_agreed) 18 = .ok (.getfield 33, 3) := by decide +kernel
theorem dX6_agreed_21 : decode (mc mX6_agreed) 21 = .ok (.invokevirtual 109, 3) := by decide +kernel
theorem dX6_agreed_24 : decode (mc mX6_agreed) 24 = .ok (.ldc 94, 2) := by decide +kernel
theorem dX6_agreed_26 : decode (mc mX6_agreed) 26 = .ok (.istore_n 1, 1) := by decide +kernel
theorem dX6_agreed_27 : decode (mc mX6_agreed) 27 = .ok (.iconst 0, 1) := by decide +kernel
theorem dX6_agreed_28 : decode (mc mX6_agreed) 28 = .ok (.istore_n 2, 1) := by decide +kernel
theorem dX6_agreed_29 : decode (mc mX6_agreed) 29 = .ok (.iconst 0, 1) := by decide +kernel
theorem dX6_agreed_30 : decode (mc mX6_agreed) 30 = .ok (.istore_n 3, 1) := by decide +kernel
theorem dX6_agreed_31 : decode (mc mX6_agreed) 31 = .ok (.iload_n 3, 1) := by decide +kernel
theorem dX6_agreed_32 : decode (mc mX6_agreed) 32 = .ok (.aload_n 0, 1) := by decide +kernel
theorem dX6_agreed_33 : decode (mc mX6_agreed) 33 = .ok (.getfield 10, 3) := by decide +kernel
theorem dX6_agreed_36 : decode (mc mX6_agreed) 36 = .ok (.invokevirtual 106, 3) := by decide +kernel
theorem dX6_agreed_39 : decode (mc mX6_agreed) 39 = .ok (.if_icmp .ge 73, 3) := by decide +kernel
theorem dX6_agreed_42 : decode (mc mX6_agreed) 42 = .ok (.aload_n 0, 1) := by decide +kernel
theorem dX6_agreed_43 : decode (mc mX6_agreed) 43 = .ok (.getfield 10, 3) := by decide +kernel
theorem dX6_agreed_46 : decode (mc mX6_agreed) 46 = .ok (.iload_n 3, 1) := by decide +kernel
theorem dX6_agreed_47 : decode (mc mX6_agreed) 47 = .ok (.aload_n 0, 1) := by decide +kernel
theorem dX6_agreed_48 : decode (mc mX6_agreed) 48 = .ok (.getfield 33, 3) := by decide +kernel
theorem dX6_agreed_51 : decode (mc mX6_agreed) 51 = .ok (.invokevirtual 129, 3) := by decide +kernel
theorem dX6_agreed_54 : decode (mc mX6_agreed) 54 = .ok (.ifCond .eq 52, 3) := by decide +kernel
theorem dX6_agreed_57 : decode (mc mX6_agreed) 57 = .ok (.aload_n 0, 1) := by decide +kernel
theorem dX6_agreed_58 : decode (mc mX6_agreed) 58 = .ok (.getfield 10, 3) := by decide +kernel
theorem dX6_agreed_61 : decode (mc mX6_agreed) 61 = .ok (.iload_n 3, 1) := by decide +kernel
theorem dX6_agreed_62 : decode (mc mX6_agreed) 62 = .ok (.invokevirtual 133, 3) := by decide +kernel
theorem dX6_agreed_65 : decode (mc mX6_agreed) 65 = .ok (.istore 4, 2) := by decide +kernel
theorem dX6_agreed_67 : decode (mc mX6_agreed) 67 = .ok (.aload_n 0, 1) := by decide +kernel
theorem dX6_agreed_68 : decode (mc mX6_agreed) 68 = .ok (.getfield 10, 3) := by decide +kernel
theorem dX6_agreed_71 : decode (mc mX6_agreed) 71 = .ok (.iload 4, 2) := by decide +kernel
theorem dX6_agreed_73 : decode (mc mX6_agreed) 73 = .ok (.aload_n 0, 1) := by decide +kernel
theorem dX6_agreed_74 : decode (mc mX6_agreed) 74 = .ok (.getfield 33, 3) := by decide +kernel
theorem dX6_agreed_77 : decode (mc mX6_agreed) 77 = .ok (.invokevirtual 136, 3) := by decide +kernel
theorem dX6_agreed_80 : decode (mc mX6_agreed) 80 = .ok (.istore 5, 2) := by decide +kernel
theorem dX6_agreed_82 : decode (mc mX6_agreed) 82 = .ok (.iload 5, 2) := by decide +kernel
theorem dX6_agreed_84 : decode (mc mX6_agreed) 84 = .ok (.iload_n 2, 1) := by decide +kernel
theorem dX6_agreed_85 : decode (mc mX6_agreed) 85 = .ok (.if_icmp .gt 15, 3) := by decide +kernel
theorem dX6_agreed_88 : decode (mc mX6_agreed) 88 = .ok (.iload 5, 2) := by decide +kernel
theorem dX6_agreed_90 : decode (mc mX6_agreed) 90 = .ok (.iload_n 2, 1) := by decide +kernel
theorem dX6_agreed_91 : decode (mc mX6_agreed) 91 = .ok (.if_icmp .ne 15, 3) := by decide +kernel
theorem dX6_agreed_94 : decode (mc mX6_agreed) 94 = .ok (.iload 4, 2) := by decide +kernel
theorem dX6_agreed_96 : decode (mc mX6_agreed) 96 = .ok (.iload_n 1, 1) := by decide +kernel
theorem dX6_agreed_97 : decode (mc mX6_agreed) 97 = .ok (.if_icmp .ge 9, 3) := by decide +kernel
theorem dX6_agreed_100 : decode (mc mX6_agreed) 100 = .ok (.iload 4, 2) := by decide +kernel
theorem dX6_agreed_102 : decode (mc mX6_agreed) 102 = .ok (.istore_n 1, 1) := by decide +kernel
theorem dX6_agreed_103 : decode (mc mX6_agreed) 103 = .ok (.iload 5, 2) := by decide +kernel
theorem dX6_agreed_105 : decode (mc mX6_agreed) 105 = .ok (.istore_n 2, 1) := by decide +kernel
theorem dX6_agreed_106 : decode (mc mX6_agreed) 106 = .ok (.iinc 3 1, 3) := by decide +kernel
theorem dX6_agreed_109 : decode (mc mX6_agreed) 109 = .ok (.goto (-78), 3) := by decide +kernel
theorem dX6_agreed_112 : decode (mc mX6_agreed) 112 = .ok (.iload_n 1, 1) := by decide +kernel
theorem dX6_agreed_113 : decode (mc mX6_agreed) 113 = .ok (.ireturn, 1) := by decide +kernel
theorem dX6_match_0 : decode (mc mX6_match) 0 = .ok (.aload_n 0, 1) := by decide +kernel
theorem dX6_match_1 : decode (mc mX6_match) 1 = .ok (.getfield 26, 3) := by decide +kernel
theorem dX6_match_4 : decode (mc mX6_match) 4 = .ok (.invokevirtual 98, 3) := by decide +kernel
theorem dX6_match_7 : decode (mc mX6_match) 7 = .ok (.ifCond .eq 8, 3) := by decide +kernel
theorem dX6_match_10 : decode (mc mX6_match) 10 = .ok (.ldc 105, 2) := by decide +kernel
theorem dX6_match_12 : decode (mc mX6_match) 12 = .ok (.goto 7, 3) := by decide +kernel
theorem dX6_match_15 : decode (mc mX6_match) 15 = .ok (.aload_n 0, 1) := by decide +kernel
theorem dX6_match_16 : decode (mc mX6_match) 16 = .ok (.invokevirtual 140, 3) := by decide +kernel
theorem dX6_match_19 : decode (mc mX6_match) 19 = .ok (.ireturn, 1) := by decide +kernel
theorem dX6_alike_0 : decode (mc mX6_alike) 0 = .ok (.aload_n 0, 1) := by decide +kernel
theorem dX6_alike_1 : decode (mc mX6_alike) 1 = .ok (.getfield 10, 3) := by decide +kernel
theorem dX6_alike_4 : decode (mc mX6_alike) 4 = .ok (.iload_n 1, 1) := by decide +kernel
theorem dX6_alike_5 : decode (mc mX6_alike) 5 = .ok (.invokevirtual 95, 3) := by decide +kernel
theorem dX6_alike_8 : decode (mc mX6_alike) 8 = .ok (.ifCond .ne 6, 3) := by decide +kernel
theorem dX6_alike_11 : decode (mc mX6_alike) 11 = .ok (.ldc 60, 2) := by decide +kernel
theorem dX6_alike_13 : decode (mc mX6_alike) 13 = .ok (.ireturn, 1) := by decide +kernel
theorem dX6_alike_14 : decode (mc mX6_alike) 14 = .ok (.aload_n 0, 1) := by decide +kernel
theorem dX6_alike_15 : decode (mc mX6_alike) 15 = .ok (.getfield 26, 3) := by decide +kernel
theorem dX6_alike_18 : decode (mc mX6_alike) 18 = .ok (.invokevirtual 98, 3) := by decide +kernel
theorem dX6_alike_21 : decode (mc mX6_alike) 21 = .ok (.ifCond .eq 6, 3) := by decide +kernel
theorem dX6_alike_24 : decode (mc mX6_alike) 24 = .ok (.ldc 105, 2) := by decide +kernel
theorem dX6_alike_26 : decode (mc mX6_alike) 26 = .ok (.ireturn, 1) := by decide +kernel
theorem dX6_alike_27 : decode (mc mX6_alike) 27 = .ok (.aload_n 0, 1) := by decide +kernel
theorem dX6_alike_28 : decode (mc mX6_alike) 28 = .ok (.getfield 26, 3) := by decide +kernel
theorem dX6_alike_31 : decode (mc mX6_alike) 31 = .ok (.aload_n 0, 1) := by decide +kernel
theorem dX6_alike_32 : decode (mc mX6_alike) 32 = .ok (.getfield 33, 3) := by decide +kernel
theorem dX6_alike_35 : decode (mc mX6_alike) 35 = .ok (.invokevirtual 109, 3) := by decide +kernel
theorem dX6_alike_38 : decode (mc mX6_alike) 38 = .ok (.aload_n 0, 1) := by decide +kernel
theorem dX6_alike_39 : decode (mc mX6_alike) 39 = .ok (.getfield 10, 3) := by decide +kernel
theorem dX6_alike_42 : decode (mc mX6_alike) 42 = .ok (.aload_n 0, 1) := by decide +kernel
theorem dX6_alike_43 : decode (mc mX6_alike) 43 = .ok (.getfield 33, 3) := by decide +kernel
theorem dX6_alike_46 : decode (mc mX6_alike) 46 = .ok (.iload_n 1, 1) := by decide +kernel
theorem dX6_alike_47 : decode (mc mX6_alike) 47 = .ok (.invokevirtual 143, 3) := by decide +kernel
theorem dX6_alike_50 : decode (mc mX6_alike) 50 = .ok (.ireturn, 1) := by decide +kernel
theorem dX6_fee_0 : decode (mc mX6_fee) 0 = .ok (.aload_n 0, 1) := by decide +kernel
theorem dX6_fee_1 : decode (mc mX6_fee) 1 = .ok (.getfield 10, 3) := by decide +kernel
theorem dX6_fee_4 : decode (mc mX6_fee) 4 = .ok (.iload_n 1, 1) := by decide +kernel
theorem dX6_fee_5 : decode (mc mX6_fee) 5 = .ok (.invokevirtual 56, 3) := by decide +kernel
theorem dX6_fee_8 : decode (mc mX6_fee) 8 = .ok (.ifCond .ne 6, 3) := by decide +kernel
theorem dX6_fee_11 : decode (mc mX6_fee) 11 = .ok (.ldc 60, 2) := by decide +kernel
theorem dX6_fee_13 : decode (mc mX6_fee) 13 = .ok (.ireturn, 1) := by decide +kernel
theorem dX6_fee_14 : decode (mc mX6_fee) 14 = .ok (.aload_n 0, 1) := by decide +kernel
theorem dX6_fee_15 : decode (mc mX6_fee) 15 = .ok (.getfield 26, 3) := by decide +kernel
theorem dX6_fee_18 : decode (mc mX6_fee) 18 = .ok (.invokevirtual 98, 3) := by decide +kernel
theorem dX6_fee_21 : decode (mc mX6_fee) 21 = .ok (.ifCond .eq 6, 3) := by decide +kernel
theorem dX6_fee_24 : decode (mc mX6_fee) 24 = .ok (.ldc 105, 2) := by decide +kernel
theorem dX6_fee_26 : decode (mc mX6_fee) 26 = .ok (.ireturn, 1) := by decide +kernel
theorem dX6_fee_27 : decode (mc mX6_fee) 27 = .ok (.aload_n 0, 1) := by decide +kernel
theorem dX6_fee_28 : decode (mc mX6_fee) 28 = .ok (.invokevirtual 140, 3) := by decide +kernel
theorem dX6_fee_31 : decode (mc mX6_fee) 31 = .ok (.istore_n 2, 1) := by decide +kernel
theorem dX6_fee_32 : decode (mc mX6_fee) 32 = .ok (.iload_n 2, 1) := by decide +kernel
theorem dX6_fee_33 : decode (mc mX6_fee) 33 = .ok (.ldc 94, 2) := by decide +kernel
theorem dX6_fee_35 : decode (mc mX6_fee) 35 = .ok (.if_icmp .ne 8, 3) := by decide +kernel
theorem dX6_fee_38 : decode (mc mX6_fee) 38 = .ok (.ldc 94, 2) := by decide +kernel
theorem dX6_fee_40 : decode (mc mX6_fee) 40 = .ok (.goto 24, 3) := by decide +kernel
theorem dX6_fee_43 : decode (mc mX6_fee) 43 = .ok (.aload_n 0, 1) := by decide +kernel
theorem dX6_fee_44 : decode (mc mX6_fee) 44 = .ok (.getfield 10, 3) := by decide +kernel
theorem dX6_fee_47 : decode (mc mX6_fee) 47 = .ok (.iload_n 1, 1) := by decide +kernel
theorem dX6_fee_48 : decode (mc mX6_fee) 48 = .ok (.iload_n 2, 1) := by decide +kernel
theorem dX6_fee_49 : decode (mc mX6_fee) 49 = .ok (.aload_n 0, 1) := by decide +kernel
theorem dX6_fee_50 : decode (mc mX6_fee) 50 = .ok (.getfield 10, 3) := by decide +kernel
theorem dX6_fee_53 : decode (mc mX6_fee) 53 = .ok (.aload_n 0, 1) := by decide +kernel
theorem dX6_fee_54 : decode (mc mX6_fee) 54 = .ok (.getfield 33, 3) := by decide +kernel
theorem dX6_fee_57 : decode (mc mX6_fee) 57 = .ok (.iload_n 2, 1) := by decide +kernel
theorem dX6_fee_58 : decode (mc mX6_fee) 58 = .ok (.invokevirtual 143, 3) := by decide +kernel
theorem dX6_fee_61 : decode (mc mX6_fee) 61 = .ok (.invokevirtual 147, 3) := by decide +kernel
theorem dX6_fee_64 : decode (mc mX6_fee) 64 = .ok (.ireturn, 1) := by decide +kernel
theorem dX6_use_0 : decode (mc mX6_use) 0 = .ok (.aload_n 0, 1) := by decide +kernel
theorem dX6_use_1 : decode (mc mX6_use) 1 = .ok (.getfield 10, 3) := by decide +kernel
theorem dX6_use_4 : decode (mc mX6_use) 4 = .ok (.iload_n 1, 1) := by decide +kernel
theorem dX6_use_5 : decode (mc mX6_use) 5 = .ok (.invokevirtual 56, 3) := by decide +kernel
theorem dX6_use_8 : decode (mc mX6_use) 8 = .ok (.ifCond .ne 6, 3) := by decide +kernel
theorem dX6_use_11 : decode (mc mX6_use) 11 = .ok (.ldc 60, 2) := by decide +kernel
theorem dX6_use_13 : decode (mc mX6_use) 13 = .ok (.ireturn, 1) := by decide +kernel
theorem dX6_use_14 : decode (mc mX6_use) 14 = .ok (.aload_n 0, 1) := by decide +kernel
theorem dX6_use_15 : decode (mc mX6_use) 15 = .ok (.getfield 26, 3) := by decide +kernel
theorem dX6_use_18 : decode (mc mX6_use) 18 = .ok (.invokevirtual 98, 3) := by decide +kernel
theorem dX6_use_21 : decode (mc mX6_use) 21 = .ok (.ifCond .eq 6, 3) := by decide +kernel
theorem dX6_use_24 : decode (mc mX6_use) 24 = .ok (.ldc 105, 2) := by decide +kernel
theorem dX6_use_26 : decode (mc mX6_use) 26 = .ok (.ireturn, 1) := by decide +kernel
theorem dX6_use_27 : decode (mc mX6_use) 27 = .ok (.aload_n 0, 1) := by decide +kernel
theorem dX6_use_28 : decode (mc mX6_use) 28 = .ok (.getfield 10, 3) := by decide +kernel
theorem dX6_use_31 : decode (mc mX6_use) 31 = .ok (.invokevirtual 151, 3) := by decide +kernel
theorem dX6_use_34 : decode (mc mX6_use) 34 = .ok (.bipush 24, 2) := by decide +kernel
theorem dX6_use_36 : decode (mc mX6_use) 36 = .ok (.if_icmp .lt 6, 3) := by decide +kernel
theorem dX6_use_39 : decode (mc mX6_use) 39 = .ok (.ldc 48, 2) := by decide +kernel
theorem dX6_use_41 : decode (mc mX6_use) 41 = .ok (.ireturn, 1) := by decide +kernel
theorem dX6_use_42 : decode (mc mX6_use) 42 = .ok (.aload_n 0, 1) := by decide +kernel
theorem dX6_use_43 : decode (mc mX6_use) 43 = .ok (.getfield 19, 3) := by decide +kernel
theorem dX6_use_46 : decode (mc mX6_use) 46 = .ok (.aload_n 0, 1) := by decide +kernel
theorem dX6_use_47 : decode (mc mX6_use) 47 = .ok (.getfield 10, 3) := by decide +kernel
theorem dX6_use_50 : decode (mc mX6_use) 50 = .ok (.invokevirtual 49, 3) := by decide +kernel
theorem dX6_use_53 : decode (mc mX6_use) 53 = .ok (.aload_n 0, 1) := by decide +kernel
theorem dX6_use_54 : decode (mc mX6_use) 54 = .ok (.invokevirtual 140, 3) := by decide +kernel
theorem dX6_use_57 : decode (mc mX6_use) 57 = .ok (.istore_n 2, 1) := by decide +kernel
theorem dX6_use_58 : decode (mc mX6_use) 58 = .ok (.iload_n 2, 1) := by decide +kernel
theorem dX6_use_59 : decode (mc mX6_use) 59 = .ok (.ldc 94, 2) := by decide +kernel
theorem dX6_use_61 : decode (mc mX6_use) 61 = .ok (.if_icmp .ne 8, 3) := by decide +kernel
theorem dX6_use_64 : decode (mc mX6_use) 64 = .ok (.ldc 94, 2) := by decide +kernel
theorem dX6_use_66 : decode (mc mX6_use) 66 = .ok (.goto 24, 3) := by decide +kernel
theorem dX6_use_69 : decode (mc mX6_use) 69 = .ok (.aload_n 0, 1) := by decide +kernel
theorem dX6_use_70 : decode (mc mX6_use) 70 = .ok (.getfield 10, 3) := by decide +kernel
theorem dX6_use_73 : decode (mc mX6_use) 73 = .ok (.iload_n 1, 1) := by decide +kernel
theorem dX6_use_74 : decode (mc mX6_use) 74 = .ok (.iload_n 2, 1) := by decide +kernel
theorem dX6_use_75 : decode (mc mX6_use) 75 = .ok (.aload_n 0, 1) := by decide +kernel
theorem dX6_use_76 : decode (mc mX6_use) 76 = .ok (.getfield 10, 3) := by decide +kernel
theorem dX6_use_79 : decode (mc mX6_use) 79 = .ok (.aload_n 0, 1) := by decide +kernel
theorem dX6_use_80 : decode (mc mX6_use) 80 = .ok (.getfield 33, 3) := by decide +kernel
theorem dX6_use_83 : decode (mc mX6_use) 83 = .ok (.iload_n 2, 1) := by decide +kernel
theorem dX6_use_84 : decode (mc mX6_use) 84 = .ok (.invokevirtual 143, 3) := by decide +kernel
theorem dX6_use_87 : decode (mc mX6_use) 87 = .ok (.invokevirtual 154, 3) := by decide +kernel
theorem dX6_use_90 : decode (mc mX6_use) 90 = .ok (.ireturn, 1) := by decide +kernel
theorem dX6_note_0 : decode (mc mX6_note) 0 = .ok (.aload_n 0, 1) := by decide +kernel
theorem dX6_note_1 : decode (mc mX6_note) 1 = .ok (.getfield 10, 3) := by decide +kernel
theorem dX6_note_4 : decode (mc mX6_note) 4 = .ok (.iload_n 1, 1) := by decide +kernel
theorem dX6_note_5 : decode (mc mX6_note) 5 = .ok (.invokevirtual 157, 3) := by decide +kernel
theorem dX6_note_8 : decode (mc mX6_note) 8 = .ok (.ifCond .ne 6, 3) := by decide +kernel
theorem dX6_note_11 : decode (mc mX6_note) 11 = .ok (.ldc 60, 2) := by decide +kernel
theorem dX6_note_13 : decode (mc mX6_note) 13 = .ok (.ireturn, 1) := by decide +kernel
theorem dX6_note_14 : decode (mc mX6_note) 14 = .ok (.iload_n 2, 1) := by decide +kernel
theorem dX6_note_15 : decode (mc mX6_note) 15 = .ok (.ifCond .lt 9, 3) := by decide +kernel
theorem dX6_note_18 : decode (mc mX6_note) 18 = .ok (.iload_n 2, 1) := by decide +kernel
theorem dX6_note_19 : decode (mc mX6_note) 19 = .ok (.bipush 13, 2) := by decide +kernel
theorem dX6_note_21 : decode (mc mX6_note) 21 = .ok (.if_icmp .lt 6, 3) := by decide +kernel
theorem dX6_note_24 : decode (mc mX6_note) 24 = .ok (.ldc 61, 2) := by decide +kernel
theorem dX6_note_26 : decode (mc mX6_note) 26 = .ok (.ireturn, 1) := by decide +kernel
theorem dX6_note_27 : decode (mc mX6_note) 27 = .ok (.aload_n 0, 1) := by decide +kernel
theorem dX6_note_28 : decode (mc mX6_note) 28 = .ok (.getfield 10, 3) := by decide +kernel
theorem dX6_note_31 : decode (mc mX6_note) 31 = .ok (.iload_n 1, 1) := by decide +kernel
theorem dX6_note_32 : decode (mc mX6_note) 32 = .ok (.iload_n 2, 1) := by decide +kernel
theorem dX6_note_33 : decode (mc mX6_note) 33 = .ok (.invokevirtual 160, 3) := by decide +kernel
theorem dX6_note_36 : decode (mc mX6_note) 36 = .ok (.ireturn, 1) := by decide +kernel
theorem dX6_retract_0 : decode (mc mX6_retract) 0 = .ok (.aload_n 0, 1) := by decide +kernel
theorem dX6_retract_1 : decode (mc mX6_retract) 1 = .ok (.getfield 10, 3) := by decide +kernel
theorem dX6_retract_4 : decode (mc mX6_retract) 4 = .ok (.iload_n 1, 1) := by decide +kernel
theorem dX6_retract_5 : decode (mc mX6_retract) 5 = .ok (.invokevirtual 95, 3) := by decide +kernel
theorem dX6_retract_8 : decode (mc mX6_retract) 8 = .ok (.ifCond .ne 6, 3) := by decide +kernel
theorem dX6_retract_11 : decode (mc mX6_retract) 11 = .ok (.ldc 60, 2) := by decide +kernel
theorem dX6_retract_13 : decode (mc mX6_retract) 13 = .ok (.ireturn, 1) := by decide +kernel
theorem dX6_retract_14 : decode (mc mX6_retract) 14 = .ok (.aload_n 0, 1) := by decide +kernel
theorem dX6_retract_15 : decode (mc mX6_retract) 15 = .ok (.getfield 10, 3) := by decide +kernel
theorem dX6_retract_18 : decode (mc mX6_retract) 18 = .ok (.iload_n 1, 1) := by decide +kernel
theorem dX6_retract_19 : decode (mc mX6_retract) 19 = .ok (.invokevirtual 102, 3) := by decide +kernel
theorem dX6_retract_22 : decode (mc mX6_retract) 22 = .ok (.ifCond .ne 6, 3) := by decide +kernel
theorem dX6_retract_25 : decode (mc mX6_retract) 25 = .ok (.ldc 105, 2) := by decide +kernel
theorem dX6_retract_27 : decode (mc mX6_retract) 27 = .ok (.ireturn, 1) := by decide +kernel
theorem dX6_retract_28 : decode (mc mX6_retract) 28 = .ok (.aload_n 0, 1) := by decide +kernel
theorem dX6_retract_29 : decode (mc mX6_retract) 29 = .ok (.getfield 19, 3) := by decide +kernel
theorem dX6_retract_32 : decode (mc mX6_retract) 32 = .ok (.aload_n 0, 1) := by decide +kernel
theorem dX6_retract_33 : decode (mc mX6_retract) 33 = .ok (.getfield 10, 3) := by decide +kernel
theorem dX6_retract_36 : decode (mc mX6_retract) 36 = .ok (.invokevirtual 49, 3) := by decide +kernel
theorem dX6_retract_39 : decode (mc mX6_retract) 39 = .ok (.aload_n 0, 1) := by decide +kernel
theorem dX6_retract_40 : decode (mc mX6_retract) 40 = .ok (.getfield 10, 3) := by decide +kernel
theorem dX6_retract_43 : decode (mc mX6_retract) 43 = .ok (.iload_n 1, 1) := by decide +kernel
theorem dX6_retract_44 : decode (mc mX6_retract) 44 = .ok (.invokevirtual 163, 3) := by decide +kernel
theorem dX6_retract_47 : decode (mc mX6_retract) 47 = .ok (.aload_n 0, 1) := by decide +kernel
theorem dX6_retract_48 : decode (mc mX6_retract) 48 = .ok (.getfield 10, 3) := by decide +kernel
theorem dX6_retract_51 : decode (mc mX6_retract) 51 = .ok (.invokevirtual 167, 3) := by decide +kernel
theorem dX6_retract_54 : decode (mc mX6_retract) 54 = .ok (.aload_n 0, 1) := by decide +kernel
theorem dX6_retract_55 : decode (mc mX6_retract) 55 = .ok (.getfield 10, 3) := by decide +kernel
theorem dX6_retract_58 : decode (mc mX6_retract) 58 = .ok (.invokevirtual 170, 3) := by decide +kernel
theorem dX6_retract_61 : decode (mc mX6_retract) 61 = .ok (.ireturn, 1) := by decide +kernel
theorem dX6_wouldPayBack_0 : decode (mc mX6_wouldPayBack) 0 = .ok (.aload_n 0, 1) := by decide +kernel
theorem dX6_wouldPayBack_1 : decode (mc mX6_wouldPayBack) 1 = .ok (.getfield 10, 3) := by decide +kernel
theorem dX6_wouldPayBack_4 : decode (mc mX6_wouldPayBack) 4 = .ok (.iload_n 1, 1) := by decide +kernel
theorem dX6_wouldPayBack_5 : decode (mc mX6_wouldPayBack) 5 = .ok (.invokevirtual 95, 3) := by decide +kernel
theorem dX6_wouldPayBack_8 : decode (mc mX6_wouldPayBack) 8 = .ok (.ifCond .ne 6, 3) := by decide +kernel
theorem dX6_wouldPayBack_11 : decode (mc mX6_wouldPayBack) 11 = .ok (.ldc 60, 2) := by decide +kernel
theorem dX6_wouldPayBack_13 : decode (mc mX6_wouldPayBack) 13 = .ok (.ireturn, 1) := by decide +kernel
theorem dX6_wouldPayBack_14 : decode (mc mX6_wouldPayBack) 14 = .ok (.aload_n 0, 1) := by decide +kernel
theorem dX6_wouldPayBack_15 : decode (mc mX6_wouldPayBack) 15 = .ok (.getfield 10, 3) := by decide +kernel
theorem dX6_wouldPayBack_18 : decode (mc mX6_wouldPayBack) 18 = .ok (.iload_n 1, 1) := by decide +kernel
theorem dX6_wouldPayBack_19 : decode (mc mX6_wouldPayBack) 19 = .ok (.invokevirtual 102, 3) := by decide +kernel
theorem dX6_wouldPayBack_22 : decode (mc mX6_wouldPayBack) 22 = .ok (.ifCond .ne 6, 3) := by decide +kernel
theorem dX6_wouldPayBack_25 : decode (mc mX6_wouldPayBack) 25 = .ok (.ldc 105, 2) := by decide +kernel
theorem dX6_wouldPayBack_27 : decode (mc mX6_wouldPayBack) 27 = .ok (.ireturn, 1) := by decide +kernel
theorem dX6_wouldPayBack_28 : decode (mc mX6_wouldPayBack) 28 = .ok (.aload_n 0, 1) := by decide +kernel
theorem dX6_wouldPayBack_29 : decode (mc mX6_wouldPayBack) 29 = .ok (.getfield 10, 3) := by decide +kernel
theorem dX6_wouldPayBack_32 : decode (mc mX6_wouldPayBack) 32 = .ok (.iload_n 1, 1) := by decide +kernel
theorem dX6_wouldPayBack_33 : decode (mc mX6_wouldPayBack) 33 = .ok (.invokevirtual 163, 3) := by decide +kernel
theorem dX6_wouldPayBack_36 : decode (mc mX6_wouldPayBack) 36 = .ok (.aload_n 0, 1) := by decide +kernel
theorem dX6_wouldPayBack_37 : decode (mc mX6_wouldPayBack) 37 = .ok (.getfield 10, 3) := by decide +kernel
theorem dX6_wouldPayBack_40 : decode (mc mX6_wouldPayBack) 40 = .ok (.invokevirtual 173, 3) := by decide +kernel
theorem dX6_wouldPayBack_43 : decode (mc mX6_wouldPayBack) 43 = .ok (.ireturn, 1) := by decide +kernel
theorem dX6_pass_0 : decode (mc mX6_pass) 0 = .ok (.iload_n 1, 1) := by decide +kernel
theorem dX6_pass_1 : decode (mc mX6_pass) 1 = .ok (.iconst 1, 1) := by decide +kernel
theorem dX6_pass_2 : decode (mc mX6_pass) 2 = .ok (.if_icmp .lt 9, 3) := by decide +kernel
theorem dX6_pass_5 : decode (mc mX6_pass) 5 = .ok (.iload_n 1, 1) := by decide +kernel
theorem dX6_pass_6 : decode (mc mX6_pass) 6 = .ok (.bipush 100, 2) := by decide +kernel
theorem dX6_pass_8 : decode (mc mX6_pass) 8 = .ok (.if_icmp .le 6, 3) := by decide +kernel
theorem dX6_pass_11 : decode (mc mX6_pass) 11 = .ok (.ldc 61, 2) := by decide +kernel
theorem dX6_pass_13 : decode (mc mX6_pass) 13 = .ok (.ireturn, 1) := by decide +kernel
theorem dX6_pass_14 : decode (mc mX6_pass) 14 = .ok (.aload_n 0, 1) := by decide +kernel
theorem dX6_pass_15 : decode (mc mX6_pass) 15 = .ok (.getfield 10, 3) := by decide +kernel
theorem dX6_pass_18 : decode (mc mX6_pass) 18 = .ok (.invokevirtual 176, 3) := by decide +kernel
theorem dX6_pass_21 : decode (mc mX6_pass) 21 = .ok (.iload_n 1, 1) := by decide +kernel
theorem dX6_pass_22 : decode (mc mX6_pass) 22 = .ok (.iadd, 1) := by decide +kernel
theorem dX6_pass_23 : decode (mc mX6_pass) 23 = .ok (.sipush 10000, 3) := by decide +kernel
theorem dX6_pass_26 : decode (mc mX6_pass) 26 = .ok (.if_icmp .le 6, 3) := by decide +kernel
theorem dX6_pass_29 : decode (mc mX6_pass) 29 = .ok (.ldc 48, 2) := by decide +kernel
theorem dX6_pass_31 : decode (mc mX6_pass) 31 = .ok (.ireturn, 1) := by decide +kernel
theorem dX6_pass_32 : decode (mc mX6_pass) 32 = .ok (.aload_n 0, 1) := by decide +kernel
theorem dX6_pass_33 : decode (mc mX6_pass) 33 = .ok (.getfield 19, 3) := by decide +kernel
theorem dX6_pass_36 : decode (mc mX6_pass) 36 = .ok (.aload_n 0, 1) := by decide +kernel
theorem dX6_pass_37 : decode (mc mX6_pass) 37 = .ok (.getfield 10, 3) := by decide +kernel
theorem dX6_pass_40 : decode (mc mX6_pass) 40 = .ok (.invokevirtual 49, 3) := by decide +kernel
theorem dX6_pass_43 : decode (mc mX6_pass) 43 = .ok (.aload_n 0, 1) := by decide +kernel
theorem dX6_pass_44 : decode (mc mX6_pass) 44 = .ok (.getfield 10, 3) := by decide +kernel
theorem dX6_pass_47 : decode (mc mX6_pass) 47 = .ok (.iload_n 1, 1) := by decide +kernel
theorem dX6_pass_48 : decode (mc mX6_pass) 48 = .ok (.invokevirtual 179, 3) := by decide +kernel
theorem dX6_pass_51 : decode (mc mX6_pass) 51 = .ok (.ireturn, 1) := by decide +kernel
theorem dX6_cheapest_0 : decode (mc mX6_cheapest) 0 = .ok (.aload_n 0, 1) := by decide +kernel
theorem dX6_cheapest_1 : decode (mc mX6_cheapest) 1 = .ok (.getfield 10, 3) := by decide +kernel
theorem dX6_cheapest_4 : decode (mc mX6_cheapest) 4 = .ok (.iload_n 1, 1) := by decide +kernel
theorem dX6_cheapest_5 : decode (mc mX6_cheapest) 5 = .ok (.invokevirtual 56, 3) := by decide +kernel
theorem dX6_cheapest_8 : decode (mc mX6_cheapest) 8 = .ok (.ifCond .ne 6, 3) := by decide +kernel
theorem dX6_cheapest_11 : decode (mc mX6_cheapest) 11 = .ok (.ldc 60, 2) := by decide +kernel
theorem dX6_cheapest_13 : decode (mc mX6_cheapest) 13 = .ok (.ireturn, 1) := by decide +kernel
theorem dX6_cheapest_14 : decode (mc mX6_cheapest) 14 = .ok (.aload_n 0, 1) := by decide +kernel
theorem dX6_cheapest_15 : decode (mc mX6_cheapest) 15 = .ok (.getfield 26, 3) := by decide +kernel
theorem dX6_cheapest_18 : decode (mc mX6_cheapest) 18 = .ok (.invokevirtual 98, 3) := by decide +kernel
theorem dX6_cheapest_21 : decode (mc mX6_cheapest) 21 = .ok (.ifCond .eq 6, 3) := by decide +kernel
theorem dX6_cheapest_24 : decode (mc mX6_cheapest) 24 = .ok (.ldc 105, 2) := by decide +kernel
theorem dX6_cheapest_26 : decode (mc mX6_cheapest) 26 = .ok (.ireturn, 1) := by decide +kernel
theorem dX6_cheapest_27 : decode (mc mX6_cheapest) 27 = .ok (.aload_n 0, 1) := by decide +kernel
theorem dX6_cheapest_28 : decode (mc mX6_cheapest) 28 = .ok (.iload_n 1, 1) := by decide +kernel
theorem dX6_cheapest_29 : decode (mc mX6_cheapest) 29 = .ok (.invokevirtual 182, 3) := by decide +kernel
theorem dX6_cheapest_32 : decode (mc mX6_cheapest) 32 = .ok (.aload_n 0, 1) := by decide +kernel
theorem dX6_cheapest_33 : decode (mc mX6_cheapest) 33 = .ok (.getfield 40, 3) := by decide +kernel
theorem dX6_cheapest_36 : decode (mc mX6_cheapest) 36 = .ok (.invokevirtual 185, 3) := by decide +kernel
theorem dX6_cheapest_39 : decode (mc mX6_cheapest) 39 = .ok (.ireturn, 1) := by decide +kernel
theorem dX6_piece_0 : decode (mc mX6_piece) 0 = .ok (.aload_n 0, 1) := by decide +kernel
theorem dX6_piece_1 : decode (mc mX6_piece) 1 = .ok (.getfield 10, 3) := by decide +kernel
theorem dX6_piece_4 : decode (mc mX6_piece) 4 = .ok (.iload_n 1, 1) := by decide +kernel
theorem dX6_piece_5 : decode (mc mX6_piece) 5 = .ok (.invokevirtual 56, 3) := by decide +kernel
theorem dX6_piece_8 : decode (mc mX6_piece) 8 = .ok (.ifCond .ne 6, 3) := by decide +kernel
theorem dX6_piece_11 : decode (mc mX6_piece) 11 = .ok (.ldc 60, 2) := by decide +kernel
theorem dX6_piece_13 : decode (mc mX6_piece) 13 = .ok (.ireturn, 1) := by decide +kernel
theorem dX6_piece_14 : decode (mc mX6_piece) 14 = .ok (.iload_n 2, 1) := by decide +kernel
theorem dX6_piece_15 : decode (mc mX6_piece) 15 = .ok (.ifCond .ge 6, 3) := by decide +kernel
theorem dX6_piece_18 : decode (mc mX6_piece) 18 = .ok (.ldc 61, 2) := by decide +kernel
theorem dX6_piece_20 : decode (mc mX6_piece) 20 = .ok (.ireturn, 1) := by decide +kernel
theorem dX6_piece_21 : decode (mc mX6_piece) 21 = .ok (.aload_n 0, 1) := by decide +kernel
theorem dX6_piece_22 : decode (mc mX6_piece) 22 = .ok (.getfield 26, 3) := by decide +kernel
theorem dX6_piece_25 : decode (mc mX6_piece) 25 = .ok (.invokevirtual 98, 3) := by decide +kernel
theorem dX6_piece_28 : decode (mc mX6_piece) 28 = .ok (.ifCond .eq 6, 3) := by decide +kernel
theorem dX6_piece_31 : decode (mc mX6_piece) 31 = .ok (.ldc 105, 2) := by decide +kernel
theorem dX6_piece_33 : decode (mc mX6_piece) 33 = .ok (.ireturn, 1) := by decide +kernel
theorem dX6_piece_34 : decode (mc mX6_piece) 34 = .ok (.aload_n 0, 1) := by decide +kernel
theorem dX6_piece_35 : decode (mc mX6_piece) 35 = .ok (.iload_n 1, 1) := by decide +kernel
theorem dX6_piece_36 : decode (mc mX6_piece) 36 = .ok (.invokevirtual 182, 3) := by decide +kernel
theorem dX6_piece_39 : decode (mc mX6_piece) 39 = .ok (.aload_n 0, 1) := by decide +kernel
theorem dX6_piece_40 : decode (mc mX6_piece) 40 = .ok (.getfield 40, 3) := by decide +kernel
theorem dX6_piece_43 : decode (mc mX6_piece) 43 = .ok (.iload_n 2, 1) := by decide +kernel
theorem dX6_piece_44 : decode (mc mX6_piece) 44 = .ok (.invokevirtual 188, 3) := by decide +kernel
theorem dX6_piece_47 : decode (mc mX6_piece) 47 = .ok (.ireturn, 1) := by decide +kernel
theorem dX6_type_0 : decode (mc mX6_type) 0 = .ok (.iload_n 1, 1) := by decide +kernel
theorem dX6_type_1 : decode (mc mX6_type) 1 = .ok (.ifCond .lt 10, 3) := by decide +kernel
theorem dX6_type_4 : decode (mc mX6_type) 4 = .ok (.iload_n 1, 1) := by decide +kernel
theorem dX6_type_5 : decode (mc mX6_type) 5 = .ok (.sipush 255, 3) := by decide +kernel
theorem dX6_type_8 : decode (mc mX6_type) 8 = .ok (.if_icmp .le 6, 3) := by decide +kernel
theorem dX6_type_11 : decode (mc mX6_type) 11 = .ok (.ldc 61, 2) := by decide +kernel
theorem dX6_type_13 : decode (mc mX6_type) 13 = .ok (.ireturn, 1) := by decide +kernel
theorem dX6_type_14 : decode (mc mX6_type) 14 = .ok (.aload_n 0, 1) := by decide +kernel
theorem dX6_type_15 : decode (mc mX6_type) 15 = .ok (.getfield 26, 3) := by decide +kernel
theorem dX6_type_18 : decode (mc mX6_type) 18 = .ok (.getfield 83, 3) := by decide +kernel
theorem dX6_type_21 : decode (mc mX6_type) 21 = .ok (.bipush 40, 2) := by decide +kernel
theorem dX6_type_23 : decode (mc mX6_type) 23 = .ok (.if_icmp .lt 6, 3) := by decide +kernel
theorem dX6_type_26 : decode (mc mX6_type) 26 = .ok (.ldc 48, 2) := by decide +kernel
theorem dX6_type_28 : decode (mc mX6_type) 28 = .ok (.ireturn, 1) := by decide +kernel
theorem dX6_type_29 : decode (mc mX6_type) 29 = .ok (.aload_n 0, 1) := by decide +kernel
theorem dX6_type_30 : decode (mc mX6_type) 30 = .ok (.getfield 26, 3) := by decide +kernel
theorem dX6_type_33 : decode (mc mX6_type) 33 = .ok (.iload_n 1, 1) := by decide +kernel
theorem dX6_type_34 : decode (mc mX6_type) 34 = .ok (.invokevirtual 191, 3) := by decide +kernel
theorem dX6_type_37 : decode (mc mX6_type) 37 = .ok (.ireturn, 1) := by decide +kernel
theorem dX6_clearText_0 : decode (mc mX6_clearText) 0 = .ok (.aload_n 0, 1) := by decide +kernel
theorem dX6_clearText_1 : decode (mc mX6_clearText) 1 = .ok (.getfield 26, 3) := by decide +kernel
theorem dX6_clearText_4 : decode (mc mX6_clearText) 4 = .ok (.invokevirtual 194, 3) := by decide +kernel
theorem dX6_clearText_7 : decode (mc mX6_clearText) 7 = .ok (.ireturn, 1) := by decide +kernel
theorem dX6_textFault_0 : decode (mc mX6_textFault) 0 = .ok (.aload_n 0, 1) := by decide +kernel
theorem dX6_textFault_1 : decode (mc mX6_textFault) 1 = .ok (.getfield 26, 3) := by decide +kernel
theorem dX6_textFault_4 : decode (mc mX6_textFault) 4 = .ok (.invokevirtual 197, 3) := by decide +kernel
theorem dX6_textFault_7 : decode (mc mX6_textFault) 7 = .ok (.ireturn, 1) := by decide +kernel
theorem dX6_undo_0 : decode (mc mX6_undo) 0 = .ok (.aload_n 0, 1) := by decide +kernel
theorem dX6_undo_1 : decode (mc mX6_undo) 1 = .ok (.getfield 19, 3) := by decide +kernel
theorem dX6_undo_4 : decode (mc mX6_undo) 4 = .ok (.getfield 200, 3) := by decide +kernel
theorem dX6_undo_7 : decode (mc mX6_undo) 7 = .ok (.ifCond .ne 6, 3) := by decide +kernel
theorem dX6_undo_10 : decode (mc mX6_undo) 10 = .ok (.ldc 105, 2) := by decide +kernel
theorem dX6_undo_12 : decode (mc mX6_undo) 12 = .ok (.ireturn, 1) := by decide +kernel
theorem dX6_undo_13 : decode (mc mX6_undo) 13 = .ok (.aload_n 0, 1) := by decide +kernel
theorem dX6_undo_14 : decode (mc mX6_undo) 14 = .ok (.getfield 19, 3) := by decide +kernel
theorem dX6_undo_17 : decode (mc mX6_undo) 17 = .ok (.aload_n 0, 1) := by decide +kernel
theorem dX6_undo_18 : decode (mc mX6_undo) 18 = .ok (.getfield 10, 3) := by decide +kernel
theorem dX6_undo_21 : decode (mc mX6_undo) 21 = .ok (.invokevirtual 203, 3) := by decide +kernel
theorem dX6_undo_24 : decode (mc mX6_undo) 24 = .ok (.ireturn, 1) := by decide +kernel
theorem dX6_digest_0 : decode (mc mX6_digest) 0 = .ok (.ldc2_w 207, 3) := by decide +kernel
theorem dX6_digest_3 : decode (mc mX6_digest) 3 = .ok (.lstore_n 1, 1) := by decide +kernel
theorem dX6_digest_4 : decode (mc mX6_digest) 4 = .ok (.iconst 0, 1) := by decide +kernel
theorem dX6_digest_5 : decode (mc mX6_digest) 5 = .ok (.istore_n 3, 1) := by decide +kernel
theorem dX6_digest_6 : decode (mc mX6_digest) 6 = .ok (.iload_n 3, 1) := by decide +kernel
theorem dX6_digest_7 : decode (mc mX6_digest) 7 = .ok (.bipush 13, 2) := by decide +kernel
theorem dX6_digest_9 : decode (mc mX6_digest) 9 = .ok (.if_icmp .ge 25, 3) := by decide +kernel
theorem dX6_digest_12 : decode (mc mX6_digest) 12 = .ok (.ldc2_w 209, 3) := by decide +kernel
theorem dX6_digest_15 : decode (mc mX6_digest) 15 = .ok (.lload_n 1, 1) := by decide +kernel
theorem dX6_digest_16 : decode (mc mX6_digest) 16 = .ok (.lmul, 1) := by decide +kernel
theorem dX6_digest_17 : decode (mc mX6_digest) 17 = .ok (.aload_n 0, 1) := by decide +kernel
theorem dX6_digest_18 : decode (mc mX6_digest) 18 = .ok (.getfield 10, 3) := by decide +kernel
theorem dX6_digest_21 : decode (mc mX6_digest) 21 = .ok (.iload_n 3, 1) := by decide +kernel
theorem dX6_digest_22 : decode (mc mX6_digest) 22 = .ok (.invokevirtual 87, 3) := by decide +kernel
theorem dX6_digest_25 : decode (mc mX6_digest) 25 = .ok (.i2l, 1) := by decide +kernel
theorem dX6_digest_26 : decode (mc mX6_digest) 26 = .ok (.ladd, 1) := by decide +kernel
theorem dX6_digest_27 : decode (mc mX6_digest) 27 = .ok (.lstore_n 1, 1) := by decide +kernel
theorem dX6_digest_28 : decode (mc mX6_digest) 28 = .ok (.iinc 3 1, 3) := by decide +kernel
theorem dX6_digest_31 : decode (mc mX6_digest) 31 = .ok (.goto (-25), 3) := by decide +kernel
theorem dX6_digest_34 : decode (mc mX6_digest) 34 = .ok (.iconst 0, 1) := by decide +kernel
theorem dX6_digest_35 : decode (mc mX6_digest) 35 = .ok (.istore_n 3, 1) := by decide +kernel
theorem dX6_digest_36 : decode (mc mX6_digest) 36 = .ok (.iload_n 3, 1) := by decide +kernel
theorem dX6_digest_37 : decode (mc mX6_digest) 37 = .ok (.aload_n 0, 1) := by decide +kernel
theorem dX6_digest_38 : decode (mc mX6_digest) 38 = .ok (.getfield 10, 3) := by decide +kernel
theorem dX6_digest_41 : decode (mc mX6_digest) 41 = .ok (.invokevirtual 44, 3) := by decide +kernel
theorem dX6_digest_44 : decode (mc mX6_digest) 44 = .ok (.if_icmp .ge 42, 3) := by decide +kernel
theorem dX6_digest_47 : decode (mc mX6_digest) 47 = .ok (.iconst 0, 1) := by decide +kernel
theorem dX6_digest_48 : decode (mc mX6_digest) 48 = .ok (.istore 4, 2) := by decide +kernel
theorem dX6_digest_50 : decode (mc mX6_digest) 50 = .ok (.iload 4, 2) := by decide +kernel
theorem dX6_digest_52 : decode (mc mX6_digest) 52 = .ok (.iconst 5, 1) := by decide +kernel
theorem dX6_digest_53 : decode (mc mX6_digest) 53 = .ok (.if_icmp .ge 27, 3) := by decide +kernel
theorem dX6_digest_56 : decode (mc mX6_digest) 56 = .ok (.ldc2_w 209, 3) := by decide +kernel
theorem dX6_digest_59 : decode (mc mX6_digest) 59 = .ok (.lload_n 1, 1) := by decide +kernel
theorem dX6_digest_60 : decode (mc mX6_digest) 60 = .ok (.lmul, 1) := by decide +kernel
theorem dX6_digest_61 : decode (mc mX6_digest) 61 = .ok (.aload_n 0, 1) := by decide +kernel
theorem dX6_digest_62 : decode (mc mX6_digest) 62 = .ok (.getfield 10, 3) := by decide +kernel
theorem dX6_digest_65 : decode (mc mX6_digest) 65 = .ok (.iload_n 3, 1) := by decide +kernel
theorem dX6_digest_66 : decode (mc mX6_digest) 66 = .ok (.iload 4, 2) := by decide +kernel
theorem dX6_digest_68 : decode (mc mX6_digest) 68 = .ok (.invokevirtual 90, 3) := by decide +kernel
theorem dX6_digest_71 : decode (mc mX6_digest) 71 = .ok (.i2l, 1) := by decide +kernel
theorem dX6_digest_72 : decode (mc mX6_digest) 72 = .ok (.ladd, 1) := by decide +kernel
theorem dX6_digest_73 : decode (mc mX6_digest) 73 = .ok (.lstore_n 1, 1) := by decide +kernel
theorem dX6_digest_74 : decode (mc mX6_digest) 74 = .ok (.iinc 4 1, 3) := by decide +kernel
theorem dX6_digest_77 : decode (mc mX6_digest) 77 = .ok (.goto (-27), 3) := by decide +kernel
theorem dX6_digest_80 : decode (mc mX6_digest) 80 = .ok (.iinc 3 1, 3) := by decide +kernel
theorem dX6_digest_83 : decode (mc mX6_digest) 83 = .ok (.goto (-47), 3) := by decide +kernel
theorem dX6_digest_86 : decode (mc mX6_digest) 86 = .ok (.iconst 0, 1) := by decide +kernel
theorem dX6_digest_87 : decode (mc mX6_digest) 87 = .ok (.istore_n 3, 1) := by decide +kernel
theorem dX6_digest_88 : decode (mc mX6_digest) 88 = .ok (.iload_n 3, 1) := by decide +kernel
theorem dX6_digest_89 : decode (mc mX6_digest) 89 = .ok (.aload_n 0, 1) := by decide +kernel
theorem dX6_digest_90 : decode (mc mX6_digest) 90 = .ok (.getfield 10, 3) := by decide +kernel
theorem dX6_digest_93 : decode (mc mX6_digest) 93 = .ok (.invokevirtual 106, 3) := by decide +kernel
theorem dX6_digest_96 : decode (mc mX6_digest) 96 = .ok (.if_icmp .ge 16, 3) := by decide +kernel
theorem dX6_digest_99 : decode (mc mX6_digest) 99 = .ok (.aload_n 0, 1) := by decide +kernel
theorem dX6_digest_100 : decode (mc mX6_digest) 100 = .ok (.lload_n 1, 1) := by decide +kernel
theorem dX6_digest_101 : decode (mc mX6_digest) 101 = .ok (.iload_n 3, 1) := by decide +kernel
theorem dX6_digest_102 : decode (mc mX6_digest) 102 = .ok (.invokevirtual 211, 3) := by decide +kernel
theorem dX6_digest_105 : decode (mc mX6_digest) 105 = .ok (.lstore_n 1, 1) := by decide +kernel
theorem dX6_digest_106 : decode (mc mX6_digest) 106 = .ok (.iinc 3 1, 3) := by decide +kernel
theorem dX6_digest_109 : decode (mc mX6_digest) 109 = .ok (.goto (-21), 3) := by decide +kernel
theorem dX6_digest_112 : decode (mc mX6_digest) 112 = .ok (.iconst 0, 1) := by decide +kernel
theorem dX6_digest_113 : decode (mc mX6_digest) 113 = .ok (.istore_n 3, 1) := by decide +kernel
theorem dX6_digest_114 : decode (mc mX6_digest) 114 = .ok (.iload_n 3, 1) := by decide +kernel
theorem dX6_digest_115 : decode (mc mX6_digest) 115 = .ok (.aload_n 0, 1) := by decide +kernel
theorem dX6_digest_116 : decode (mc mX6_digest) 116 = .ok (.getfield 10, 3) := by decide +kernel
theorem dX6_digest_119 : decode (mc mX6_digest) 119 = .ok (.invokevirtual 151, 3) := by decide +kernel
theorem dX6_digest_122 : decode (mc mX6_digest) 122 = .ok (.if_icmp .ge 43, 3) := by decide +kernel
theorem dX6_digest_125 : decode (mc mX6_digest) 125 = .ok (.iconst 0, 1) := by decide +kernel
theorem dX6_digest_126 : decode (mc mX6_digest) 126 = .ok (.istore 4, 2) := by decide +kernel
theorem dX6_digest_128 : decode (mc mX6_digest) 128 = .ok (.iload 4, 2) := by decide +kernel
theorem dX6_digest_130 : decode (mc mX6_digest) 130 = .ok (.bipush 13, 2) := by decide +kernel
theorem dX6_digest_132 : decode (mc mX6_digest) 132 = .ok (.if_icmp .ge 27, 3) := by decide +kernel
theorem dX6_digest_135 : decode (mc mX6_digest) 135 = .ok (.ldc2_w 209, 3) := by decide +kernel
theorem dX6_digest_138 : decode (mc mX6_digest) 138 = .ok (.lload_n 1, 1) := by decide +kernel
theorem dX6_digest_139 : decode (mc mX6_digest) 139 = .ok (.lmul, 1) := by decide +kernel
theorem dX6_digest_140 : decode (mc mX6_digest) 140 = .ok (.aload_n 0, 1) := by decide +kernel
theorem dX6_digest_141 : decode (mc mX6_digest) 141 = .ok (.getfield 10, 3) := by decide +kernel
theorem dX6_digest_144 : decode (mc mX6_digest) 144 = .ok (.iload_n 3, 1) := by decide +kernel
theorem dX6_digest_145 : decode (mc mX6_digest) 145 = .ok (.iload 4, 2) := by decide +kernel
theorem dX6_digest_147 : decode (mc mX6_digest) 147 = .ok (.invokevirtual 160, 3) := by decide +kernel
theorem dX6_digest_150 : decode (mc mX6_digest) 150 = .ok (.i2l, 1) := by decide +kernel
theorem dX6_digest_151 : decode (mc mX6_digest) 151 = .ok (.ladd, 1) := by decide +kernel
theorem dX6_digest_152 : decode (mc mX6_digest) 152 = .ok (.lstore_n 1, 1) := by decide +kernel
theorem dX6_digest_153 : decode (mc mX6_digest) 153 = .ok (.iinc 4 1, 3) := by decide +kernel
theorem dX6_digest_156 : decode (mc mX6_digest) 156 = .ok (.goto (-28), 3) := by decide +kernel
theorem dX6_digest_159 : decode (mc mX6_digest) 159 = .ok (.iinc 3 1, 3) := by decide +kernel
theorem dX6_digest_162 : decode (mc mX6_digest) 162 = .ok (.goto (-48), 3) := by decide +kernel
theorem dX6_digest_165 : decode (mc mX6_digest) 165 = .ok (.lload_n 1, 1) := by decide +kernel
theorem dX6_digest_166 : decode (mc mX6_digest) 166 = .ok (.lreturn, 1) := by decide +kernel
theorem dX6_hashPhrase_0 : decode (mc mX6_hashPhrase) 0 = .ok (.lload_n 1, 1) := by decide +kernel
theorem dX6_hashPhrase_1 : decode (mc mX6_hashPhrase) 1 = .ok (.lstore 4, 2) := by decide +kernel
theorem dX6_hashPhrase_3 : decode (mc mX6_hashPhrase) 3 = .ok (.iconst 0, 1) := by decide +kernel
theorem dX6_hashPhrase_4 : decode (mc mX6_hashPhrase) 4 = .ok (.istore 6, 2) := by decide +kernel
theorem dX6_hashPhrase_6 : decode (mc mX6_hashPhrase) 6 = .ok (.iload 6, 2) := by decide +kernel
theorem dX6_hashPhrase_8 : decode (mc mX6_hashPhrase) 8 = .ok (.bipush 7, 2) := by decide +kernel
theorem dX6_hashPhrase_10 : decode (mc mX6_hashPhrase) 10 = .ok (.if_icmp .ge 29, 3) := by decide +kernel
theorem dX6_hashPhrase_13 : decode (mc mX6_hashPhrase) 13 = .ok (.ldc2_w 209, 3) := by decide +kernel
theorem dX6_hashPhrase_16 : decode (mc mX6_hashPhrase) 16 = .ok (.lload 4, 2) := by decide +kernel
theorem dX6_hashPhrase_18 : decode (mc mX6_hashPhrase) 18 = .ok (.lmul, 1) := by decide +kernel
theorem dX6_hashPhrase_19 : decode (mc mX6_hashPhrase) 19 = .ok (.aload_n 0, 1) := by decide +kernel
theorem dX6_hashPhrase_20 : decode (mc mX6_hashPhrase) 20 = .ok (.getfield 10, 3) := by decide +kernel
theorem dX6_hashPhrase_23 : decode (mc mX6_hashPhrase) 23 = .ok (.iload_n 3, 1) := by decide +kernel
theorem dX6_hashPhrase_24 : decode (mc mX6_hashPhrase) 24 = .ok (.iload 6, 2) := by decide +kernel
theorem dX6_hashPhrase_26 : decode (mc mX6_hashPhrase) 26 = .ok (.invokevirtual 117, 3) := by decide +kernel
theorem dX6_hashPhrase_29 : decode (mc mX6_hashPhrase) 29 = .ok (.i2l, 1) := by decide +kernel
theorem dX6_hashPhrase_30 : decode (mc mX6_hashPhrase) 30 = .ok (.ladd, 1) := by decide +kernel
theorem dX6_hashPhrase_31 : decode (mc mX6_hashPhrase) 31 = .ok (.lstore 4, 2) := by decide +kernel
theorem dX6_hashPhrase_33 : decode (mc mX6_hashPhrase) 33 = .ok (.iinc 6 1, 3) := by decide +kernel
theorem dX6_hashPhrase_36 : decode (mc mX6_hashPhrase) 36 = .ok (.goto (-30), 3) := by decide +kernel
theorem dX6_hashPhrase_39 : decode (mc mX6_hashPhrase) 39 = .ok (.iconst 0, 1) := by decide +kernel
theorem dX6_hashPhrase_40 : decode (mc mX6_hashPhrase) 40 = .ok (.istore 6, 2) := by decide +kernel
theorem dX6_hashPhrase_42 : decode (mc mX6_hashPhrase) 42 = .ok (.iload 6, 2) := by decide +kernel
theorem dX6_hashPhrase_44 : decode (mc mX6_hashPhrase) 44 = .ok (.aload_n 0, 1) := by decide +kernel
theorem dX6_hashPhrase_45 : decode (mc mX6_hashPhrase) 45 = .ok (.getfield 10, 3) := by decide +kernel
theorem dX6_hashPhrase_48 : decode (mc mX6_hashPhrase) 48 = .ok (.iload_n 3, 1) := by decide +kernel
theorem dX6_hashPhrase_49 : decode (mc mX6_hashPhrase) 49 = .ok (.invokevirtual 120, 3) := by decide +kernel
theorem dX6_hashPhrase_52 : decode (mc mX6_hashPhrase) 52 = .ok (.if_icmp .ge 29, 3) := by decide +kernel
theorem dX6_hashPhrase_55 : decode (mc mX6_hashPhrase) 55 = .ok (.ldc2_w 209, 3) := by decide +kernel
theorem dX6_hashPhrase_58 : decode (mc mX6_hashPhrase) 58 = .ok (.lload 4, 2) := by decide +kernel
theorem dX6_hashPhrase_60 : decode (mc mX6_hashPhrase) 60 = .ok (.lmul, 1) := by decide +kernel
theorem dX6_hashPhrase_61 : decode (mc mX6_hashPhrase) 61 = .ok (.aload_n 0, 1) := by decide +kernel
theorem dX6_hashPhrase_62 : decode (mc mX6_hashPhrase) 62 = .ok (.getfield 10, 3) := by decide +kernel
theorem dX6_hashPhrase_65 : decode (mc mX6_hashPhrase) 65 = .ok (.iload_n 3, 1) := by decide +kernel
theorem dX6_hashPhrase_66 : decode (mc mX6_hashPhrase) 66 = .ok (.iload 6, 2) := by decide +kernel
theorem dX6_hashPhrase_68 : decode (mc mX6_hashPhrase) 68 = .ok (.invokevirtual 123, 3) := by decide +kernel
theorem dX6_hashPhrase_71 : decode (mc mX6_hashPhrase) 71 = .ok (.i2l, 1) := by decide +kernel
theorem dX6_hashPhrase_72 : decode (mc mX6_hashPhrase) 72 = .ok (.ladd, 1) := by decide +kernel
theorem dX6_hashPhrase_73 : decode (mc mX6_hashPhrase) 73 = .ok (.lstore 4, 2) := by decide +kernel
theorem dX6_hashPhrase_75 : decode (mc mX6_hashPhrase) 75 = .ok (.iinc 6 1, 3) := by decide +kernel
theorem dX6_hashPhrase_78 : decode (mc mX6_hashPhrase) 78 = .ok (.goto (-36), 3) := by decide +kernel
theorem dX6_hashPhrase_81 : decode (mc mX6_hashPhrase) 81 = .ok (.lload 4, 2) := by decide +kernel
theorem dX6_hashPhrase_83 : decode (mc mX6_hashPhrase) 83 = .ok (.lreturn, 1) := by decide +kernel
theorem dX6_findMatch_0 : decode (mc mX6_findMatch) 0 = .ok (.aload_n 0, 1) := by decide +kernel
theorem dX6_findMatch_1 : decode (mc mX6_findMatch) 1 = .ok (.getfield 26, 3) := by decide +kernel
theorem dX6_findMatch_4 : decode (mc mX6_findMatch) 4 = .ok (.aload_n 0, 1) := by decide +kernel
theorem dX6_findMatch_5 : decode (mc mX6_findMatch) 5 = .ok (.getfield 33, 3) := by decide +kernel
theorem dX6_findMatch_8 : decode (mc mX6_findMatch) 8 = .ok (.invokevirtual 109, 3) := by decide +kernel
theorem dX6_findMatch_11 : decode (mc mX6_findMatch) 11 = .ok (.ldc 94, 2) := by decide +kernel
theorem dX6_findMatch_13 : decode (mc mX6_findMatch) 13 = .ok (.istore_n 1, 1) := by decide +kernel
theorem dX6_findMatch_14 : decode (mc mX6_findMatch) 14 = .ok (.aload_n 0, 1) := by decide +kernel
theorem dX6_findMatch_15 : decode (mc mX6_findMatch) 15 = .ok (.getfield 10, 3) := by decide +kernel
theorem dX6_findMatch_18 : decode (mc mX6_findMatch) 18 = .ok (.iconst 0, 1) := by decide +kernel
theorem dX6_findMatch_19 : decode (mc mX6_findMatch) 19 = .ok (.invokevirtual 77, 3) := by decide +kernel
theorem dX6_findMatch_22 : decode (mc mX6_findMatch) 22 = .ok (.istore_n 2, 1) := by decide +kernel
theorem dX6_findMatch_23 : decode (mc mX6_findMatch) 23 = .ok (.iconst 0, 1) := by decide +kernel
theorem dX6_findMatch_24 : decode (mc mX6_findMatch) 24 = .ok (.istore_n 3, 1) := by decide +kernel
theorem dX6_findMatch_25 : decode (mc mX6_findMatch) 25 = .ok (.iload_n 3, 1) := by decide +kernel
theorem dX6_findMatch_26 : decode (mc mX6_findMatch) 26 = .ok (.aload_n 0, 1) := by decide +kernel
theorem dX6_findMatch_27 : decode (mc mX6_findMatch) 27 = .ok (.getfield 10, 3) := by decide +kernel
theorem dX6_findMatch_30 : decode (mc mX6_findMatch) 30 = .ok (.invokevirtual 106, 3) := by decide +kernel
theorem dX6_findMatch_33 : decode (mc mX6_findMatch) 33 = .ok (.if_icmp .ge 76, 3) := by decide +kernel
theorem dX6_findMatch_36 : decode (mc mX6_findMatch) 36 = .ok (.aload_n 0, 1) := by decide +kernel
theorem dX6_findMatch_37 : decode (mc mX6_findMatch) 37 = .ok (.getfield 10, 3) := by decide +kernel
theorem dX6_findMatch_40 : decode (mc mX6_findMatch) 40 = .ok (.iload_n 3, 1) := by decide +kernel
theorem dX6_findMatch_41 : decode (mc mX6_findMatch) 41 = .ok (.invokevirtual 102, 3) := by decide +kernel
theorem dX6_findMatch_44 : decode (mc mX6_findMatch) 44 = .ok (.ifCond .eq 59, 3) := by decide +kernel
theorem dX6_findMatch_47 : decode (mc mX6_findMatch) 47 = .ok (.aload_n 0, 1) := by decide +kernel
theorem dX6_findMatch_48 : decode (mc mX6_findMatch) 48 = .ok (.getfield 10, 3) := by decide +kernel
theorem dX6_findMatch_51 : decode (mc mX6_findMatch) 51 = .ok (.aload_n 0, 1) := by decide +kernel
theorem dX6_findMatch_52 : decode (mc mX6_findMatch) 52 = .ok (.getfield 33, 3) := by decide +kernel
theorem dX6_findMatch_55 : decode (mc mX6_findMatch) 55 = .ok (.iload_n 3, 1) := by decide +kernel
theorem dX6_findMatch_56 : decode (mc mX6_findMatch) 56 = .ok (.invokevirtual 143, 3) := by decide +kernel
theorem dX6_findMatch_59 : decode (mc mX6_findMatch) 59 = .ok (.istore 4, 2) := by decide +kernel
theorem dX6_findMatch_61 : decode (mc mX6_findMatch) 61 = .ok (.iload 4, 2) := by decide +kernel
theorem dX6_findMatch_63 : decode (mc mX6_findMatch) 63 = .ok (.iload_n 2, 1) := by decide +kernel
theorem dX6_findMatch_64 : decode (mc mX6_findMatch) 64 = .ok (.if_icmp .gt 34, 3) := by decide +kernel
theorem dX6_findMatch_67 : decode (mc mX6_findMatch) 67 = .ok (.iload 4, 2) := by decide +kernel
theorem dX6_findMatch_69 : decode (mc mX6_findMatch) 69 = .ok (.iload_n 2, 1) := by decide +kernel
theorem dX6_findMatch_70 : decode (mc mX6_findMatch) 70 = .ok (.if_icmp .ne 33, 3) := by decide +kernel
theorem dX6_findMatch_73 : decode (mc mX6_findMatch) 73 = .ok (.iload_n 1, 1) := by decide +kernel
theorem dX6_findMatch_74 : decode (mc mX6_findMatch) 74 = .ok (.ldc 94, 2) := by decide +kernel
theorem dX6_findMatch_76 : decode (mc mX6_findMatch) 76 = .ok (.if_icmp .eq 22, 3) := by decide +kernel
theorem dX6_findMatch_79 : decode (mc mX6_findMatch) 79 = .ok (.aload_n 0, 1) := by decide +kernel
theorem dX6_findMatch_80 : decode (mc mX6_findMatch) 80 = .ok (.getfield 10, 3) := by decide +kernel
theorem dX6_findMatch_83 : decode (mc mX6_findMatch) 83 = .ok (.iload_n 3, 1) := by decide +kernel
theorem dX6_findMatch_84 : decode (mc mX6_findMatch) 84 = .ok (.invokevirtual 215, 3) := by decide +kernel
theorem dX6_findMatch_87 : decode (mc mX6_findMatch) 87 = .ok (.aload_n 0, 1) := by decide +kernel
theorem dX6_findMatch_88 : decode (mc mX6_findMatch) 88 = .ok (.getfield 10, 3) := by decide +kernel
theorem dX6_findMatch_91 : decode (mc mX6_findMatch) 91 = .ok (.iload_n 1, 1) := by decide +kernel
theorem dX6_findMatch_92 : decode (mc mX6_findMatch) 92 = .ok (.invokevirtual 215, 3) := by decide +kernel
theorem dX6_findMatch_95 : decode (mc mX6_findMatch) 95 = .ok (.if_icmp .le 8, 3) := by decide +kernel
theorem dX6_findMatch_98 : decode (mc mX6_findMatch) 98 = .ok (.iload_n 3, 1) := by decide +kernel
theorem dX6_findMatch_99 : decode (mc mX6_findMatch) 99 = .ok (.istore_n 1, 1) := by decide +kernel
theorem dX6_findMatch_100 : decode (mc mX6_findMatch) 100 = .ok (.iload 4, 2) := by decide +kernel
theorem dX6_findMatch_102 : decode (mc mX6_findMatch) 102 = .ok (.istore_n 2, 1) := by decide +kernel
theorem dX6_findMatch_103 : decode (mc mX6_findMatch) 103 = .ok (.iinc 3 1, 3) := by decide +kernel
theorem dX6_findMatch_106 : decode (mc mX6_findMatch) 106 = .ok (.goto (-81), 3) := by decide +kernel
theorem dX6_findMatch_109 : decode (mc mX6_findMatch) 109 = .ok (.iload_n 1, 1) := by decide +kernel
theorem dX6_findMatch_110 : decode (mc mX6_findMatch) 110 = .ok (.ireturn, 1) := by decide +kernel
theorem dX6_findWays_0 : decode (mc mX6_findWays) 0 = .ok (.aload_n 0, 1) := by decide +kernel
theorem dX6_findWays_1 : decode (mc mX6_findWays) 1 = .ok (.getfield 26, 3) := by decide +kernel
theorem dX6_findWays_4 : decode (mc mX6_findWays) 4 = .ok (.aload_n 0, 1) := by decide +kernel
theorem dX6_findWays_5 : decode (mc mX6_findWays) 5 = .ok (.getfield 33, 3) := by decide +kernel
theorem dX6_findWays_8 : decode (mc mX6_findWays) 8 = .ok (.invokevirtual 109, 3) := by decide +kernel
theorem dX6_findWays_11 : decode (mc mX6_findWays) 11 = .ok (.aload_n 0, 1) := by decide +kernel
theorem dX6_findWays_12 : decode (mc mX6_findWays) 12 = .ok (.getfield 40, 3) := by decide +kernel
theorem dX6_findWays_15 : decode (mc mX6_findWays) 15 = .ok (.aload_n 0, 1) := by decide +kernel
theorem dX6_findWays_16 : decode (mc mX6_findWays) 16 = .ok (.getfield 33, 3) := by decide +kernel
theorem dX6_findWays_19 : decode (mc mX6_findWays) 19 = .ok (.getfield 218, 3) := by decide +kernel
theorem dX6_findWays_22 : decode (mc mX6_findWays) 22 = .ok (.invokevirtual 219, 3) := by decide +kernel
theorem dX6_findWays_25 : decode (mc mX6_findWays) 25 = .ok (.aload_n 0, 1) := by decide +kernel
theorem dX6_findWays_26 : decode (mc mX6_findWays) 26 = .ok (.getfield 33, 3) := by decide +kernel
theorem dX6_findWays_29 : decode (mc mX6_findWays) 29 = .ok (.getfield 218, 3) := by decide +kernel
theorem dX6_findWays_32 : decode (mc mX6_findWays) 32 = .ok (.iconst 1, 1) := by decide +kernel
theorem dX6_findWays_33 : decode (mc mX6_findWays) 33 = .ok (.isub, 1) := by decide +kernel
theorem dX6_findWays_34 : decode (mc mX6_findWays) 34 = .ok (.istore_n 2, 1) := by decide +kernel
theorem dX6_findWays_35 : decode (mc mX6_findWays) 35 = .ok (.iload_n 2, 1) := by decide +kernel
theorem dX6_findWays_36 : decode (mc mX6_findWays) 36 = .ok (.ifCond .lt 91, 3) := by decide +kernel
theorem dX6_findWays_39 : decode (mc mX6_findWays) 39 = .ok (.aload_n 0, 1) := by decide +kernel
theorem dX6_findWays_40 : decode (mc mX6_findWays) 40 = .ok (.getfield 40, 3) := by decide +kernel
theorem dX6_findWays_43 : decode (mc mX6_findWays) 43 = .ok (.iload_n 2, 1) := by decide +kernel
theorem dX6_findWays_44 : decode (mc mX6_findWays) 44 = .ok (.invokevirtual 222, 3) := by decide +kernel
theorem dX6_findWays_47 : decode (mc mX6_findWays) 47 = .ok (.iconst 0, 1) := by decide +kernel
theorem dX6_findWays_48 : decode (mc mX6_findWays) 48 = .ok (.istore_n 3, 1) := by decide +kernel
theorem dX6_findWays_49 : decode (mc mX6_findWays) 49 = .ok (.iload_n 3, 1) := by decide +kernel
theorem dX6_findWays_50 : decode (mc mX6_findWays) 50 = .ok (.aload_n 0, 1) := by decide +kernel
theorem dX6_findWays_51 : decode (mc mX6_findWays) 51 = .ok (.getfield 10, 3) := by decide +kernel
theorem dX6_findWays_54 : decode (mc mX6_findWays) 54 = .ok (.invokevirtual 106, 3) := by decide +kernel
theorem dX6_findWays_57 : decode (mc mX6_findWays) 57 = .ok (.if_icmp .ge 64, 3) := by decide +kernel
theorem dX6_findWays_60 : decode (mc mX6_findWays) 60 = .ok (.aload_n 0, 1) := by decide +kernel
theorem dX6_findWays_61 : decode (mc mX6_findWays) 61 = .ok (.getfield 10, 3) := by decide +kernel
theorem dX6_findWays_64 : decode (mc mX6_findWays) 64 = .ok (.iload_n 3, 1) := by decide +kernel
theorem dX6_findWays_65 : decode (mc mX6_findWays) 65 = .ok (.invokevirtual 102, 3) := by decide +kernel
theorem dX6_findWays_68 : decode (mc mX6_findWays) 68 = .ok (.ifCond .eq 47, 3) := by decide +kernel
theorem dX6_findWays_71 : decode (mc mX6_findWays) 71 = .ok (.aload_n 0, 1) := by decide +kernel
theorem dX6_findWays_72 : decode (mc mX6_findWays) 72 = .ok (.getfield 10, 3) := by decide +kernel
theorem dX6_findWays_75 : decode (mc mX6_findWays) 75 = .ok (.iload_n 3, 1) := by decide +kernel
theorem dX6_findWays_76 : decode (mc mX6_findWays) 76 = .ok (.aload_n 0, 1) := by decide +kernel
theorem dX6_findWays_77 : decode (mc mX6_findWays) 77 = .ok (.getfield 33, 3) := by decide +kernel
theorem dX6_findWays_80 : decode (mc mX6_findWays) 80 = .ok (.iload_n 2, 1) := by decide +kernel
theorem dX6_findWays_81 : decode (mc mX6_findWays) 81 = .ok (.invokevirtual 225, 3) := by decide +kernel
theorem dX6_findWays_84 : decode (mc mX6_findWays) 84 = .ok (.ifCond .eq 31, 3) := by decide +kernel
theorem dX6_findWays_87 : decode (mc mX6_findWays) 87 = .ok (.aload_n 0, 1) := by decide +kernel
theorem dX6_findWays_88 : decode (mc mX6_findWays) 88 = .ok (.getfield 40, 3) := by decide +kernel
theorem dX6_findWays_91 : decode (mc mX6_findWays) 91 = .ok (.iload_n 2, 1) := by decide +kernel
theorem dX6_findWays_92 : decode (mc mX6_findWays) 92 = .ok (.iload_n 3, 1) := by decide +kernel
theorem dX6_findWays_93 : decode (mc mX6_findWays) 93 = .ok (.aload_n 0, 1) := by decide +kernel
theorem dX6_findWays_94 : decode (mc mX6_findWays) 94 = .ok (.getfield 10, 3) := by decide +kernel
theorem dX6_findWays_97 : decode (mc mX6_findWays) 97 = .ok (.iload_n 3, 1) := by decide +kernel
theorem dX6_findWays_98 : decode (mc mX6_findWays) 98 = .ok (.invokevirtual 120, 3) := by decide +kernel
theorem dX6_findWays_101 : decode (mc mX6_findWays) 101 = .ok (.aload_n 0, 1) := by decide +kernel
theorem dX6_findWays_102 : decode (mc mX6_findWays) 102 = .ok (.getfield 10, 3) := by decide +kernel
theorem dX6_findWays_105 : decode (mc mX6_findWays) 105 = .ok (.iload_n 1, 1) := by decide +kernel
theorem dX6_findWays_106 : decode (mc mX6_findWays) 106 = .ok (.iload_n 3, 1) := by decide +kernel
theorem dX6_findWays_107 : decode (mc mX6_findWays) 107 = .ok (.bipush 100, 2) := by decide +kernel
theorem dX6_findWays_109 : decode (mc mX6_findWays) 109 = .ok (.invokevirtual 147, 3) := by decide +kernel
theorem dX6_findWays_112 : decode (mc mX6_findWays) 112 = .ok (.invokevirtual 229, 3) := by decide +kernel
theorem dX6_findWays_115 : decode (mc mX6_findWays) 115 = .ok (.iinc 3 1, 3) := by decide +kernel
theorem dX6_findWays_118 : decode (mc mX6_findWays) 118 = .ok (.goto (-69), 3) := by decide +kernel
theorem dX6_findWays_121 : decode (mc mX6_findWays) 121 = .ok (.iinc 2 (-1), 3) := by decide +kernel
theorem dX6_findWays_124 : decode (mc mX6_findWays) 124 = .ok (.goto (-89), 3) := by decide +kernel
theorem dX6_findWays_127 : decode (mc mX6_findWays) 127 = .ok (.return_, 1) := by decide +kernel
theorem dX7_init_0 : decode (mc mX7_init) 0 = .ok (.aload_n 0, 1) := by decide +kernel
theorem dX7_init_1 : decode (mc mX7_init) 1 = .ok (.invokespecial 1, 3) := by decide +kernel
theorem dX7_init_4 : decode (mc mX7_init) 4 = .ok (.aload_n 0, 1) := by decide +kernel
theorem dX7_init_5 : decode (mc mX7_init) 5 = .ok (.sipush 3270, 3) := by decide +kernel
theorem dX7_init_8 : decode (mc mX7_init) 8 = .ok (.newarray .int, 2) := by decide +kernel
theorem dX7_init_10 : decode (mc mX7_init) 10 = .ok (.putfield 7, 3) := by decide +kernel
theorem dX7_init_13 : decode (mc mX7_init) 13 = .ok (.aload_n 0, 1) := by decide +kernel
theorem dX7_init_14 : decode (mc mX7_init) 14 = .ok (.bipush 10, 2) := by decide +kernel
theorem dX7_init_16 : decode (mc mX7_init) 16 = .ok (.newarray .int, 2) := by decide +kernel
theorem dX7_init_18 : decode (mc mX7_init) 18 = .ok (.putfield 13, 3) := by decide +kernel
theorem dX7_init_21 : decode (mc mX7_init) 21 = .ok (.aload_n 0, 1) := by decide +kernel
theorem dX7_init_22 : decode (mc mX7_init) 22 = .ok (.bipush 10, 2) := by decide +kernel
theorem dX7_init_24 : decode (mc mX7_init) 24 = .ok (.newarray .int, 2) := by decide +kernel
theorem dX7_init_26 : decode (mc mX7_init) 26 = .ok (.putfield 16, 3) := by decide +kernel
theorem dX7_init_29 : decode (mc mX7_init) 29 = .ok (.aload_n 0, 1) := by decide +kernel
theorem dX7_init_30 : decode (mc mX7_init) 30 = .ok (.bipush 121, 2) := by decide +kernel
theorem dX7_init_32 : decode (mc mX7_init) 32 = .ok (.newarray .int, 2) := by decide +kernel
theorem dX7_init_34 : decode (mc mX7_init) 34 = .ok (.putfield 19, 3) := by decide +kernel
theorem dX7_init_37 : decode (mc mX7_init) 37 = .ok (.aload_n 0, 1) := by decide +kernel
theorem dX7_init_38 : decode (mc mX7_init) 38 = .ok (.bipush 20, 2) := by decide +kernel
theorem dX7_init_40 : decode (mc mX7_init) 40 = .ok (.newarray .int, 2) := by decide +kernel
theorem dX7_init_42 : decode (mc mX7_init) 42 = .ok (.putfield 22, 3) := by decide +kernel
theorem dX7_init_45 : decode (mc mX7_init) 45 = .ok (.aload_n 0, 1) := by decide +kernel
theorem dX7_init_46 : decode (mc mX7_init) 46 = .ok (.bipush 11, 2) := by decide +kernel
theorem dX7_init_48 : decode (mc mX7_init) 48 = .ok (.newarray .int, 2) := by decide +kernel
theorem dX7_init_50 : decode (mc mX7_init) 50 = .ok (.putfield 25, 3) := by decide +kernel
theorem dX7_init_53 : decode (mc mX7_init) 53 = .ok (.aload_n 0, 1) := by decide +kernel
theorem dX7_init_54 : decode (mc mX7_init) 54 = .ok (.bipush 11, 2) := by decide +kernel
theorem dX7_init_56 : decode (mc mX7_init) 56 = .ok (.newarray .int, 2) := by decide +kernel
theorem dX7_init_58 : decode (mc mX7_init) 58 = .ok (.putfield 28, 3) := by decide +kernel
theorem dX7_init_61 : decode (mc mX7_init) 61 = .ok (.aload_n 0, 1) := by decide +kernel
theorem dX7_init_62 : decode (mc mX7_init) 62 = .ok (.bipush 11, 2) := by decide +kernel
theorem dX7_init_64 : decode (mc mX7_init) 64 = .ok (.newarray .int, 2) := by decide +kernel
theorem dX7_init_66 : decode (mc mX7_init) 66 = .ok (.putfield 31, 3) := by decide +kernel
theorem dX7_init_69 : decode (mc mX7_init) 69 = .ok (.aload_n 0, 1) := by decide +kernel
theorem dX7_init_70 : decode (mc mX7_init) 70 = .ok (.bipush 40, 2) := by decide +kernel
theorem dX7_init_72 : decode (mc mX7_init) 72 = .ok (.newarray .int, 2) := by decide +kernel
theorem dX7_init_74 : decode (mc mX7_init) 74 = .ok (.putfield 34, 3) := by decide +kernel
theorem dX7_init_77 : decode (mc mX7_init) 77 = .ok (.aload_n 0, 1) := by decide +kernel
theorem dX7_init_78 : decode (mc mX7_init) 78 = .ok (.getfield 7, 3) := by decide +kernel
theorem dX7_init_81 : decode (mc mX7_init) 81 = .ok (.iconst 5, 1) := by decide +kernel
theorem dX7_init_82 : decode (mc mX7_init) 82 = .ok (.bipush 70, 2) := by decide +kernel
theorem dX7_init_84 : decode (mc mX7_init) 84 = .ok (.iastore, 1) := by decide +kernel
theorem dX7_init_85 : decode (mc mX7_init) 85 = .ok (.aload_n 0, 1) := by decide +kernel
theorem dX7_init_86 : decode (mc mX7_init) 86 = .ok (.getfield 7, 3) := by decide +kernel
theorem dX7_init_89 : decode (mc mX7_init) 89 = .ok (.bipush 6, 2) := by decide +kernel
theorem dX7_init_91 : decode (mc mX7_init) 91 = .ok (.bipush 10, 2) := by decide +kernel
theorem dX7_init_93 : decode (mc mX7_init) 93 = .ok (.iastore, 1) := by decide +kernel
theorem dX7_init_94 : decode (mc mX7_init) 94 = .ok (.aload_n 0, 1) := by decide +kernel
theorem dX7_init_95 : decode (mc mX7_init) 95 = .ok (.getfield 7, 3) := by decide +kernel
theorem dX7_init_98 : decode (mc mX7_init) 98 = .ok (.bipush 7, 2) := by decide +kernel
theorem dX7_init_100 : decode (mc mX7_init) 100 = .ok (.bipush 30, 2) := by decide +kernel
theorem dX7_init_102 : decode (mc mX7_init) 102 = .ok (.iastore, 1) := by decide +kernel
theorem dX7_init_103 : decode (mc mX7_init) 103 = .ok (.aload_n 0, 1) := by decide +kernel
theorem dX7_init_104 : decode (mc mX7_init) 104 = .ok (.getfield 7, 3) := by decide +kernel
theorem dX7_init_107 : decode (mc mX7_init) 107 = .ok (.bipush 8, 2) := by decide +kernel
theorem dX7_init_109 : decode (mc mX7_init) 109 = .ok (.bipush 10, 2) := by decide +kernel
theorem dX7_init_111 : decode (mc mX7_init) 111 = .ok (.iastore, 1) := by decide +kernel
theorem dX7_init_112 : decode (mc mX7_init) 112 = .ok (.aload_n 0, 1) := by decide +kernel
theorem dX7_init_113 : decode (mc mX7_init) 113 = .ok (.getfield 7, 3) := by decide +kernel
theorem dX7_init_116 : decode (mc mX7_init) 116 = .ok (.bipush 9, 2) := by decide +kernel
theorem dX7_init_118 : decode (mc mX7_init) 118 = .ok (.bipush 80, 2) := by decide +kernel
theorem dX7_init_120 : decode (mc mX7_init) 120 = .ok (.iastore, 1) := by decide +kernel
theorem dX7_init_121 : decode (mc mX7_init) 121 = .ok (.return_, 1) := by decide +kernel
theorem dX7_in_0 : decode (mc mX7_in) 0 = .ok (.iload_n 0, 1) := by decide +kernel
theorem dX7_in_1 : decode (mc mX7_in) 1 = .ok (.iload_n 1, 1) := by decide +kernel
theorem dX7_in_2 : decode (mc mX7_in) 2 = .ok (.if_icmp .lt 12, 3) := by decide +kernel
theorem dX7_in_5 : decode (mc mX7_in) 5 = .ok (.iload_n 0, 1) := by decide +kernel
theorem dX7_in_6 : decode (mc mX7_in) 6 = .ok (.iload_n 2, 1) := by decide +kernel
theorem dX7_in_7 : decode (mc mX7_in) 7 = .ok (.if_icmp .gt 7, 3) := by decide +kernel
theorem dX7_in_10 : decode (mc mX7_in) 10 = .ok (.iconst 1, 1) := by decide +kernel
theorem dX7_in_11 : decode (mc mX7_in) 11 = .ok (.goto 4, 3) := by decide +kernel
theorem dX7_in_14 : decode (mc mX7_in) 14 = .ok (.iconst 0, 1) := by decide +kernel
theorem dX7_in_15 : decode (mc mX7_in) 15 = .ok (.ireturn, 1) := by decide +kernel
theorem dX7_copies_0 : decode (mc mX7_copies) 0 = .ok (.iconst 0, 1) := by decide +kernel
theorem dX7_copies_1 : decode (mc mX7_copies) 1 = .ok (.istore_n 3, 1) := by decide +kernel
theorem dX7_copies_2 : decode (mc mX7_copies) 2 = .ok (.iload_n 3, 1) := by decide +kernel
theorem dX7_copies_3 : decode (mc mX7_copies) 3 = .ok (.sipush 654, 3) := by decide +kernel
theorem dX7_copies_6 : decode (mc mX7_copies) 6 = .ok (.if_icmp .ge 25, 3) := by decide +kernel
theorem dX7_copies_9 : decode (mc mX7_copies) 9 = .ok (.aload_n 0, 1) := by decide +kernel
theorem dX7_copies_10 : decode (mc mX7_copies) 10 = .ok (.getfield 7, 3) := by decide +kernel
theorem dX7_copies_13 : decode (mc mX7_copies) 13 = .ok (.iload_n 2, 1) := by decide +kernel
theorem dX7_copies_14 : decode (mc mX7_copies) 14 = .ok (.iload_n 3, 1) := by decide +kernel
theorem dX7_copies_15 : decode (mc mX7_copies) 15 = .ok (.iadd, 1) := by decide +kernel
theorem dX7_copies_16 : decode (mc mX7_copies) 16 = .ok (.aload_n 0, 1) := by decide +kernel
theorem dX7_copies_17 : decode (mc mX7_copies) 17 = .ok (.getfield 7, 3) := by decide +kernel
theorem dX7_copies_20 : decode (mc mX7_copies) 20 = .ok (.iload_n 1, 1) := by decide +kernel
theorem dX7_copies_21 : decode (mc mX7_copies) 21 = .ok (.iload_n 3, 1) := by decide +kernel
theorem dX7_copies_22 : decode (mc mX7_copies) 22 = .ok (.iadd, 1) := by decide +kernel
theorem dX7_copies_23 : decode (mc mX7_copies) 23 = .ok (.iaload, 1) := by decide +kernel
theorem dX7_copies_24 : decode (mc mX7_copies) 24 = .ok (.iastore, 1) := by decide +kernel
theorem dX7_copies_25 : decode (mc mX7_copies) 25 = .ok (.iinc 3 1, 3) := by decide +kernel
theorem dX7_copies_28 : decode (mc mX7_copies) 28 = .ok (.goto (-26), 3) := by decide +kernel
theorem dX7_copies_31 : decode (mc mX7_copies) 31 = .ok (.return_, 1) := by decide +kernel
theorem dX7_records_0 : decode (mc mX7_records) 0 = .ok (.iconst 1, 1) := by decide +kernel
theorem dX7_records_1 : decode (mc mX7_records) 1 = .ok (.istore_n 1, 1) := by decide +kernel
theorem dX7_records_2 : decode (mc mX7_records) 2 = .ok (.iload_n 1, 1) := by decide +kernel
theorem dX7_records_3 : decode (mc mX7_records) 3 = .ok (.iconst 4, 1) := by decide +kernel
theorem dX7_records_4 : decode (mc mX7_records) 4 = .ok (.if_icmp .ge 33, 3) := by decide +kernel
theorem dX7_records_7 : decode (mc mX7_records) 7 = .ok (.aload_n 0, 1) := by decide +kernel
theorem dX7_records_8 : decode (mc mX7_records) 8 = .ok (.getfield 37, 3) := by decide +kernel
theorem dX7_records_11 : decode (mc mX7_records) 11 = .ok (.iconst 4, 1) := by decide +kernel
theorem dX7_records_12 : decode (mc mX7_records) 12 = .ok (.if_icmp .ne 25, 3) := by decide +kernel
theorem dX7_records_15 : decode (mc mX7_records) 15 = .ok (.aload_n 0, 1) := by decide +kernel
theorem dX7_records_16 : decode (mc mX7_records) 16 = .ok (.sipush 654, 3) := by decide +kernel
theorem dX7_records_19 : decode (mc mX7_records) 19 = .ok (.iload_n 1, 1) := by decide +kernel
theorem dX7_records_20 : decode (mc mX7_records) 20 = .ok (.iconst 1, 1) := by decide +kernel
theorem dX7_records_21 : decode (mc mX7_records) 21 = .ok (.iadd, 1) := by decide +kernel
theorem dX7_records_22 : decode (mc mX7_records) 22 = .ok (.imul, 1) := by decide +kernel
theorem dX7_records_23 : decode (mc mX7_records) 23 = .ok (.sipush 654, 3) := by decide +kernel
theorem dX7_records_26 : decode (mc mX7_records) 26 = .ok (.iload_n 1, 1) := by decide +kernel
theorem dX7_records_27 : decode (mc mX7_records) 27 = .ok (.imul, 1) := by decide +kernel
theorem dX7_records_28 : decode (mc mX7_records) 28 = .ok (.invokevirtual 41, 3) := by decide +kernel
theorem dX7_records_31 : decode (mc mX7_records) 31 = .ok (.iinc 1 1, 3) := by decide +kernel
theorem dX7_records_34 : decode (mc mX7_records) 34 = .ok (.goto (-32), 3) := by decide +kernel
theorem dX7_records_37 : decode (mc mX7_records) 37 = .ok (.aload_n 0, 1) := by decide +kernel
theorem dX7_records_38 : decode (mc mX7_records) 38 = .ok (.dup, 1) := by decide +kernel
theorem dX7_records_39 : decode (mc mX7_records) 39 = .ok (.getfield 37, 3) := by decide +kernel
theorem dX7_records_42 : decode (mc mX7_records) 42 = .ok (.aload_n 0, 1) := by decide +kernel
theorem dX7_records_43 : decode (mc mX7_records) 43 = .ok (.getfield 37, 3) := by decide +kernel
theorem dX7_records_46 : decode (mc mX7_records) 46 = .ok (.iconst 4, 1) := by decide +kernel
theorem dX7_records_47 : decode (mc mX7_records) 47 = .ok (.if_icmp .ne 7, 3) := by decide +kernel
theorem dX7_records_50 : decode (mc mX7_records) 50 = .ok (.iconst 1, 1) := by decide +kernel
theorem dX7_records_51 : decode (mc mX7_records) 51 = .ok (.goto 4, 3) := by decide +kernel
theorem dX7_records_54 : decode (mc mX7_records) 54 = .ok (.iconst 0, 1) := by decide +kernel
theorem dX7_records_55 : decode (mc mX7_records) 55 = .ok (.isub, 1) := by decide +kernel
theorem dX7_records_56 : decode (mc mX7_records) 56 = .ok (.putfield 37, 3) := by decide +kernel
theorem dX7_records_59 : decode (mc mX7_records) 59 = .ok (.aload_n 0, 1) := by decide +kernel
theorem dX7_records_60 : decode (mc mX7_records) 60 = .ok (.dup, 1) := by decide +kernel
theorem dX7_records_61 : decode (mc mX7_records) 61 = .ok (.getfield 37, 3) := by decide +kernel
theorem dX7_records_64 : decode (mc mX7_records) 64 = .ok (.iconst 1, 1) := by decide +kernel
theorem dX7_records_65 : decode (mc mX7_records) 65 = .ok (.iadd, 1) := by decide +kernel
theorem dX7_records_66 : decode (mc mX7_records) 66 = .ok (.putfield 37, 3) := by decide +kernel
theorem dX7_records_69 : decode (mc mX7_records) 69 = .ok (.aload_n 0, 1) := by decide +kernel
theorem dX7_records_70 : decode (mc mX7_records) 70 = .ok (.iconst 0, 1) := by decide +kernel
theorem dX7_records_71 : decode (mc mX7_records) 71 = .ok (.sipush 654, 3) := by decide +kernel
theorem dX7_records_74 : decode (mc mX7_records) 74 = .ok (.aload_n 0, 1) := by decide +kernel
theorem dX7_records_75 : decode (mc mX7_records) 75 = .ok (.getfield 37, 3) := by decide +kernel
theorem dX7_records_78 : decode (mc mX7_records) 78 = .ok (.imul, 1) := by decide +kernel
theorem dX7_records_79 : decode (mc mX7_records) 79 = .ok (.invokevirtual 41, 3) := by decide +kernel
theorem dX7_records_82 : decode (mc mX7_records) 82 = .ok (.return_, 1) := by decide +kernel
theorem dX7_isMember_0 : decode (mc mX7_isMember) 0 = .ok (.iload_n 1, 1) := by decide +kernel
theorem dX7_isMember_1 : decode (mc mX7_isMember) 1 = .ok (.iconst 0, 1) := by decide +kernel
theorem dX7_isMember_2 : decode (mc mX7_isMember) 2 = .ok (.aload_n 0, 1) := by decide +kernel
theorem dX7_isMember_3 : decode (mc mX7_isMember) 3 = .ok (.getfield 7, 3) := by decide +kernel
theorem dX7_isMember_6 : decode (mc mX7_isMember) 6 = .ok (.iconst 0, 1) := by decide +kernel
theorem dX7_isMember_7 : decode (mc mX7_isMember) 7 = .ok (.iaload, 1) := by decide +kernel
theorem dX7_isMember_8 : decode (mc mX7_isMember) 8 = .ok (.iconst 1, 1) := by decide +kernel
theorem dX7_isMember_9 : decode (mc mX7_isMember) 9 = .ok (.isub, 1) := by decide +kernel
theorem dX7_isMember_10 : decode (mc mX7_isMember) 10 = .ok (.invokestatic 45, 3) := by decide +kernel
theorem dX7_isMember_13 : decode (mc mX7_isMember) 13 = .ok (.ireturn, 1) := by decide +kernel
theorem dX7_isPhrase_0 : decode (mc mX7_isPhrase) 0 = .ok (.iload_n 1, 1) := by decide +kernel
theorem dX7_isPhrase_1 : decode (mc mX7_isPhrase) 1 = .ok (.iconst 0, 1) := by decide +kernel
theorem dX7_isPhrase_2 : decode (mc mX7_isPhrase) 2 = .ok (.aload_n 0, 1) := by decide +kernel
theorem dX7_isPhrase_3 : decode (mc mX7_isPhrase) 3 = .ok (.getfield 7, 3) := by decide +kernel
theorem dX7_isPhrase_6 : decode (mc mX7_isPhrase) 6 = .ok (.iconst 1, 1) := by decide +kernel
theorem dX7_isPhrase_7 : decode (mc mX7_isPhrase) 7 = .ok (.iaload, 1) := by decide +kernel
theorem dX7_isPhrase_8 : decode (mc mX7_isPhrase) 8 = .ok (.iconst 1, 1) := by decide +kernel
theorem dX7_isPhrase_9 : decode (mc mX7_isPhrase) 9 = .ok (.isub, 1) := by decide +kernel
theorem dX7_isPhrase_10 : decode (mc mX7_isPhrase) 10 = .ok (.invokestatic 45, 3) := by decide +kernel
theorem dX7_isPhrase_13 : decode (mc mX7_isPhrase) 13 = .ok (.ireturn, 1) := by decide +kernel
theorem dX7_of_0 : decode (mc mX7_of) 0 = .ok (.aload_n 0, 1) := by decide +kernel
theorem dX7_of_1 : decode (mc mX7_of) 1 = .ok (.getfield 7, 3) := by decide +kernel
theorem dX7_of_4 : decode (mc mX7_of) 4 = .ok (.bipush 22, 2) := by decide +kernel
theorem dX7_of_6 : decode (mc mX7_of) 6 = .ok (.bipush 16, 2) := by decide +kernel
theorem dX7_of_8 : decode (mc mX7_of) 8 = .ok (.iload_n 1, 1) := by decide +kernel
theorem dX7_of_9 : decode (mc mX7_of) 9 = .ok (.imul, 1) := by decide +kernel
theorem dX7_of_10 : decode (mc mX7_of) 10 = .ok (.iadd, 1) := by decide +kernel
theorem dX7_of_11 : decode (mc mX7_of) 11 = .ok (.iload_n 2, 1) := by decide +kernel
theorem dX7_of_12 : decode (mc mX7_of) 12 = .ok (.iadd, 1) := by decide +kernel
theorem dX7_of_13 : decode (mc mX7_of) 13 = .ok (.iaload, 1) := by decide +kernel
theorem dX7_of_14 : decode (mc mX7_of) 14 = .ok (.ireturn, 1) := by decide +kernel
theorem dX7_ofNote_0 : decode (mc mX7_ofNote) 0 = .ok (.aload_n 0, 1) := by decide +kernel
theorem dX7_ofNote_1 : decode (mc mX7_ofNote) 1 = .ok (.getfield 7, 3) := by decide +kernel
theorem dX7_ofNote_4 : decode (mc mX7_ofNote) 4 = .ok (.sipush 342, 3) := by decide +kernel
theorem dX7_ofNote_7 : decode (mc mX7_ofNote) 7 = .ok (.bipush 13, 2) := by decide +kernel
theorem dX7_ofNote_9 : decode (mc mX7_ofNote) 9 = .ok (.iload_n 1, 1) := by decide +kernel
theorem dX7_ofNote_10 : decode (mc mX7_ofNote) 10 = .ok (.imul, 1) := by decide +kernel
theorem dX7_ofNote_11 : decode (mc mX7_ofNote) 11 = .ok (.iadd, 1) := by decide +kernel
theorem dX7_ofNote_12 : decode (mc mX7_ofNote) 12 = .ok (.iload_n 2, 1) := by decide +kernel
theorem dX7_ofNote_13 : decode (mc mX7_ofNote) 13 = .ok (.iadd, 1) := by decide +kernel
theorem dX7_ofNote_14 : decode (mc mX7_ofNote) 14 = .ok (.iaload, 1) := by decide +kernel
theorem dX7_ofNote_15 : decode (mc mX7_ofNote) 15 = .ok (.ireturn, 1) := by decide +kernel
theorem dX7_price_0 : decode (mc mX7_price) 0 = .ok (.aload_n 0, 1) := by decide +kernel
theorem dX7_price_1 : decode (mc mX7_price) 1 = .ok (.getfield 7, 3) := by decide +kernel
theorem dX7_price_4 : decode (mc mX7_price) 4 = .ok (.bipush 10, 2) := by decide +kernel
theorem dX7_price_6 : decode (mc mX7_price) 6 = .ok (.iconst 2, 1) := by decide +kernel
theorem dX7_price_7 : decode (mc mX7_price) 7 = .ok (.iload_n 1, 1) := by decide +kernel
theorem dX7_price_8 : decode (mc mX7_price) 8 = .ok (.imul, 1) := by decide +kernel
theorem dX7_price_9 : decode (mc mX7_price) 9 = .ok (.iadd, 1) := by decide +kernel
theorem dX7_price_10 : decode (mc mX7_price) 10 = .ok (.iaload, 1) := by decide +kernel
theorem dX7_price_11 : decode (mc mX7_price) 11 = .ok (.ireturn, 1) := by decide +kernel
theorem dX7_pays_0 : decode (mc mX7_pays) 0 = .ok (.aload_n 0, 1) := by decide +kernel
theorem dX7_pays_1 : decode (mc mX7_pays) 1 = .ok (.getfield 7, 3) := by decide +kernel
theorem dX7_pays_4 : decode (mc mX7_pays) 4 = .ok (.bipush 10, 2) := by decide +kernel
theorem dX7_pays_6 : decode (mc mX7_pays) 6 = .ok (.iconst 2, 1) := by decide +kernel
theorem dX7_pays_7 : decode (mc mX7_pays) 7 = .ok (.iload_n 1, 1) := by decide +kernel
theorem dX7_pays_8 : decode (mc mX7_pays) 8 = .ok (.imul, 1) := by decide +kernel
theorem dX7_pays_9 : decode (mc mX7_pays) 9 = .ok (.iadd, 1) := by decide +kernel
theorem dX7_pays_10 : decode (mc mX7_pays) 10 = .ok (.iconst 1, 1) := by decide +kernel
theorem dX7_pays_11 : decode (mc mX7_pays) 11 = .ok (.iadd, 1) := by decide +kernel
theorem dX7_pays_12 : decode (mc mX7_pays) 12 = .ok (.dup2, 1) := by decide +kernel
theorem dX7_pays_13 : decode (mc mX7_pays) 13 = .ok (.iaload, 1) := by decide +kernel
theorem dX7_pays_14 : decode (mc mX7_pays) 14 = .ok (.iload_n 2, 1) := by decide +kernel
theorem dX7_pays_15 : decode (mc mX7_pays) 15 = .ok (.iadd, 1) := by decide +kernel
theorem dX7_pays_16 : decode (mc mX7_pays) 16 = .ok (.iastore, 1) := by decide +kernel
theorem dX7_pays_17 : decode (mc mX7_pays) 17 = .ok (.return_, 1) := by decide +kernel
theorem dX7_setsOne_0 : decode (mc mX7_setsOne) 0 = .ok (.aload_n 0, 1) := by decide +kernel
theorem dX7_setsOne_1 : decode (mc mX7_setsOne) 1 = .ok (.aload_n 0, 1) := by decide +kernel
theorem dX7_setsOne_2 : decode (mc mX7_setsOne) 2 = .ok (.iload_n 1, 1) := by decide +kernel
theorem dX7_setsOne_3 : decode (mc mX7_setsOne) 3 = .ok (.iconst 1, 1) := by decide +kernel
theorem dX7_setsOne_4 : decode (mc mX7_setsOne) 4 = .ok (.invokevirtual 49, 3) := by decide +kernel
theorem dX7_setsOne_7 : decode (mc mX7_setsOne) 7 = .ok (.putfield 53, 3) := by decide +kernel
theorem dX7_setsOne_10 : decode (mc mX7_setsOne) 10 = .ok (.iconst 0, 1) := by decide +kernel
theorem dX7_setsOne_11 : decode (mc mX7_setsOne) 11 = .ok (.istore_n 2, 1) := by decide +kernel
theorem dX7_setsOne_12 : decode (mc mX7_setsOne) 12 = .ok (.iload_n 2, 1) := by decide +kernel
theorem dX7_setsOne_13 : decode (mc mX7_setsOne) 13 = .ok (.aload_n 0, 1) := by decide +kernel
theorem dX7_setsOne_14 : decode (mc mX7_setsOne) 14 = .ok (.getfield 53, 3) := by decide +kernel
theorem dX7_setsOne_17 : decode (mc mX7_setsOne) 17 = .ok (.if_icmp .ge 24, 3) := by decide +kernel
theorem dX7_setsOne_20 : decode (mc mX7_setsOne) 20 = .ok (.aload_n 0, 1) := by decide +kernel
theorem dX7_setsOne_21 : decode (mc mX7_setsOne) 21 = .ok (.getfield 13, 3) := by decide +kernel
theorem dX7_setsOne_24 : decode (mc mX7_setsOne) 24 = .ok (.iload_n 2, 1) := by decide +kernel
theorem dX7_setsOne_25 : decode (mc mX7_setsOne) 25 = .ok (.aload_n 0, 1) := by decide +kernel
theorem dX7_setsOne_26 : decode (mc mX7_setsOne) 26 = .ok (.iload_n 1, 1) := by decide +kernel
theorem dX7_setsOne_27 : decode (mc mX7_setsOne) 27 = .ok (.bipush 6, 2) := by decide +kernel
theorem dX7_setsOne_29 : decode (mc mX7_setsOne) 29 = .ok (.iload_n 2, 1) := by decide +kernel
theorem dX7_setsOne_30 : decode (mc mX7_setsOne) 30 = .ok (.iadd, 1) := by decide +kernel
theorem dX7_setsOne_31 : decode (mc mX7_setsOne) 31 = .ok (.invokevirtual 49, 3) := by decide +kernel
theorem dX7_setsOne_34 : decode (mc mX7_setsOne) 34 = .ok (.iastore, 1) := by decide +kernel
theorem dX7_setsOne_35 : decode (mc mX7_setsOne) 35 = .ok (.iinc 2 1, 3) := by decide +kernel
theorem dX7_setsOne_38 : decode (mc mX7_setsOne) 38 = .ok (.goto (-26), 3) := by decide +kernel
theorem dX7_setsOne_41 : decode (mc mX7_setsOne) 41 = .ok (.return_, 1) := by decide +kernel
theorem dX7_setsOther_0 : decode (mc mX7_setsOther) 0 = .ok (.aload_n 0, 1) := by decide +kernel
theorem dX7_setsOther_1 : decode (mc mX7_setsOther) 1 = .ok (.aload_n 0, 1) := by decide +kernel
theorem dX7_setsOther_2 : decode (mc mX7_setsOther) 2 = .ok (.iload_n 1, 1) := by decide +kernel
theorem dX7_setsOther_3 : decode (mc mX7_setsOther) 3 = .ok (.iconst 1, 1) := by decide +kernel
theorem dX7_setsOther_4 : decode (mc mX7_setsOther) 4 = .ok (.invokevirtual 49, 3) := by decide +kernel
theorem dX7_setsOther_7 : decode (mc mX7_setsOther) 7 = .ok (.putfield 56, 3) := by decide +kernel
theorem dX7_setsOther_10 : decode (mc mX7_setsOther) 10 = .ok (.iconst 0, 1) := by decide +kernel
theorem dX7_setsOther_11 : decode (mc mX7_setsOther) 11 = .ok (.istore_n 2, 1) := by decide +kernel
theorem dX7_setsOther_12 : decode (mc mX7_setsOther) 12 = .ok (.iload_n 2, 1) := by decide +kernel
theorem dX7_setsOther_13 : decode (mc mX7_setsOther) 13 = .ok (.aload_n 0, 1) := by decide +kernel
theorem dX7_setsOther_14 : decode (mc mX7_setsOther) 14 = .ok (.getfield 56, 3) := by decide +kernel
theorem dX7_setsOther_17 : decode (mc mX7_setsOther) 17 = .ok (.if_icmp .ge 24, 3) := by decide +kernel
theorem dX7_setsOther_20 : decode (mc mX7_setsOther) 20 = .ok (.aload_n 0, 1) := by decide +kernel
theorem dX7_setsOther_21 : decode (mc mX7_setsOther) 21 = .ok (.getfield 16, 3) := by decide +kernel
theorem dX7_setsOther_24 : decode (mc mX7_setsOther) 24 = .ok (.iload_n 2, 1) := by decide +kernel
theorem dX7_setsOther_25 : decode (mc mX7_setsOther) 25 = .ok (.aload_n 0, 1) := by decide +kernel
theorem dX7_setsOther_26 : decode (mc mX7_setsOther) 26 = .ok (.iload_n 1, 1) := by decide +kernel
theorem dX7_setsOther_27 : decode (mc mX7_setsOther) 27 = .ok (.bipush 6, 2) := by decide +kernel
theorem dX7_setsOther_29 : decode (mc mX7_setsOther) 29 = .ok (.iload_n 2, 1) := by decide +kernel
theorem dX7_setsOther_30 : decode (mc mX7_setsOther) 30 = .ok (.iadd, 1) := by decide +kernel
theorem dX7_setsOther_31 : decode (mc mX7_setsOther) 31 = .ok (.invokevirtual 49, 3) := by decide +kernel
theorem dX7_setsOther_34 : decode (mc mX7_setsOther) 34 = .ok (.iastore, 1) := by decide +kernel
theorem dX7_setsOther_35 : decode (mc mX7_setsOther) 35 = .ok (.iinc 2 1, 3) := by decide +kernel
theorem dX7_setsOther_38 : decode (mc mX7_setsOther) 38 = .ok (.goto (-26), 3) := by decide +kernel
theorem dX7_setsOther_41 : decode (mc mX7_setsOther) 41 = .ok (.return_, 1) := by decide +kernel
theorem dX7_setsText_0 : decode (mc mX7_setsText) 0 = .ok (.aload_n 0, 1) := by decide +kernel
theorem dX7_setsText_1 : decode (mc mX7_setsText) 1 = .ok (.iconst 0, 1) := by decide +kernel
theorem dX7_setsText_2 : decode (mc mX7_setsText) 2 = .ok (.putfield 53, 3) := by decide +kernel
theorem dX7_setsText_5 : decode (mc mX7_setsText) 5 = .ok (.iconst 0, 1) := by decide +kernel
theorem dX7_setsText_6 : decode (mc mX7_setsText) 6 = .ok (.istore_n 1, 1) := by decide +kernel
theorem dX7_setsText_7 : decode (mc mX7_setsText) 7 = .ok (.iload_n 1, 1) := by decide +kernel
theorem dX7_setsText_8 : decode (mc mX7_setsText) 8 = .ok (.aload_n 0, 1) := by decide +kernel
theorem dX7_setsText_9 : decode (mc mX7_setsText) 9 = .ok (.getfield 59, 3) := by decide +kernel
theorem dX7_setsText_12 : decode (mc mX7_setsText) 12 = .ok (.if_icmp .ge 48, 3) := by decide +kernel
theorem dX7_setsText_15 : decode (mc mX7_setsText) 15 = .ok (.aload_n 0, 1) := by decide +kernel
theorem dX7_setsText_16 : decode (mc mX7_setsText) 16 = .ok (.getfield 34, 3) := by decide +kernel
theorem dX7_setsText_19 : decode (mc mX7_setsText) 19 = .ok (.iload_n 1, 1) := by decide +kernel
theorem dX7_setsText_20 : decode (mc mX7_setsText) 20 = .ok (.iaload, 1) := by decide +kernel
theorem dX7_setsText_21 : decode (mc mX7_setsText) 21 = .ok (.bipush 32, 2) := by decide +kernel
theorem dX7_setsText_23 : decode (mc mX7_setsText) 23 = .ok (.if_icmp .eq 31, 3) := by decide +kernel
theorem dX7_setsText_26 : decode (mc mX7_setsText) 26 = .ok (.aload_n 0, 1) := by decide +kernel
theorem dX7_setsText_27 : decode (mc mX7_setsText) 27 = .ok (.getfield 13, 3) := by decide +kernel
theorem dX7_setsText_30 : decode (mc mX7_setsText) 30 = .ok (.aload_n 0, 1) := by decide +kernel
theorem dX7_setsText_31 : decode (mc mX7_setsText) 31 = .ok (.getfield 53, 3) := by decide +kernel
theorem dX7_setsText_34 : decode (mc mX7_setsText) 34 = .ok (.aload_n 0, 1) := by decide +kernel
theorem dX7_setsText_35 : decode (mc mX7_setsText) 35 = .ok (.getfield 34, 3) := by decide +kernel
theorem dX7_setsText_38 : decode (mc mX7_setsText) 38 = .ok (.iload_n 1, 1) := by decide +kernel
theorem dX7_setsText_39 : decode (mc mX7_setsText) 39 = .ok (.iaload, 1) := by decide +kernel
theorem dX7_setsText_40 : decode (mc mX7_setsText) 40 = .ok (.bipush 97, 2) := by decide +kernel
theorem dX7_setsText_42 : decode (mc mX7_setsText) 42 = .ok (.isub, 1) := by decide +kernel
theorem dX7_setsText_43 : decode (mc mX7_setsText) 43 = .ok (.iastore, 1) := by decide +kernel
theorem dX7_setsText_44 : decode (mc mX7_setsText) 44 = .ok (.aload_n 0, 1) := by decide +kernel
theorem dX7_setsText_45 : decode (mc mX7_setsText) 45 = .ok (.dup, 1) := by decide +kernel
theorem dX7_setsText_46 : decode (mc mX7_setsText) 46 = .ok (.getfield 53, 3) := by decide +kernel
theorem dX7_setsText_49 : decode (mc mX7_setsText) 49 = .ok (.iconst 1, 1) := by decide +kernel
theorem dX7_setsText_50 : decode (mc mX7_setsText) 50 = .ok (.iadd, 1) := by decide +kernel
theorem dX7_setsText_51 : decode (mc mX7_setsText) 51 = .ok (.putfield 53, 3) := by decide +kernel
theorem dX7_setsText_54 : decode (mc mX7_setsText) 54 = .ok (.iinc 1 1, 3) := by decide +kernel
theorem dX7_setsText_57 : decode (mc mX7_setsText) 57 = .ok (.goto (-50), 3) := by decide +kernel
theorem dX7_setsText_60 : decode (mc mX7_setsText) 60 = .ok (.return_, 1) := by decide +kernel
theorem dX7_least_0 : decode (mc mX7_least) 0 = .ok (.iload_n 0, 1) := by decide +kernel
theorem dX7_least_1 : decode (mc mX7_least) 1 = .ok (.iload_n 1, 1) := by decide +kernel
theorem dX7_least_2 : decode (mc mX7_least) 2 = .ok (.if_icmp .ge 7, 3) := by decide +kernel
theorem dX7_least_5 : decode (mc mX7_least) 5 = .ok (.iload_n 0, 1) := by decide +kernel
theorem dX7_least_6 : decode (mc mX7_least) 6 = .ok (.goto 4, 3) := by decide +kernel
theorem dX7_least_9 : decode (mc mX7_least) 9 = .ok (.iload_n 1, 1) := by decide +kernel
theorem dX7_least_10 : decode (mc mX7_least) 10 = .ok (.ireturn, 1) := by decide +kernel
theorem dX7_scoreNow_0 : decode (mc mX7_scoreNow) 0 = .ok (.iconst 0, 1) := by decide +kernel
theorem dX7_scoreNow_1 : decode (mc mX7_scoreNow) 1 = .ok (.istore_n 1, 1) := by decide +kernel
theorem dX7_scoreNow_2 : decode (mc mX7_scoreNow) 2 = .ok (.iload_n 1, 1) := by decide +kernel
theorem dX7_scoreNow_3 : decode (mc mX7_scoreNow) 3 = .ok (.aload_n 0, 1) := by decide +kernel
theorem dX7_scoreNow_4 : decode (mc mX7_scoreNow) 4 = .ok (.getfield 53, 3) := by decide +kernel
theorem dX7_scoreNow_7 : decode (mc mX7_scoreNow) 7 = .ok (.if_icmp .gt 143, 3) := by decide +kernel
theorem dX7_scoreNow_10 : decode (mc mX7_scoreNow) 10 = .ok (.iconst 0, 1) := by decide +kernel
theorem dX7_scoreNow_11 : decode (mc mX7_scoreNow) 11 = .ok (.istore_n 2, 1) := by decide +kernel
theorem dX7_scoreNow_12 : decode (mc mX7_scoreNow) 12 = .ok (.iload_n 2, 1) := by decide +kernel
theorem dX7_scoreNow_13 : decode (mc mX7_scoreNow) 13 = .ok (.aload_n 0, 1) := by decide +kernel
theorem dX7_scoreNow_14 : decode (mc mX7_scoreNow) 14 = .ok (.getfield 56, 3) := by decide +kernel
theorem dX7_scoreNow_17 : decode (mc mX7_scoreNow) 17 = .ok (.if_icmp .gt 127, 3) := by decide +kernel
theorem dX7_scoreNow_20 : decode (mc mX7_scoreNow) 20 = .ok (.iload_n 1, 1) := by decide +kernel
theorem dX7_scoreNow_21 : decode (mc mX7_scoreNow) 21 = .ok (.ifCond .ne 7, 3) := by decide +kernel
theorem dX7_scoreNow_24 : decode (mc mX7_scoreNow) 24 = .ok (.iload_n 2, 1) := by decide +kernel
theorem dX7_scoreNow_25 : decode (mc mX7_scoreNow) 25 = .ok (.goto 13, 3) := by decide +kernel
theorem dX7_scoreNow_28 : decode (mc mX7_scoreNow) 28 = .ok (.iload_n 2, 1) := by decide +kernel
theorem dX7_scoreNow_29 : decode (mc mX7_scoreNow) 29 = .ok (.ifCond .ne 7, 3) := by decide +kernel
theorem dX7_scoreNow_32 : decode (mc mX7_scoreNow) 32 = .ok (.iload_n 1, 1) := by decide +kernel
theorem dX7_scoreNow_33 : decode (mc mX7_scoreNow) 33 = .ok (.goto 5, 3) := by decide +kernel
theorem dX7_scoreNow_36 : decode (mc mX7_scoreNow) 36 = .ok (.bipush 99, 2) := by decide +kernel
theorem dX7_scoreNow_38 : decode (mc mX7_scoreNow) 38 = .ok (.istore_n 3, 1) := by decide +kernel
theorem dX7_scoreNow_39 : decode (mc mX7_scoreNow) 39 = .ok (.iload_n 1, 1) := by decide +kernel
theorem dX7_scoreNow_40 : decode (mc mX7_scoreNow) 40 = .ok (.ifCond .le 86, 3) := by decide +kernel
theorem dX7_scoreNow_43 : decode (mc mX7_scoreNow) 43 = .ok (.iload_n 2, 1) := by decide +kernel
theorem dX7_scoreNow_44 : decode (mc mX7_scoreNow) 44 = .ok (.ifCond .le 82, 3) := by decide +kernel
theorem dX7_scoreNow_47 : decode (mc mX7_scoreNow) 47 = .ok (.aload_n 0, 1) := by decide +kernel
theorem dX7_scoreNow_48 : decode (mc mX7_scoreNow) 48 = .ok (.getfield 19, 3) := by decide +kernel
theorem dX7_scoreNow_51 : decode (mc mX7_scoreNow) 51 = .ok (.bipush 11, 2) := by decide +kernel
theorem dX7_scoreNow_53 : decode (mc mX7_scoreNow) 53 = .ok (.iload_n 1, 1) := by decide +kernel
theorem dX7_scoreNow_54 : decode (mc mX7_scoreNow) 54 = .ok (.iconst 1, 1) := by decide +kernel
theorem dX7_scoreNow_55 : decode (mc mX7_scoreNow) 55 = .ok (.isub, 1) := by decide +kernel
theorem dX7_scoreNow_56 : decode (mc mX7_scoreNow) 56 = .ok (.imul, 1) := by decide +kernel
theorem dX7_scoreNow_57 : decode (mc mX7_scoreNow) 57 = .ok (.iload_n 2, 1) := by decide +kernel
theorem dX7_scoreNow_58 : decode (mc mX7_scoreNow) 58 = .ok (.iadd, 1) := by decide +kernel
theorem dX7_scoreNow_59 : decode (mc mX7_scoreNow) 59 = .ok (.iconst 1, 1) := by decide +kernel
theorem dX7_scoreNow_60 : decode (mc mX7_scoreNow) 60 = .ok (.isub, 1) := by decide +kernel
theorem dX7_scoreNow_61 : decode (mc mX7_scoreNow) 61 = .ok (.iaload, 1) := by decide +kernel
theorem dX7_scoreNow_62 : decode (mc mX7_scoreNow) 62 = .ok (.aload_n 0, 1) := by decide +kernel
theorem dX7_scoreNow_63 : decode (mc mX7_scoreNow) 63 = .ok (.getfield 13, 3) := by decide +kernel
theorem dX7_scoreNow_66 : decode (mc mX7_scoreNow) 66 = .ok (.iload_n 1, 1) := by decide +kernel
theorem dX7_scoreNow_67 : decode (mc mX7_scoreNow) 67 = .ok (.iconst 1, 1) := by decide +kernel
theorem dX7_scoreNow_68 : decode (mc mX7_scoreNow) 68 = .ok (.isub, 1) := by decide +kernel
theorem dX7_scoreNow_69 : decode (mc mX7_scoreNow) 69 = .ok (.iaload, 1) := by decide +kernel
theorem dX7_scoreNow_70 : decode (mc mX7_scoreNow) 70 = .ok (.aload_n 0, 1) := by decide +kernel
theorem dX7_scoreNow_71 : decode (mc mX7_scoreNow) 71 = .ok (.getfield 16, 3) := by decide +kernel
theorem dX7_scoreNow_74 : decode (mc mX7_scoreNow) 74 = .ok (.iload_n 2, 1) := by decide +kernel
theorem dX7_scoreNow_75 : decode (mc mX7_scoreNow) 75 = .ok (.iconst 1, 1) := by decide +kernel
theorem dX7_scoreNow_76 : decode (mc mX7_scoreNow) 76 = .ok (.isub, 1) := by decide +kernel
theorem dX7_scoreNow_77 : decode (mc mX7_scoreNow) 77 = .ok (.iaload, 1) := by decide +kernel
theorem dX7_scoreNow_78 : decode (mc mX7_scoreNow) 78 = .ok (.if_icmp .ne 7, 3) := by decide +kernel
theorem dX7_scoreNow_81 : decode (mc mX7_scoreNow) 81 = .ok (.iconst 0, 1) := by decide +kernel
theorem dX7_scoreNow_82 : decode (mc mX7_scoreNow) 82 = .ok (.goto 4, 3) := by decide +kernel
theorem dX7_scoreNow_85 : decode (mc mX7_scoreNow) 85 = .ok (.iconst 1, 1) := by decide +kernel
theorem dX7_scoreNow_86 : decode (mc mX7_scoreNow) 86 = .ok (.iadd, 1) := by decide +kernel
theorem dX7_scoreNow_87 : decode (mc mX7_scoreNow) 87 = .ok (.istore 4, 2) := by decide +kernel
theorem dX7_scoreNow_89 : decode (mc mX7_scoreNow) 89 = .ok (.iload 4, 2) := by decide +kernel
theorem dX7_scoreNow_91 : decode (mc mX7_scoreNow) 91 = .ok (.iconst 1, 1) := by decide +kernel
theorem dX7_scoreNow_92 : decode (mc mX7_scoreNow) 92 = .ok (.aload_n 0, 1) := by decide +kernel
theorem dX7_scoreNow_93 : decode (mc mX7_scoreNow) 93 = .ok (.getfield 19, 3) := by decide +kernel
theorem dX7_scoreNow_96 : decode (mc mX7_scoreNow) 96 = .ok (.bipush 11, 2) := by decide +kernel
theorem dX7_scoreNow_98 : decode (mc mX7_scoreNow) 98 = .ok (.iload_n 1, 1) := by decide +kernel
theorem dX7_scoreNow_99 : decode (mc mX7_scoreNow) 99 = .ok (.iconst 1, 1) := by decide +kernel
theorem dX7_scoreNow_100 : decode (mc mX7_scoreNow) 100 = .ok (.isub, 1) := by decide +kernel
theorem dX7_scoreNow_101 : decode (mc mX7_scoreNow) 101 = .ok (.imul, 1) := by decide +kernel
theorem dX7_scoreNow_102 : decode (mc mX7_scoreNow) 102 = .ok (.iload_n 2, 1) := by decide +kernel
theorem dX7_scoreNow_103 : decode (mc mX7_scoreNow) 103 = .ok (.iadd, 1) := by decide +kernel
theorem dX7_scoreNow_104 : decode (mc mX7_scoreNow) 104 = .ok (.iaload, 1) := by decide +kernel
theorem dX7_scoreNow_105 : decode (mc mX7_scoreNow) 105 = .ok (.aload_n 0, 1) := by decide +kernel
theorem dX7_scoreNow_106 : decode (mc mX7_scoreNow) 106 = .ok (.getfield 19, 3) := by decide +kernel
theorem dX7_scoreNow_109 : decode (mc mX7_scoreNow) 109 = .ok (.bipush 11, 2) := by decide +kernel
theorem dX7_scoreNow_111 : decode (mc mX7_scoreNow) 111 = .ok (.iload_n 1, 1) := by decide +kernel
theorem dX7_scoreNow_112 : decode (mc mX7_scoreNow) 112 = .ok (.imul, 1) := by decide +kernel
theorem dX7_scoreNow_113 : decode (mc mX7_scoreNow) 113 = .ok (.iload_n 2, 1) := by decide +kernel
theorem dX7_scoreNow_114 : decode (mc mX7_scoreNow) 114 = .ok (.iadd, 1) := by decide +kernel
theorem dX7_scoreNow_115 : decode (mc mX7_scoreNow) 115 = .ok (.iconst 1, 1) := by decide +kernel
theorem dX7_scoreNow_116 : decode (mc mX7_scoreNow) 116 = .ok (.isub, 1) := by decide +kernel
theorem dX7_scoreNow_117 : decode (mc mX7_scoreNow) 117 = .ok (.iaload, 1) := by decide +kernel
theorem dX7_scoreNow_118 : decode (mc mX7_scoreNow) 118 = .ok (.invokestatic 62, 3) := by decide +kernel
theorem dX7_scoreNow_121 : decode (mc mX7_scoreNow) 121 = .ok (.iadd, 1) := by decide +kernel
theorem dX7_scoreNow_122 : decode (mc mX7_scoreNow) 122 = .ok (.invokestatic 62, 3) := by decide +kernel
theorem dX7_scoreNow_125 : decode (mc mX7_scoreNow) 125 = .ok (.istore_n 3, 1) := by decide +kernel
theorem dX7_scoreNow_126 : decode (mc mX7_scoreNow) 126 = .ok (.aload_n 0, 1) := by decide +kernel
theorem dX7_scoreNow_127 : decode (mc mX7_scoreNow) 127 = .ok (.getfield 19, 3) := by decide +kernel
theorem dX7_scoreNow_130 : decode (mc mX7_scoreNow) 130 = .ok (.bipush 11, 2) := by decide +kernel
theorem dX7_scoreNow_132 : decode (mc mX7_scoreNow) 132 = .ok (.iload_n 1, 1) := by decide +kernel
theorem dX7_scoreNow_133 : decode (mc mX7_scoreNow) 133 = .ok (.imul, 1) := by decide +kernel
theorem dX7_scoreNow_134 : decode (mc mX7_scoreNow) 134 = .ok (.iload_n 2, 1) := by decide +kernel
theorem dX7_scoreNow_135 : decode (mc mX7_scoreNow) 135 = .ok (.iadd, 1) := by decide +kernel
theorem dX7_scoreNow_136 : decode (mc mX7_scoreNow) 136 = .ok (.iload_n 3, 1) := by decide +kernel
theorem dX7_scoreNow_137 : decode (mc mX7_scoreNow) 137 = .ok (.iastore, 1) := by decide +kernel
theorem dX7_scoreNow_138 : decode (mc mX7_scoreNow) 138 = .ok (.iinc 2 1, 3) := by decide +kernel
theorem dX7_scoreNow_141 : decode (mc mX7_scoreNow) 141 = .ok (.goto (-129), 3) := by decide +kernel
theorem dX7_scoreNow_144 : decode (mc mX7_scoreNow) 144 = .ok (.iinc 1 1, 3) := by decide +kernel
theorem dX7_scoreNow_147 : decode (mc mX7_scoreNow) 147 = .ok (.goto (-145), 3) := by decide +kernel
theorem dX7_scoreNow_150 : decode (mc mX7_scoreNow) 150 = .ok (.aload_n 0, 1) := by decide +kernel
theorem dX7_scoreNow_151 : decode (mc mX7_scoreNow) 151 = .ok (.getfield 53, 3) := by decide +kernel
theorem dX7_scoreNow_154 : decode (mc mX7_scoreNow) 154 = .ok (.aload_n 0, 1) := by decide +kernel
theorem dX7_scoreNow_155 : decode (mc mX7_scoreNow) 155 = .ok (.getfield 56, 3) := by decide +kernel
theorem dX7_scoreNow_158 : decode (mc mX7_scoreNow) 158 = .ok (.if_icmp .le 10, 3) := by decide +kernel
theorem dX7_scoreNow_161 : decode (mc mX7_scoreNow) 161 = .ok (.aload_n 0, 1) := by decide +kernel
theorem dX7_scoreNow_162 : decode (mc mX7_scoreNow) 162 = .ok (.getfield 53, 3) := by decide +kernel
theorem dX7_scoreNow_165 : decode (mc mX7_scoreNow) 165 = .ok (.goto 7, 3) := by decide +kernel
theorem dX7_scoreNow_168 : decode (mc mX7_scoreNow) 168 = .ok (.aload_n 0, 1) := by decide +kernel
theorem dX7_scoreNow_169 : decode (mc mX7_scoreNow) 169 = .ok (.getfield 56, 3) := by decide +kernel
theorem dX7_scoreNow_172 : decode (mc mX7_scoreNow) 172 = .ok (.istore_n 1, 1) := by decide +kernel
theorem dX7_scoreNow_173 : decode (mc mX7_scoreNow) 173 = .ok (.bipush 100, 2) := by decide +kernel
theorem dX7_scoreNow_175 : decode (mc mX7_scoreNow) 175 = .ok (.iload_n 1, 1) := by decide +kernel
theorem dX7_scoreNow_176 : decode (mc mX7_scoreNow) 176 = .ok (.aload_n 0, 1) := by decide +kernel
theorem dX7_scoreNow_177 : decode (mc mX7_scoreNow) 177 = .ok (.getfield 19, 3) := by decide +kernel
theorem dX7_scoreNow_180 : decode (mc mX7_scoreNow) 180 = .ok (.bipush 11, 2) := by decide +kernel
theorem dX7_scoreNow_182 : decode (mc mX7_scoreNow) 182 = .ok (.aload_n 0, 1) := by decide +kernel
theorem dX7_scoreNow_183 : decode (mc mX7_scoreNow) 183 = .ok (.getfield 53, 3) := by decide +kernel
theorem dX7_scoreNow_186 : decode (mc mX7_scoreNow) 186 = .ok (.imul, 1) := by decide +kernel
theorem dX7_scoreNow_187 : decode (mc mX7_scoreNow) 187 = .ok (.aload_n 0, 1) := by decide +kernel
theorem dX7_scoreNow_188 : decode (mc mX7_scoreNow) 188 = .ok (.getfield 56, 3) := by decide +kernel
theorem dX7_scoreNow_191 : decode (mc mX7_scoreNow) 191 = .ok (.iadd, 1) := by decide +kernel
theorem dX7_scoreNow_192 : decode (mc mX7_scoreNow) 192 = .ok (.iaload, 1) := by decide +kernel
theorem dX7_scoreNow_193 : decode (mc mX7_scoreNow) 193 = .ok (.isub, 1) := by decide +kernel
theorem dX7_scoreNow_194 : decode (mc mX7_scoreNow) 194 = .ok (.imul, 1) := by decide +kernel
theorem dX7_scoreNow_195 : decode (mc mX7_scoreNow) 195 = .ok (.iload_n 1, 1) := by decide +kernel
theorem dX7_scoreNow_196 : decode (mc mX7_scoreNow) 196 = .ok (.idiv, 1) := by decide +kernel
theorem dX7_scoreNow_197 : decode (mc mX7_scoreNow) 197 = .ok (.ireturn, 1) := by decide +kernel
theorem dX7_scoreOf_0 : decode (mc mX7_scoreOf) 0 = .ok (.aload_n 0, 1) := by decide +kernel
theorem dX7_scoreOf_1 : decode (mc mX7_scoreOf) 1 = .ok (.iload_n 1, 1) := by decide +kernel
theorem dX7_scoreOf_2 : decode (mc mX7_scoreOf) 2 = .ok (.invokevirtual 65, 3) := by decide +kernel
theorem dX7_scoreOf_5 : decode (mc mX7_scoreOf) 5 = .ok (.aload_n 0, 1) := by decide +kernel
theorem dX7_scoreOf_6 : decode (mc mX7_scoreOf) 6 = .ok (.iload_n 2, 1) := by decide +kernel
theorem dX7_scoreOf_7 : decode (mc mX7_scoreOf) 7 = .ok (.invokevirtual 69, 3) := by decide +kernel
theorem dX7_scoreOf_10 : decode (mc mX7_scoreOf) 10 = .ok (.aload_n 0, 1) := by decide +kernel
theorem dX7_scoreOf_11 : decode (mc mX7_scoreOf) 11 = .ok (.invokevirtual 72, 3) := by decide +kernel
theorem dX7_scoreOf_14 : decode (mc mX7_scoreOf) 14 = .ok (.ireturn, 1) := by decide +kernel
theorem dX7_textScore_0 : decode (mc mX7_textScore) 0 = .ok (.aload_n 0, 1) := by decide +kernel
theorem dX7_textScore_1 : decode (mc mX7_textScore) 1 = .ok (.invokevirtual 76, 3) := by decide +kernel
theorem dX7_textScore_4 : decode (mc mX7_textScore) 4 = .ok (.aload_n 0, 1) := by decide +kernel
theorem dX7_textScore_5 : decode (mc mX7_textScore) 5 = .ok (.iload_n 1, 1) := by decide +kernel
theorem dX7_textScore_6 : decode (mc mX7_textScore) 6 = .ok (.invokevirtual 69, 3) := by decide +kernel
theorem dX7_textScore_9 : decode (mc mX7_textScore) 9 = .ok (.aload_n 0, 1) := by decide +kernel
theorem dX7_textScore_10 : decode (mc mX7_textScore) 10 = .ok (.invokevirtual 72, 3) := by decide +kernel
theorem dX7_textScore_13 : decode (mc mX7_textScore) 13 = .ok (.ireturn, 1) := by decide +kernel
theorem dX7_addMember_0 : decode (mc mX7_addMember) 0 = .ok (.aload_n 0, 1) := by decide +kernel
theorem dX7_addMember_1 : decode (mc mX7_addMember) 1 = .ok (.getfield 7, 3) := by decide +kernel
theorem dX7_addMember_4 : decode (mc mX7_addMember) 4 = .ok (.iconst 0, 1) := by decide +kernel
theorem dX7_addMember_5 : decode (mc mX7_addMember) 5 = .ok (.iaload, 1) := by decide +kernel
theorem dX7_addMember_6 : decode (mc mX7_addMember) 6 = .ok (.bipush 6, 2) := by decide +kernel
theorem dX7_addMember_8 : decode (mc mX7_addMember) 8 = .ok (.if_icmp .ne 6, 3) := by decide +kernel
theorem dX7_addMember_11 : decode (mc mX7_addMember) 11 = .ok (.ldc 79, 2) := by decide +kernel
theorem dX7_addMember_13 : decode (mc mX7_addMember) 13 = .ok (.ireturn, 1) := by decide +kernel
theorem dX7_addMember_14 : decode (mc mX7_addMember) 14 = .ok (.aload_n 0, 1) := by decide +kernel
theorem dX7_addMember_15 : decode (mc mX7_addMember) 15 = .ok (.invokevirtual 80, 3) := by decide +kernel
theorem dX7_addMember_18 : decode (mc mX7_addMember) 18 = .ok (.aload_n 0, 1) := by decide +kernel
theorem dX7_addMember_19 : decode (mc mX7_addMember) 19 = .ok (.getfield 7, 3) := by decide +kernel
theorem dX7_addMember_22 : decode (mc mX7_addMember) 22 = .ok (.bipush 10, 2) := by decide +kernel
theorem dX7_addMember_24 : decode (mc mX7_addMember) 24 = .ok (.iconst 2, 1) := by decide +kernel
theorem dX7_addMember_25 : decode (mc mX7_addMember) 25 = .ok (.aload_n 0, 1) := by decide +kernel
theorem dX7_addMember_26 : decode (mc mX7_addMember) 26 = .ok (.getfield 7, 3) := by decide +kernel
theorem dX7_addMember_29 : decode (mc mX7_addMember) 29 = .ok (.iconst 0, 1) := by decide +kernel
theorem dX7_addMember_30 : decode (mc mX7_addMember) 30 = .ok (.iaload, 1) := by decide +kernel
theorem dX7_addMember_31 : decode (mc mX7_addMember) 31 = .ok (.imul, 1) := by decide +kernel
theorem dX7_addMember_32 : decode (mc mX7_addMember) 32 = .ok (.iadd, 1) := by decide +kernel
theorem dX7_addMember_33 : decode (mc mX7_addMember) 33 = .ok (.bipush 40, 2) := by decide +kernel
theorem dX7_addMember_35 : decode (mc mX7_addMember) 35 = .ok (.iastore, 1) := by decide +kernel
theorem dX7_addMember_36 : decode (mc mX7_addMember) 36 = .ok (.aload_n 0, 1) := by decide +kernel
theorem dX7_addMember_37 : decode (mc mX7_addMember) 37 = .ok (.getfield 7, 3) := by decide +kernel
theorem dX7_addMember_40 : decode (mc mX7_addMember) 40 = .ok (.bipush 10, 2) := by decide +kernel
theorem dX7_addMember_42 : decode (mc mX7_addMember) 42 = .ok (.iconst 2, 1) := by decide +kernel
theorem dX7_addMember_43 : decode (mc mX7_addMember) 43 = .ok (.aload_n 0, 1) := by decide +kernel
theorem dX7_addMember_44 : decode (mc mX7_addMember) 44 = .ok (.getfield 7, 3) := by decide +kernel
theorem dX7_addMember_47 : decode (mc mX7_addMember) 47 = .ok (.iconst 0, 1) := by decide +kernel
theorem dX7_addMember_48 : decode (mc mX7_addMember) 48 = .ok (.iaload, 1) := by decide +kernel
theorem dX7_addMember_49 : decode (mc mX7_addMember) 49 = .ok (.imul, 1) := by decide +kernel
theorem dX7_addMember_50 : decode (mc mX7_addMember) 50 = .ok (.iadd, 1) := by decide +kernel
theorem dX7_addMember_51 : decode (mc mX7_addMember) 51 = .ok (.iconst 1, 1) := by decide +kernel
theorem dX7_addMember_52 : decode (mc mX7_addMember) 52 = .ok (.iadd, 1) := by decide +kernel
theorem dX7_addMember_53 : decode (mc mX7_addMember) 53 = .ok (.iconst 0, 1) := by decide +kernel
theorem dX7_addMember_54 : decode (mc mX7_addMember) 54 = .ok (.iastore, 1) := by decide +kernel
theorem dX7_addMember_55 : decode (mc mX7_addMember) 55 = .ok (.aload_n 0, 1) := by decide +kernel
theorem dX7_addMember_56 : decode (mc mX7_addMember) 56 = .ok (.getfield 7, 3) := by decide +kernel
theorem dX7_addMember_59 : decode (mc mX7_addMember) 59 = .ok (.iconst 0, 1) := by decide +kernel
theorem dX7_addMember_60 : decode (mc mX7_addMember) 60 = .ok (.dup2, 1) := by decide +kernel
theorem dX7_addMember_61 : decode (mc mX7_addMember) 61 = .ok (.iaload, 1) := by decide +kernel
theorem dX7_addMember_62 : decode (mc mX7_addMember) 62 = .ok (.iconst 1, 1) := by decide +kernel
theorem dX7_addMember_63 : decode (mc mX7_addMember) 63 = .ok (.iadd, 1) := by decide +kernel
theorem dX7_addMember_64 : decode (mc mX7_addMember) 64 = .ok (.iastore, 1) := by decide +kernel
theorem dX7_addMember_65 : decode (mc mX7_addMember) 65 = .ok (.aload_n 0, 1) := by decide +kernel
theorem dX7_addMember_66 : decode (mc mX7_addMember) 66 = .ok (.getfield 7, 3) := by decide +kernel
theorem dX7_addMember_69 : decode (mc mX7_addMember) 69 = .ok (.iconst 0, 1) := by decide +kernel
theorem dX7_addMember_70 : decode (mc mX7_addMember) 70 = .ok (.iaload, 1) := by decide +kernel
theorem dX7_addMember_71 : decode (mc mX7_addMember) 71 = .ok (.iconst 1, 1) := by decide +kernel
theorem dX7_addMember_72 : decode (mc mX7_addMember) 72 = .ok (.isub, 1) := by decide +kernel
theorem dX7_addMember_73 : decode (mc mX7_addMember) 73 = .ok (.ireturn, 1) := by decide +kernel
theorem dX7_setPrice_0 : decode (mc mX7_setPrice) 0 = .ok (.aload_n 0, 1) := by decide +kernel
theorem dX7_setPrice_1 : decode (mc mX7_setPrice) 1 = .ok (.iload_n 1, 1) := by decide +kernel
theorem dX7_setPrice_2 : decode (mc mX7_setPrice) 2 = .ok (.invokevirtual 83, 3) := by decide +kernel
theorem dX7_setPrice_5 : decode (mc mX7_setPrice) 5 = .ok (.ifCond .ne 6, 3) := by decide +kernel
theorem dX7_setPrice_8 : decode (mc mX7_setPrice) 8 = .ok (.ldc 87, 2) := by decide +kernel
theorem dX7_setPrice_10 : decode (mc mX7_setPrice) 10 = .ok (.ireturn, 1) := by decide +kernel
theorem dX7_setPrice_11 : decode (mc mX7_setPrice) 11 = .ok (.iload_n 2, 1) := by decide +kernel
theorem dX7_setPrice_12 : decode (mc mX7_setPrice) 12 = .ok (.iconst 0, 1) := by decide +kernel
theorem dX7_setPrice_13 : decode (mc mX7_setPrice) 13 = .ok (.sipush 200, 3) := by decide +kernel
theorem dX7_setPrice_16 : decode (mc mX7_setPrice) 16 = .ok (.invokestatic 45, 3) := by decide +kernel
theorem dX7_setPrice_19 : decode (mc mX7_setPrice) 19 = .ok (.ifCond .ne 6, 3) := by decide +kernel
theorem dX7_setPrice_22 : decode (mc mX7_setPrice) 22 = .ok (.ldc 88, 2) := by decide +kernel
theorem dX7_setPrice_24 : decode (mc mX7_setPrice) 24 = .ok (.ireturn, 1) := by decide +kernel
theorem dX7_setPrice_25 : decode (mc mX7_setPrice) 25 = .ok (.aload_n 0, 1) := by decide +kernel
theorem dX7_setPrice_26 : decode (mc mX7_setPrice) 26 = .ok (.invokevirtual 80, 3) := by decide +kernel
theorem dX7_setPrice_29 : decode (mc mX7_setPrice) 29 = .ok (.aload_n 0, 1) := by decide +kernel
theorem dX7_setPrice_30 : decode (mc mX7_setPrice) 30 = .ok (.iload_n 1, 1) := by decide +kernel
theorem dX7_setPrice_31 : decode (mc mX7_setPrice) 31 = .ok (.invokevirtual 89, 3) := by decide +kernel
theorem dX7_setPrice_34 : decode (mc mX7_setPrice) 34 = .ok (.istore_n 3, 1) := by decide +kernel
theorem dX7_setPrice_35 : decode (mc mX7_setPrice) 35 = .ok (.aload_n 0, 1) := by decide +kernel
theorem dX7_setPrice_36 : decode (mc mX7_setPrice) 36 = .ok (.getfield 7, 3) := by decide +kernel
theorem dX7_setPrice_39 : decode (mc mX7_setPrice) 39 = .ok (.bipush 10, 2) := by decide +kernel
theorem dX7_setPrice_41 : decode (mc mX7_setPrice) 41 = .ok (.iconst 2, 1) := by decide +kernel
theorem dX7_setPrice_42 : decode (mc mX7_setPrice) 42 = .ok (.iload_n 1, 1) := by decide +kernel
theorem dX7_setPrice_43 : decode (mc mX7_setPrice) 43 = .ok (.imul, 1) := by decide +kernel
theorem dX7_setPrice_44 : decode (mc mX7_setPrice) 44 = .ok (.iadd, 1) := by decide +kernel
theorem dX7_setPrice_45 : decode (mc mX7_setPrice) 45 = .ok (.iload_n 2, 1) := by decide +kernel
theorem dX7_setPrice_46 : decode (mc mX7_setPrice) 46 = .ok (.iastore, 1) := by decide +kernel
theorem dX7_setPrice_47 : decode (mc mX7_setPrice) 47 = .ok (.iload_n 3, 1) := by decide +kernel
theorem dX7_setPrice_48 : decode (mc mX7_setPrice) 48 = .ok (.ireturn, 1) := by decide +kernel
theorem dX7_set_0 : decode (mc mX7_set) 0 = .ok (.iload_n 1, 1) := by decide +kernel
theorem dX7_set_1 : decode (mc mX7_set) 1 = .ok (.iconst 0, 1) := by decide +kernel
theorem dX7_set_2 : decode (mc mX7_set) 2 = .ok (.iconst 4, 1) := by decide +kernel
theorem dX7_set_3 : decode (mc mX7_set) 3 = .ok (.invokestatic 45, 3) := by decide +kernel
theorem dX7_set_6 : decode (mc mX7_set) 6 = .ok (.ifCond .ne 6, 3) := by decide +kernel
theorem dX7_set_9 : decode (mc mX7_set) 9 = .ok (.ldc 87, 2) := by decide +kernel
theorem dX7_set_11 : decode (mc mX7_set) 11 = .ok (.ireturn, 1) := by decide +kernel
theorem dX7_set_12 : decode (mc mX7_set) 12 = .ok (.iload_n 1, 1) := by decide +kernel
theorem dX7_set_13 : decode (mc mX7_set) 13 = .ok (.iconst 1, 1) := by decide +kernel
theorem dX7_set_14 : decode (mc mX7_set) 14 = .ok (.if_icmp .ne 8, 3) := by decide +kernel
theorem dX7_set_17 : decode (mc mX7_set) 17 = .ok (.bipush 50, 2) := by decide +kernel
theorem dX7_set_19 : decode (mc mX7_set) 19 = .ok (.goto 15, 3) := by decide +kernel
theorem dX7_set_22 : decode (mc mX7_set) 22 = .ok (.iload_n 1, 1) := by decide +kernel
theorem dX7_set_23 : decode (mc mX7_set) 23 = .ok (.iconst 2, 1) := by decide +kernel
theorem dX7_set_24 : decode (mc mX7_set) 24 = .ok (.if_icmp .ne 8, 3) := by decide +kernel
theorem dX7_set_27 : decode (mc mX7_set) 27 = .ok (.bipush 80, 2) := by decide +kernel
theorem dX7_set_29 : decode (mc mX7_set) 29 = .ok (.goto 5, 3) := by decide +kernel
theorem dX7_set_32 : decode (mc mX7_set) 32 = .ok (.bipush 100, 2) := by decide +kernel
theorem dX7_set_34 : decode (mc mX7_set) 34 = .ok (.istore_n 3, 1) := by decide +kernel
theorem dX7_set_35 : decode (mc mX7_set) 35 = .ok (.iload_n 2, 1) := by decide +kernel
theorem dX7_set_36 : decode (mc mX7_set) 36 = .ok (.iload_n 1, 1) := by decide +kernel
theorem dX7_set_37 : decode (mc mX7_set) 37 = .ok (.ifCond .eq 8, 3) := by decide +kernel
theorem dX7_set_40 : decode (mc mX7_set) 40 = .ok (.iload_n 1, 1) := by decide +kernel
theorem dX7_set_41 : decode (mc mX7_set) 41 = .ok (.iconst 4, 1) := by decide +kernel
theorem dX7_set_42 : decode (mc mX7_set) 42 = .ok (.if_icmp .ne 7, 3) := by decide +kernel
theorem dX7_set_45 : decode (mc mX7_set) 45 = .ok (.iconst 1, 1) := by decide +kernel
theorem dX7_set_46 : decode (mc mX7_set) 46 = .ok (.goto 4, 3) := by decide +kernel
theorem dX7_set_49 : decode (mc mX7_set) 49 = .ok (.iconst 0, 1) := by decide +kernel
theorem dX7_set_50 : decode (mc mX7_set) 50 = .ok (.iload_n 3, 1) := by decide +kernel
theorem dX7_set_51 : decode (mc mX7_set) 51 = .ok (.invokestatic 45, 3) := by decide +kernel
theorem dX7_set_54 : decode (mc mX7_set) 54 = .ok (.ifCond .ne 6, 3) := by decide +kernel
theorem dX7_set_57 : decode (mc mX7_set) 57 = .ok (.ldc 88, 2) := by decide +kernel
theorem dX7_set_59 : decode (mc mX7_set) 59 = .ok (.ireturn, 1) := by decide +kernel
theorem dX7_set_60 : decode (mc mX7_set) 60 = .ok (.aload_n 0, 1) := by decide +kernel
theorem dX7_set_61 : decode (mc mX7_set) 61 = .ok (.invokevirtual 80, 3) := by decide +kernel
theorem dX7_set_64 : decode (mc mX7_set) 64 = .ok (.aload_n 0, 1) := by decide +kernel
theorem dX7_set_65 : decode (mc mX7_set) 65 = .ok (.getfield 7, 3) := by decide +kernel
theorem dX7_set_68 : decode (mc mX7_set) 68 = .ok (.iconst 5, 1) := by decide +kernel
theorem dX7_set_69 : decode (mc mX7_set) 69 = .ok (.iload_n 1, 1) := by decide +kernel
theorem dX7_set_70 : decode (mc mX7_set) 70 = .ok (.iadd, 1) := by decide +kernel
theorem dX7_set_71 : decode (mc mX7_set) 71 = .ok (.iaload, 1) := by decide +kernel
theorem dX7_set_72 : decode (mc mX7_set) 72 = .ok (.istore 4, 2) := by decide +kernel
theorem dX7_set_74 : decode (mc mX7_set) 74 = .ok (.aload_n 0, 1) := by decide +kernel
theorem dX7_set_75 : decode (mc mX7_set) 75 = .ok (.getfield 7, 3) := by decide +kernel
theorem dX7_set_78 : decode (mc mX7_set) 78 = .ok (.iconst 5, 1) := by decide +kernel
theorem dX7_set_79 : decode (mc mX7_set) 79 = .ok (.iload_n 1, 1) := by decide +kernel
theorem dX7_set_80 : decode (mc mX7_set) 80 = .ok (.iadd, 1) := by decide +kernel
theorem dX7_set_81 : decode (mc mX7_set) 81 = .ok (.iload_n 2, 1) := by decide +kernel
theorem dX7_set_82 : decode (mc mX7_set) 82 = .ok (.iastore, 1) := by decide +kernel
theorem dX7_set_83 : decode (mc mX7_set) 83 = .ok (.iload 4, 2) := by decide +kernel
theorem dX7_set_85 : decode (mc mX7_set) 85 = .ok (.ireturn, 1) := by decide +kernel
theorem dX7_areInConflict_0 : decode (mc mX7_areInConflict) 0 = .ok (.iload_n 1, 1) := by decide +kernel
theorem dX7_areInConflict_1 : decode (mc mX7_areInConflict) 1 = .ok (.iload_n 2, 1) := by decide +kernel
theorem dX7_areInConflict_2 : decode (mc mX7_areInConflict) 2 = .ok (.if_icmp .eq 53, 3) := by decide +kernel
theorem dX7_areInConflict_5 : decode (mc mX7_areInConflict) 5 = .ok (.aload_n 0, 1) := by decide +kernel
theorem dX7_areInConflict_6 : decode (mc mX7_areInConflict) 6 = .ok (.iload_n 1, 1) := by decide +kernel
theorem dX7_areInConflict_7 : decode (mc mX7_areInConflict) 7 = .ok (.iconst 4, 1) := by decide +kernel
theorem dX7_areInConflict_8 : decode (mc mX7_areInConflict) 8 = .ok (.invokevirtual 49, 3) := by decide +kernel
theorem dX7_areInConflict_11 : decode (mc mX7_areInConflict) 11 = .ok (.iconst 1, 1) := by decide +kernel
theorem dX7_areInConflict_12 : decode (mc mX7_areInConflict) 12 = .ok (.if_icmp .ne 43, 3) := by decide +kernel
theorem dX7_areInConflict_15 : decode (mc mX7_areInConflict) 15 = .ok (.aload_n 0, 1) := by decide +kernel
theorem dX7_areInConflict_16 : decode (mc mX7_areInConflict) 16 = .ok (.iload_n 2, 1) := by decide +kernel
theorem dX7_areInConflict_17 : decode (mc mX7_areInConflict) 17 = .ok (.iconst 4, 1) := by decide +kernel
theorem dX7_areInConflict_18 : decode (mc mX7_areInConflict) 18 = .ok (.invokevirtual 49, 3) := by decide +kernel
theorem dX7_areInConflict_21 : decode (mc mX7_areInConflict) 21 = .ok (.iconst 1, 1) := by decide +kernel
theorem dX7_areInConflict_22 : decode (mc mX7_areInConflict) 22 = .ok (.if_icmp .ne 33, 3) := by decide +kernel
theorem dX7_areInConflict_25 : decode (mc mX7_areInConflict) 25 = .ok (.aload_n 0, 1) := by decide +kernel
theorem dX7_areInConflict_26 : decode (mc mX7_areInConflict) 26 = .ok (.iload_n 1, 1) := by decide +kernel
theorem dX7_areInConflict_27 : decode (mc mX7_areInConflict) 27 = .ok (.iconst 2, 1) := by decide +kernel
theorem dX7_areInConflict_28 : decode (mc mX7_areInConflict) 28 = .ok (.invokevirtual 49, 3) := by decide +kernel
theorem dX7_areInConflict_31 : decode (mc mX7_areInConflict) 31 = .ok (.aload_n 0, 1) := by decide +kernel
theorem dX7_areInConflict_32 : decode (mc mX7_areInConflict) 32 = .ok (.iload_n 2, 1) := by decide +kernel
theorem dX7_areInConflict_33 : decode (mc mX7_areInConflict) 33 = .ok (.iconst 2, 1) := by decide +kernel
theorem dX7_areInConflict_34 : decode (mc mX7_areInConflict) 34 = .ok (.invokevirtual 49, 3) := by decide +kernel
theorem dX7_areInConflict_37 : decode (mc mX7_areInConflict) 37 = .ok (.if_icmp .eq 18, 3) := by decide +kernel
theorem dX7_areInConflict_40 : decode (mc mX7_areInConflict) 40 = .ok (.aload_n 0, 1) := by decide +kernel
theorem dX7_areInConflict_41 : decode (mc mX7_areInConflict) 41 = .ok (.iload_n 1, 1) := by decide +kernel
theorem dX7_areInConflict_42 : decode (mc mX7_areInConflict) 42 = .ok (.iload_n 2, 1) := by decide +kernel
theorem dX7_areInConflict_43 : decode (mc mX7_areInConflict) 43 = .ok (.invokevirtual 93, 3) := by decide +kernel
theorem dX7_areInConflict_46 : decode (mc mX7_areInConflict) 46 = .ok (.bipush 100, 2) := by decide +kernel
theorem dX7_areInConflict_48 : decode (mc mX7_areInConflict) 48 = .ok (.if_icmp .ne 7, 3) := by decide +kernel
theorem dX7_areInConflict_51 : decode (mc mX7_areInConflict) 51 = .ok (.iconst 1, 1) := by decide +kernel
theorem dX7_areInConflict_52 : decode (mc mX7_areInConflict) 52 = .ok (.goto 4, 3) := by decide +kernel
theorem dX7_areInConflict_55 : decode (mc mX7_areInConflict) 55 = .ok (.iconst 0, 1) := by decide +kernel
theorem dX7_areInConflict_56 : decode (mc mX7_areInConflict) 56 = .ok (.ireturn, 1) := by decide +kernel
theorem dX7_conflicts_0 : decode (mc mX7_conflicts) 0 = .ok (.iconst 0, 1) := by decide +kernel
theorem dX7_conflicts_1 : decode (mc mX7_conflicts) 1 = .ok (.istore_n 2, 1) := by decide +kernel
theorem dX7_conflicts_2 : decode (mc mX7_conflicts) 2 = .ok (.iconst 0, 1) := by decide +kernel
theorem dX7_conflicts_3 : decode (mc mX7_conflicts) 3 = .ok (.istore_n 3, 1) := by decide +kernel
theorem dX7_conflicts_4 : decode (mc mX7_conflicts) 4 = .ok (.iload_n 3, 1) := by decide +kernel
theorem dX7_conflicts_5 : decode (mc mX7_conflicts) 5 = .ok (.aload_n 0, 1) := by decide +kernel
theorem dX7_conflicts_6 : decode (mc mX7_conflicts) 6 = .ok (.getfield 7, 3) := by decide +kernel
theorem dX7_conflicts_9 : decode (mc mX7_conflicts) 9 = .ok (.iconst 1, 1) := by decide +kernel
theorem dX7_conflicts_10 : decode (mc mX7_conflicts) 10 = .ok (.iaload, 1) := by decide +kernel
theorem dX7_conflicts_11 : decode (mc mX7_conflicts) 11 = .ok (.if_icmp .ge 26, 3) := by decide +kernel
theorem dX7_conflicts_14 : decode (mc mX7_conflicts) 14 = .ok (.iload_n 2, 1) := by decide +kernel
theorem dX7_conflicts_15 : decode (mc mX7_conflicts) 15 = .ok (.aload_n 0, 1) := by decide +kernel
theorem dX7_conflicts_16 : decode (mc mX7_conflicts) 16 = .ok (.iload_n 1, 1) := by decide +kernel
theorem dX7_conflicts_17 : decode (mc mX7_conflicts) 17 = .ok (.iload_n 3, 1) := by decide +kernel
theorem dX7_conflicts_18 : decode (mc mX7_conflicts) 18 = .ok (.invokevirtual 96, 3) := by decide +kernel
theorem dX7_conflicts_21 : decode (mc mX7_conflicts) 21 = .ok (.ifCond .eq 7, 3) := by decide +kernel
theorem dX7_conflicts_24 : decode (mc mX7_conflicts) 24 = .ok (.iconst 1, 1) := by decide +kernel
theorem dX7_conflicts_25 : decode (mc mX7_conflicts) 25 = .ok (.goto 4, 3) := by decide +kernel
theorem dX7_conflicts_28 : decode (mc mX7_conflicts) 28 = .ok (.iconst 0, 1) := by decide +kernel
theorem dX7_conflicts_29 : decode (mc mX7_conflicts) 29 = .ok (.iadd, 1) := by decide +kernel
theorem dX7_conflicts_30 : decode (mc mX7_conflicts) 30 = .ok (.istore_n 2, 1) := by decide +kernel
theorem dX7_conflicts_31 : decode (mc mX7_conflicts) 31 = .ok (.iinc 3 1, 3) := by decide +kernel
theorem dX7_conflicts_34 : decode (mc mX7_conflicts) 34 = .ok (.goto (-30), 3) := by decide +kernel
theorem dX7_conflicts_37 : decode (mc mX7_conflicts) 37 = .ok (.iload_n 2, 1) := by decide +kernel
theorem dX7_conflicts_38 : decode (mc mX7_conflicts) 38 = .ok (.ireturn, 1) := by decide +kernel
theorem dX7_live_0 : decode (mc mX7_live) 0 = .ok (.iconst 0, 1) := by decide +kernel
theorem dX7_live_1 : decode (mc mX7_live) 1 = .ok (.istore_n 1, 1) := by decide +kernel
theorem dX7_live_2 : decode (mc mX7_live) 2 = .ok (.iconst 0, 1) := by decide +kernel
theorem dX7_live_3 : decode (mc mX7_live) 3 = .ok (.istore_n 2, 1) := by decide +kernel
theorem dX7_live_4 : decode (mc mX7_live) 4 = .ok (.iload_n 2, 1) := by decide +kernel
theorem dX7_live_5 : decode (mc mX7_live) 5 = .ok (.aload_n 0, 1) := by decide +kernel
theorem dX7_live_6 : decode (mc mX7_live) 6 = .ok (.getfield 7, 3) := by decide +kernel
theorem dX7_live_9 : decode (mc mX7_live) 9 = .ok (.iconst 1, 1) := by decide +kernel
theorem dX7_live_10 : decode (mc mX7_live) 10 = .ok (.iaload, 1) := by decide +kernel
theorem dX7_live_11 : decode (mc mX7_live) 11 = .ok (.if_icmp .ge 18, 3) := by decide +kernel
theorem dX7_live_14 : decode (mc mX7_live) 14 = .ok (.iload_n 1, 1) := by decide +kernel
theorem dX7_live_15 : decode (mc mX7_live) 15 = .ok (.aload_n 0, 1) := by decide +kernel
theorem dX7_live_16 : decode (mc mX7_live) 16 = .ok (.iload_n 2, 1) := by decide +kernel
theorem dX7_live_17 : decode (mc mX7_live) 17 = .ok (.iconst 4, 1) := by decide +kernel
theorem dX7_live_18 : decode (mc mX7_live) 18 = .ok (.invokevirtual 49, 3) := by decide +kernel
theorem dX7_live_21 : decode (mc mX7_live) 21 = .ok (.iadd, 1) := by decide +kernel
theorem dX7_live_22 : decode (mc mX7_live) 22 = .ok (.istore_n 1, 1) := by decide +kernel
theorem dX7_live_23 : decode (mc mX7_live) 23 = .ok (.iinc 2 1, 3) := by decide +kernel
theorem dX7_live_26 : decode (mc mX7_live) 26 = .ok (.goto (-22), 3) := by decide +kernel
theorem dX7_live_29 : decode (mc mX7_live) 29 = .ok (.iload_n 1, 1) := by decide +kernel
theorem dX7_live_30 : decode (mc mX7_live) 30 = .ok (.ireturn, 1) := by decide +kernel
theorem dX7_paidBack_0 : decode (mc mX7_paidBack) 0 = .ok (.iconst 0, 1) := by decide +kernel
theorem dX7_paidBack_1 : decode (mc mX7_paidBack) 1 = .ok (.istore_n 1, 1) := by decide +kernel
theorem dX7_paidBack_2 : decode (mc mX7_paidBack) 2 = .ok (.iconst 0, 1) := by decide +kernel
theorem dX7_paidBack_3 : decode (mc mX7_paidBack) 3 = .ok (.istore_n 2, 1) := by decide +kernel
theorem dX7_paidBack_4 : decode (mc mX7_paidBack) 4 = .ok (.iload_n 2, 1) := by decide +kernel
theorem dX7_paidBack_5 : decode (mc mX7_paidBack) 5 = .ok (.aload_n 0, 1) := by decide +kernel
theorem dX7_paidBack_6 : decode (mc mX7_paidBack) 6 = .ok (.getfield 7, 3) := by decide +kernel
theorem dX7_paidBack_9 : decode (mc mX7_paidBack) 9 = .ok (.iconst 2, 1) := by decide +kernel
theorem dX7_paidBack_10 : decode (mc mX7_paidBack) 10 = .ok (.iaload, 1) := by decide +kernel
theorem dX7_paidBack_11 : decode (mc mX7_paidBack) 11 = .ok (.if_icmp .ge 18, 3) := by decide +kernel
theorem dX7_paidBack_14 : decode (mc mX7_paidBack) 14 = .ok (.iload_n 1, 1) := by decide +kernel
theorem dX7_paidBack_15 : decode (mc mX7_paidBack) 15 = .ok (.aload_n 0, 1) := by decide +kernel
theorem dX7_paidBack_16 : decode (mc mX7_paidBack) 16 = .ok (.iload_n 2, 1) := by decide +kernel
theorem dX7_paidBack_17 : decode (mc mX7_paidBack) 17 = .ok (.iconst 5, 1) := by decide +kernel
theorem dX7_paidBack_18 : decode (mc mX7_paidBack) 18 = .ok (.invokevirtual 100, 3) := by decide +kernel
theorem dX7_paidBack_21 : decode (mc mX7_paidBack) 21 = .ok (.iadd, 1) := by decide +kernel
theorem dX7_paidBack_22 : decode (mc mX7_paidBack) 22 = .ok (.istore_n 1, 1) := by decide +kernel
theorem dX7_paidBack_23 : decode (mc mX7_paidBack) 23 = .ok (.iinc 2 1, 3) := by decide +kernel
theorem dX7_paidBack_26 : decode (mc mX7_paidBack) 26 = .ok (.goto (-22), 3) := by decide +kernel
theorem dX7_paidBack_29 : decode (mc mX7_paidBack) 29 = .ok (.iload_n 1, 1) := by decide +kernel
theorem dX7_paidBack_30 : decode (mc mX7_paidBack) 30 = .ok (.ireturn, 1) := by decide +kernel
theorem dX7_allConflicts_0 : decode (mc mX7_allConflicts) 0 = .ok (.iconst 0, 1) := by decide +kernel
theorem dX7_allConflicts_1 : decode (mc mX7_allConflicts) 1 = .ok (.istore_n 1, 1) := by decide +kernel
theorem dX7_allConflicts_2 : decode (mc mX7_allConflicts) 2 = .ok (.iconst 0, 1) := by decide +kernel
theorem dX7_allConflicts_3 : decode (mc mX7_allConflicts) 3 = .ok (.istore_n 2, 1) := by decide +kernel
theorem dX7_allConflicts_4 : decode (mc mX7_allConflicts) 4 = .ok (.iload_n 2, 1) := by decide +kernel
theorem dX7_allConflicts_5 : decode (mc mX7_allConflicts) 5 = .ok (.aload_n 0, 1) := by decide +kernel
theorem dX7_allConflicts_6 : decode (mc mX7_allConflicts) 6 = .ok (.getfield 7, 3) := by decide +kernel
theorem dX7_allConflicts_9 : decode (mc mX7_allConflicts) 9 = .ok (.iconst 1, 1) := by decide +kernel
theorem dX7_allConflicts_10 : decode (mc mX7_allConflicts) 10 = .ok (.iaload, 1) := by decide +kernel
theorem dX7_allConflicts_11 : decode (mc mX7_allConflicts) 11 = .ok (.if_icmp .ge 17, 3) := by decide +kernel
theorem dX7_allConflicts_14 : decode (mc mX7_allConflicts) 14 = .ok (.iload_n 1, 1) := by decide +kernel
theorem dX7_allConflicts_15 : decode (mc mX7_allConflicts) 15 = .ok (.aload_n 0, 1) := by decide +kernel
theorem dX7_allConflicts_16 : decode (mc mX7_allConflicts) 16 = .ok (.iload_n 2, 1) := by decide +kernel
theorem dX7_allConflicts_17 : decode (mc mX7_allConflicts) 17 = .ok (.invokevirtual 103, 3) := by decide +kernel
theorem dX7_allConflicts_20 : decode (mc mX7_allConflicts) 20 = .ok (.iadd, 1) := by decide +kernel
theorem dX7_allConflicts_21 : decode (mc mX7_allConflicts) 21 = .ok (.istore_n 1, 1) := by decide +kernel
theorem dX7_allConflicts_22 : decode (mc mX7_allConflicts) 22 = .ok (.iinc 2 1, 3) := by decide +kernel
theorem dX7_allConflicts_25 : decode (mc mX7_allConflicts) 25 = .ok (.goto (-21), 3) := by decide +kernel
theorem dX7_allConflicts_28 : decode (mc mX7_allConflicts) 28 = .ok (.iload_n 1, 1) := by decide +kernel
theorem dX7_allConflicts_29 : decode (mc mX7_allConflicts) 29 = .ok (.iconst 2, 1) := by decide +kernel
theorem dX7_allConflicts_30 : decode (mc mX7_allConflicts) 30 = .ok (.idiv, 1) := by decide +kernel
theorem dX7_allConflicts_31 : decode (mc mX7_allConflicts) 31 = .ok (.ireturn, 1) := by decide +kernel
theorem dX7_counted_0 : decode (mc mX7_counted) 0 = .ok (.iload_n 1, 1) := by decide +kernel
theorem dX7_counted_1 : decode (mc mX7_counted) 1 = .ok (.iconst 2, 1) := by decide +kernel
theorem dX7_counted_2 : decode (mc mX7_counted) 2 = .ok (.if_icmp .ge 12, 3) := by decide +kernel
theorem dX7_counted_5 : decode (mc mX7_counted) 5 = .ok (.aload_n 0, 1) := by decide +kernel
theorem dX7_counted_6 : decode (mc mX7_counted) 6 = .ok (.getfield 7, 3) := by decide +kernel
theorem dX7_counted_9 : decode (mc mX7_counted) 9 = .ok (.iload_n 1, 1) := by decide +kernel
theorem dX7_counted_10 : decode (mc mX7_counted) 10 = .ok (.iaload, 1) := by decide +kernel
theorem dX7_counted_11 : decode (mc mX7_counted) 11 = .ok (.goto 107, 3) := by decide +kernel
theorem dX7_counted_14 : decode (mc mX7_counted) 14 = .ok (.iload_n 1, 1) := by decide +kernel
theorem dX7_counted_15 : decode (mc mX7_counted) 15 = .ok (.iconst 2, 1) := by decide +kernel
theorem dX7_counted_16 : decode (mc mX7_counted) 16 = .ok (.if_icmp .ne 10, 3) := by decide +kernel
theorem dX7_counted_19 : decode (mc mX7_counted) 19 = .ok (.aload_n 0, 1) := by decide +kernel
theorem dX7_counted_20 : decode (mc mX7_counted) 20 = .ok (.invokevirtual 106, 3) := by decide +kernel
theorem dX7_counted_23 : decode (mc mX7_counted) 23 = .ok (.goto 95, 3) := by decide +kernel
theorem dX7_counted_26 : decode (mc mX7_counted) 26 = .ok (.iload_n 1, 1) := by decide +kernel
theorem dX7_counted_27 : decode (mc mX7_counted) 27 = .ok (.iconst 3, 1) := by decide +kernel
theorem dX7_counted_28 : decode (mc mX7_counted) 28 = .ok (.if_icmp .ne 12, 3) := by decide +kernel
theorem dX7_counted_31 : decode (mc mX7_counted) 31 = .ok (.aload_n 0, 1) := by decide +kernel
theorem dX7_counted_32 : decode (mc mX7_counted) 32 = .ok (.getfield 7, 3) := by decide +kernel
theorem dX7_counted_35 : decode (mc mX7_counted) 35 = .ok (.iconst 2, 1) := by decide +kernel
theorem dX7_counted_36 : decode (mc mX7_counted) 36 = .ok (.iaload, 1) := by decide +kernel
theorem dX7_counted_37 : decode (mc mX7_counted) 37 = .ok (.goto 81, 3) := by decide +kernel
theorem dX7_counted_40 : decode (mc mX7_counted) 40 = .ok (.iload_n 1, 1) := by decide +kernel
theorem dX7_counted_41 : decode (mc mX7_counted) 41 = .ok (.iconst 4, 1) := by decide +kernel
theorem dX7_counted_42 : decode (mc mX7_counted) 42 = .ok (.if_icmp .ne 10, 3) := by decide +kernel
theorem dX7_counted_45 : decode (mc mX7_counted) 45 = .ok (.aload_n 0, 1) := by decide +kernel
theorem dX7_counted_46 : decode (mc mX7_counted) 46 = .ok (.invokevirtual 109, 3) := by decide +kernel
theorem dX7_counted_49 : decode (mc mX7_counted) 49 = .ok (.goto 69, 3) := by decide +kernel
theorem dX7_counted_52 : decode (mc mX7_counted) 52 = .ok (.iload_n 1, 1) := by decide +kernel
theorem dX7_counted_53 : decode (mc mX7_counted) 53 = .ok (.iconst 5, 1) := by decide +kernel
theorem dX7_counted_54 : decode (mc mX7_counted) 54 = .ok (.if_icmp .ne 12, 3) := by decide +kernel
theorem dX7_counted_57 : decode (mc mX7_counted) 57 = .ok (.aload_n 0, 1) := by decide +kernel
theorem dX7_counted_58 : decode (mc mX7_counted) 58 = .ok (.getfield 7, 3) := by decide +kernel
theorem dX7_counted_61 : decode (mc mX7_counted) 61 = .ok (.iconst 3, 1) := by decide +kernel
theorem dX7_counted_62 : decode (mc mX7_counted) 62 = .ok (.iaload, 1) := by decide +kernel
theorem dX7_counted_63 : decode (mc mX7_counted) 63 = .ok (.goto 55, 3) := by decide +kernel
theorem dX7_counted_66 : decode (mc mX7_counted) 66 = .ok (.iload_n 1, 1) := by decide +kernel
theorem dX7_counted_67 : decode (mc mX7_counted) 67 = .ok (.bipush 6, 2) := by decide +kernel
theorem dX7_counted_69 : decode (mc mX7_counted) 69 = .ok (.if_icmp .ne 12, 3) := by decide +kernel
theorem dX7_counted_72 : decode (mc mX7_counted) 72 = .ok (.aload_n 0, 1) := by decide +kernel
theorem dX7_counted_73 : decode (mc mX7_counted) 73 = .ok (.getfield 7, 3) := by decide +kernel
theorem dX7_counted_76 : decode (mc mX7_counted) 76 = .ok (.iconst 4, 1) := by decide +kernel
theorem dX7_counted_77 : decode (mc mX7_counted) 77 = .ok (.iaload, 1) := by decide +kernel
theorem dX7_counted_78 : decode (mc mX7_counted) 78 = .ok (.goto 40, 3) := by decide +kernel
theorem dX7_counted_81 : decode (mc mX7_counted) 81 = .ok (.iload_n 1, 1) := by decide +kernel
theorem dX7_counted_82 : decode (mc mX7_counted) 82 = .ok (.bipush 7, 2) := by decide +kernel
theorem dX7_counted_84 : decode (mc mX7_counted) 84 = .ok (.if_icmp .ne 10, 3) := by decide +kernel
theorem dX7_counted_87 : decode (mc mX7_counted) 87 = .ok (.aload_n 0, 1) := by decide +kernel
theorem dX7_counted_88 : decode (mc mX7_counted) 88 = .ok (.invokevirtual 112, 3) := by decide +kernel
theorem dX7_counted_91 : decode (mc mX7_counted) 91 = .ok (.goto 27, 3) := by decide +kernel
theorem dX7_counted_94 : decode (mc mX7_counted) 94 = .ok (.iload_n 1, 1) := by decide +kernel
theorem dX7_counted_95 : decode (mc mX7_counted) 95 = .ok (.bipush 13, 2) := by decide +kernel
theorem dX7_counted_97 : decode (mc mX7_counted) 97 = .ok (.if_icmp .ne 10, 3) := by decide +kernel
theorem dX7_counted_100 : decode (mc mX7_counted) 100 = .ok (.aload_n 0, 1) := by decide +kernel
theorem dX7_counted_101 : decode (mc mX7_counted) 101 = .ok (.getfield 59, 3) := by decide +kernel
theorem dX7_counted_104 : decode (mc mX7_counted) 104 = .ok (.goto 14, 3) := by decide +kernel
theorem dX7_counted_107 : decode (mc mX7_counted) 107 = .ok (.aload_n 0, 1) := by decide +kernel
theorem dX7_counted_108 : decode (mc mX7_counted) 108 = .ok (.getfield 7, 3) := by decide +kernel
theorem dX7_counted_111 : decode (mc mX7_counted) 111 = .ok (.iconst 5, 1) := by decide +kernel
theorem dX7_counted_112 : decode (mc mX7_counted) 112 = .ok (.iload_n 1, 1) := by decide +kernel
theorem dX7_counted_113 : decode (mc mX7_counted) 113 = .ok (.iadd, 1) := by decide +kernel
theorem dX7_counted_114 : decode (mc mX7_counted) 114 = .ok (.bipush 8, 2) := by decide +kernel
theorem dX7_counted_116 : decode (mc mX7_counted) 116 = .ok (.isub, 1) := by decide +kernel
theorem dX7_counted_117 : decode (mc mX7_counted) 117 = .ok (.iaload, 1) := by decide +kernel
theorem dX7_counted_118 : decode (mc mX7_counted) 118 = .ok (.ireturn, 1) := by decide +kernel
theorem dX7_count_0 : decode (mc mX7_count) 0 = .ok (.iload_n 1, 1) := by decide +kernel
theorem dX7_count_1 : decode (mc mX7_count) 1 = .ok (.iconst 0, 1) := by decide +kernel
theorem dX7_count_2 : decode (mc mX7_count) 2 = .ok (.bipush 13, 2) := by decide +kernel
theorem dX7_count_4 : decode (mc mX7_count) 4 = .ok (.invokestatic 45, 3) := by decide +kernel
theorem dX7_count_7 : decode (mc mX7_count) 7 = .ok (.ifCond .eq 11, 3) := by decide +kernel
theorem dX7_count_10 : decode (mc mX7_count) 10 = .ok (.aload_n 0, 1) := by decide +kernel
theorem dX7_count_11 : decode (mc mX7_count) 11 = .ok (.iload_n 1, 1) := by decide +kernel
theorem dX7_count_12 : decode (mc mX7_count) 12 = .ok (.invokevirtual 115, 3) := by decide +kernel
theorem dX7_count_15 : decode (mc mX7_count) 15 = .ok (.goto 5, 3) := by decide +kernel
theorem dX7_count_18 : decode (mc mX7_count) 18 = .ok (.ldc 88, 2) := by decide +kernel
theorem dX7_count_20 : decode (mc mX7_count) 20 = .ok (.ireturn, 1) := by decide +kernel
theorem dX7_memberNow_0 : decode (mc mX7_memberNow) 0 = .ok (.iload_n 2, 1) := by decide +kernel
theorem dX7_memberNow_1 : decode (mc mX7_memberNow) 1 = .ok (.iconst 2, 1) := by decide +kernel
theorem dX7_memberNow_2 : decode (mc mX7_memberNow) 2 = .ok (.if_icmp .ge 17, 3) := by decide +kernel
theorem dX7_memberNow_5 : decode (mc mX7_memberNow) 5 = .ok (.aload_n 0, 1) := by decide +kernel
theorem dX7_memberNow_6 : decode (mc mX7_memberNow) 6 = .ok (.getfield 7, 3) := by decide +kernel
theorem dX7_memberNow_9 : decode (mc mX7_memberNow) 9 = .ok (.bipush 10, 2) := by decide +kernel
theorem dX7_memberNow_11 : decode (mc mX7_memberNow) 11 = .ok (.iconst 2, 1) := by decide +kernel
theorem dX7_memberNow_12 : decode (mc mX7_memberNow) 12 = .ok (.iload_n 1, 1) := by decide +kernel
theorem dX7_memberNow_13 : decode (mc mX7_memberNow) 13 = .ok (.imul, 1) := by decide +kernel
theorem dX7_memberNow_14 : decode (mc mX7_memberNow) 14 = .ok (.iadd, 1) := by decide +kernel
theorem dX7_memberNow_15 : decode (mc mX7_memberNow) 15 = .ok (.iload_n 2, 1) := by decide +kernel
theorem dX7_memberNow_16 : decode (mc mX7_memberNow) 16 = .ok (.iadd, 1) := by decide +kernel
theorem dX7_memberNow_17 : decode (mc mX7_memberNow) 17 = .ok (.iaload, 1) := by decide +kernel
theorem dX7_memberNow_18 : decode (mc mX7_memberNow) 18 = .ok (.ireturn, 1) := by decide +kernel
theorem dX7_memberNow_19 : decode (mc mX7_memberNow) 19 = .ok (.iconst 0, 1) := by decide +kernel
theorem dX7_memberNow_20 : decode (mc mX7_memberNow) 20 = .ok (.istore_n 3, 1) := by decide +kernel
theorem dX7_memberNow_21 : decode (mc mX7_memberNow) 21 = .ok (.iconst 0, 1) := by decide +kernel
theorem dX7_memberNow_22 : decode (mc mX7_memberNow) 22 = .ok (.istore 4, 2) := by decide +kernel
theorem dX7_memberNow_24 : decode (mc mX7_memberNow) 24 = .ok (.iload 4, 2) := by decide +kernel
theorem dX7_memberNow_26 : decode (mc mX7_memberNow) 26 = .ok (.aload_n 0, 1) := by decide +kernel
theorem dX7_memberNow_27 : decode (mc mX7_memberNow) 27 = .ok (.getfield 7, 3) := by decide +kernel
theorem dX7_memberNow_30 : decode (mc mX7_memberNow) 30 = .ok (.iconst 1, 1) := by decide +kernel
theorem dX7_memberNow_31 : decode (mc mX7_memberNow) 31 = .ok (.iaload, 1) := by decide +kernel
theorem dX7_memberNow_32 : decode (mc mX7_memberNow) 32 = .ok (.if_icmp .ge 39, 3) := by decide +kernel
theorem dX7_memberNow_35 : decode (mc mX7_memberNow) 35 = .ok (.iload_n 2, 1) := by decide +kernel
theorem dX7_memberNow_36 : decode (mc mX7_memberNow) 36 = .ok (.iconst 2, 1) := by decide +kernel
theorem dX7_memberNow_37 : decode (mc mX7_memberNow) 37 = .ok (.if_icmp .ne 34, 3) := by decide +kernel
theorem dX7_memberNow_40 : decode (mc mX7_memberNow) 40 = .ok (.iload_n 3, 1) := by decide +kernel
theorem dX7_memberNow_41 : decode (mc mX7_memberNow) 41 = .ok (.aload_n 0, 1) := by decide +kernel
theorem dX7_memberNow_42 : decode (mc mX7_memberNow) 42 = .ok (.iload 4, 2) := by decide +kernel
theorem dX7_memberNow_44 : decode (mc mX7_memberNow) 44 = .ok (.iconst 0, 1) := by decide +kernel
theorem dX7_memberNow_45 : decode (mc mX7_memberNow) 45 = .ok (.invokevirtual 49, 3) := by decide +kernel
theorem dX7_memberNow_48 : decode (mc mX7_memberNow) 48 = .ok (.iload_n 1, 1) := by decide +kernel
theorem dX7_memberNow_49 : decode (mc mX7_memberNow) 49 = .ok (.if_icmp .ne 13, 3) := by decide +kernel
theorem dX7_memberNow_52 : decode (mc mX7_memberNow) 52 = .ok (.aload_n 0, 1) := by decide +kernel
theorem dX7_memberNow_53 : decode (mc mX7_memberNow) 53 = .ok (.iload 4, 2) := by decide +kernel
theorem dX7_memberNow_55 : decode (mc mX7_memberNow) 55 = .ok (.iconst 4, 1) := by decide +kernel
theorem dX7_memberNow_56 : decode (mc mX7_memberNow) 56 = .ok (.invokevirtual 49, 3) := by decide +kernel
theorem dX7_memberNow_59 : decode (mc mX7_memberNow) 59 = .ok (.goto 4, 3) := by decide +kernel
theorem dX7_memberNow_62 : decode (mc mX7_memberNow) 62 = .ok (.iconst 0, 1) := by decide +kernel
theorem dX7_memberNow_63 : decode (mc mX7_memberNow) 63 = .ok (.iadd, 1) := by decide +kernel
theorem dX7_memberNow_64 : decode (mc mX7_memberNow) 64 = .ok (.istore_n 3, 1) := by decide +kernel
theorem dX7_memberNow_65 : decode (mc mX7_memberNow) 65 = .ok (.iinc 4 1, 3) := by decide +kernel
theorem dX7_memberNow_68 : decode (mc mX7_memberNow) 68 = .ok (.goto (-44), 3) := by decide +kernel
theorem dX7_memberNow_71 : decode (mc mX7_memberNow) 71 = .ok (.iconst 0, 1) := by decide +kernel
theorem dX7_memberNow_72 : decode (mc mX7_memberNow) 72 = .ok (.istore 4, 2) := by decide +kernel
theorem dX7_memberNow_74 : decode (mc mX7_memberNow) 74 = .ok (.iload 4, 2) := by decide +kernel
theorem dX7_memberNow_76 : decode (mc mX7_memberNow) 76 = .ok (.aload_n 0, 1) := by decide +kernel
theorem dX7_memberNow_77 : decode (mc mX7_memberNow) 77 = .ok (.getfield 7, 3) := by decide +kernel
theorem dX7_memberNow_80 : decode (mc mX7_memberNow) 80 = .ok (.iconst 2, 1) := by decide +kernel
theorem dX7_memberNow_81 : decode (mc mX7_memberNow) 81 = .ok (.iaload, 1) := by decide +kernel
theorem dX7_memberNow_82 : decode (mc mX7_memberNow) 82 = .ok (.if_icmp .ge 65, 3) := by decide +kernel
theorem dX7_memberNow_85 : decode (mc mX7_memberNow) 85 = .ok (.iload_n 2, 1) := by decide +kernel
theorem dX7_memberNow_86 : decode (mc mX7_memberNow) 86 = .ok (.iconst 2, 1) := by decide +kernel
theorem dX7_memberNow_87 : decode (mc mX7_memberNow) 87 = .ok (.if_icmp .le 60, 3) := by decide +kernel
theorem dX7_memberNow_90 : decode (mc mX7_memberNow) 90 = .ok (.iload_n 3, 1) := by decide +kernel
theorem dX7_memberNow_91 : decode (mc mX7_memberNow) 91 = .ok (.iload_n 2, 1) := by decide +kernel
theorem dX7_memberNow_92 : decode (mc mX7_memberNow) 92 = .ok (.iconst 3, 1) := by decide +kernel
theorem dX7_memberNow_93 : decode (mc mX7_memberNow) 93 = .ok (.if_icmp .ne 22, 3) := by decide +kernel
theorem dX7_memberNow_96 : decode (mc mX7_memberNow) 96 = .ok (.aload_n 0, 1) := by decide +kernel
theorem dX7_memberNow_97 : decode (mc mX7_memberNow) 97 = .ok (.iload 4, 2) := by decide +kernel
theorem dX7_memberNow_99 : decode (mc mX7_memberNow) 99 = .ok (.iconst 0, 1) := by decide +kernel
theorem dX7_memberNow_100 : decode (mc mX7_memberNow) 100 = .ok (.invokevirtual 100, 3) := by decide +kernel
theorem dX7_memberNow_103 : decode (mc mX7_memberNow) 103 = .ok (.iload_n 1, 1) := by decide +kernel
theorem dX7_memberNow_104 : decode (mc mX7_memberNow) 104 = .ok (.if_icmp .ne 7, 3) := by decide +kernel
theorem dX7_memberNow_107 : decode (mc mX7_memberNow) 107 = .ok (.iconst 1, 1) := by decide +kernel
theorem dX7_memberNow_108 : decode (mc mX7_memberNow) 108 = .ok (.goto 31, 3) := by decide +kernel
theorem dX7_memberNow_111 : decode (mc mX7_memberNow) 111 = .ok (.iconst 0, 1) := by decide +kernel
theorem dX7_memberNow_112 : decode (mc mX7_memberNow) 112 = .ok (.goto 27, 3) := by decide +kernel
theorem dX7_memberNow_115 : decode (mc mX7_memberNow) 115 = .ok (.aload_n 0, 1) := by decide +kernel
theorem dX7_memberNow_116 : decode (mc mX7_memberNow) 116 = .ok (.iload 4, 2) := by decide +kernel
theorem dX7_memberNow_118 : decode (mc mX7_memberNow) 118 = .ok (.iconst 5, 1) := by decide +kernel
theorem dX7_memberNow_119 : decode (mc mX7_memberNow) 119 = .ok (.invokevirtual 100, 3) := by decide +kernel
theorem dX7_memberNow_122 : decode (mc mX7_memberNow) 122 = .ok (.ifCond .ne 16, 3) := by decide +kernel
theorem dX7_memberNow_125 : decode (mc mX7_memberNow) 125 = .ok (.aload_n 0, 1) := by decide +kernel
theorem dX7_memberNow_126 : decode (mc mX7_memberNow) 126 = .ok (.iload 4, 2) := by decide +kernel
theorem dX7_memberNow_128 : decode (mc mX7_memberNow) 128 = .ok (.bipush 7, 2) := by decide +kernel
theorem dX7_memberNow_130 : decode (mc mX7_memberNow) 130 = .ok (.iload_n 1, 1) := by decide +kernel
theorem dX7_memberNow_131 : decode (mc mX7_memberNow) 131 = .ok (.iadd, 1) := by decide +kernel
theorem dX7_memberNow_132 : decode (mc mX7_memberNow) 132 = .ok (.invokevirtual 100, 3) := by decide +kernel
theorem dX7_memberNow_135 : decode (mc mX7_memberNow) 135 = .ok (.goto 4, 3) := by decide +kernel
theorem dX7_memberNow_138 : decode (mc mX7_memberNow) 138 = .ok (.iconst 0, 1) := by decide +kernel
theorem dX7_memberNow_139 : decode (mc mX7_memberNow) 139 = .ok (.iadd, 1) := by decide +kernel
theorem dX7_memberNow_140 : decode (mc mX7_memberNow) 140 = .ok (.istore_n 3, 1) := by decide +kernel
theorem dX7_memberNow_141 : decode (mc mX7_memberNow) 141 = .ok (.iinc 4 1, 3) := by decide +kernel
theorem dX7_memberNow_144 : decode (mc mX7_memberNow) 144 = .ok (.goto (-70), 3) := by decide +kernel
theorem dX7_memberNow_147 : decode (mc mX7_memberNow) 147 = .ok (.iload_n 3, 1) := by decide +kernel
theorem dX7_memberNow_148 : decode (mc mX7_memberNow) 148 = .ok (.ireturn, 1) := by decide +kernel
theorem dX7_member_0 : decode (mc mX7_member) 0 = .ok (.aload_n 0, 1) := by decide +kernel
theorem dX7_member_1 : decode (mc mX7_member) 1 = .ok (.iload_n 1, 1) := by decide +kernel
theorem dX7_member_2 : decode (mc mX7_member) 2 = .ok (.invokevirtual 83, 3) := by decide +kernel
theorem dX7_member_5 : decode (mc mX7_member) 5 = .ok (.ifCond .ne 6, 3) := by decide +kernel
theorem dX7_member_8 : decode (mc mX7_member) 8 = .ok (.ldc 87, 2) := by decide +kernel
theorem dX7_member_10 : decode (mc mX7_member) 10 = .ok (.ireturn, 1) := by decide +kernel
theorem dX7_member_11 : decode (mc mX7_member) 11 = .ok (.iload_n 2, 1) := by decide +kernel
theorem dX7_member_12 : decode (mc mX7_member) 12 = .ok (.iconst 0, 1) := by decide +kernel
theorem dX7_member_13 : decode (mc mX7_member) 13 = .ok (.iconst 4, 1) := by decide +kernel
theorem dX7_member_14 : decode (mc mX7_member) 14 = .ok (.invokestatic 45, 3) := by decide +kernel
theorem dX7_member_17 : decode (mc mX7_member) 17 = .ok (.ifCond .eq 12, 3) := by decide +kernel
theorem dX7_member_20 : decode (mc mX7_member) 20 = .ok (.aload_n 0, 1) := by decide +kernel
theorem dX7_member_21 : decode (mc mX7_member) 21 = .ok (.iload_n 1, 1) := by decide +kernel
theorem dX7_member_22 : decode (mc mX7_member) 22 = .ok (.iload_n 2, 1) := by decide +kernel
theorem dX7_member_23 : decode (mc mX7_member) 23 = .ok (.invokevirtual 118, 3) := by decide +kernel
theorem dX7_member_26 : decode (mc mX7_member) 26 = .ok (.goto 5, 3) := by decide +kernel
theorem dX7_member_29 : decode (mc mX7_member) 29 = .ok (.ldc 88, 2) := by decide +kernel
theorem dX7_member_31 : decode (mc mX7_member) 31 = .ok (.ireturn, 1) := by decide +kernel
theorem dX7_addPhrase_0 : decode (mc mX7_addPhrase) 0 = .ok (.aload_n 0, 1) := by decide +kernel
theorem dX7_addPhrase_1 : decode (mc mX7_addPhrase) 1 = .ok (.iload_n 1, 1) := by decide +kernel
theorem dX7_addPhrase_2 : decode (mc mX7_addPhrase) 2 = .ok (.invokevirtual 83, 3) := by decide +kernel
theorem dX7_addPhrase_5 : decode (mc mX7_addPhrase) 5 = .ok (.ifCond .eq 17, 3) := by decide +kernel
theorem dX7_addPhrase_8 : decode (mc mX7_addPhrase) 8 = .ok (.iload_n 3, 1) := by decide +kernel
theorem dX7_addPhrase_9 : decode (mc mX7_addPhrase) 9 = .ok (.ldc 121, 2) := by decide +kernel
theorem dX7_addPhrase_11 : decode (mc mX7_addPhrase) 11 = .ok (.if_icmp .eq 14, 3) := by decide +kernel
theorem dX7_addPhrase_14 : decode (mc mX7_addPhrase) 14 = .ok (.aload_n 0, 1) := by decide +kernel
theorem dX7_addPhrase_15 : decode (mc mX7_addPhrase) 15 = .ok (.iload_n 3, 1) := by decide +kernel
theorem dX7_addPhrase_16 : decode (mc mX7_addPhrase) 16 = .ok (.invokevirtual 122, 3) := by decide +kernel
theorem dX7_addPhrase_19 : decode (mc mX7_addPhrase) 19 = .ok (.ifCond .ne 6, 3) := by decide +kernel
theorem dX7_addPhrase_22 : decode (mc mX7_addPhrase) 22 = .ok (.ldc 87, 2) := by decide +kernel
theorem dX7_addPhrase_24 : decode (mc mX7_addPhrase) 24 = .ok (.ireturn, 1) := by decide +kernel
theorem dX7_addPhrase_25 : decode (mc mX7_addPhrase) 25 = .ok (.iload_n 2, 1) := by decide +kernel
theorem dX7_addPhrase_26 : decode (mc mX7_addPhrase) 26 = .ok (.iconst 0, 1) := by decide +kernel
theorem dX7_addPhrase_27 : decode (mc mX7_addPhrase) 27 = .ok (.sipush 999, 3) := by decide +kernel
theorem dX7_addPhrase_30 : decode (mc mX7_addPhrase) 30 = .ok (.invokestatic 45, 3) := by decide +kernel
theorem dX7_addPhrase_33 : decode (mc mX7_addPhrase) 33 = .ok (.ifCond .ne 6, 3) := by decide +kernel
theorem dX7_addPhrase_36 : decode (mc mX7_addPhrase) 36 = .ok (.ldc 88, 2) := by decide +kernel
theorem dX7_addPhrase_38 : decode (mc mX7_addPhrase) 38 = .ok (.ireturn, 1) := by decide +kernel
theorem dX7_addPhrase_39 : decode (mc mX7_addPhrase) 39 = .ok (.aload_n 0, 1) := by decide +kernel
theorem dX7_addPhrase_40 : decode (mc mX7_addPhrase) 40 = .ok (.invokevirtual 125, 3) := by decide +kernel
theorem dX7_addPhrase_43 : decode (mc mX7_addPhrase) 43 = .ok (.ldc 121, 2) := by decide +kernel
theorem dX7_addPhrase_45 : decode (mc mX7_addPhrase) 45 = .ok (.if_icmp .ne 18, 3) := by decide +kernel
theorem dX7_addPhrase_48 : decode (mc mX7_addPhrase) 48 = .ok (.iload_n 3, 1) := by decide +kernel
theorem dX7_addPhrase_49 : decode (mc mX7_addPhrase) 49 = .ok (.ldc 121, 2) := by decide +kernel
theorem dX7_addPhrase_51 : decode (mc mX7_addPhrase) 51 = .ok (.if_icmp .eq 15, 3) := by decide +kernel
theorem dX7_addPhrase_54 : decode (mc mX7_addPhrase) 54 = .ok (.aload_n 0, 1) := by decide +kernel
theorem dX7_addPhrase_55 : decode (mc mX7_addPhrase) 55 = .ok (.iload_n 3, 1) := by decide +kernel
theorem dX7_addPhrase_56 : decode (mc mX7_addPhrase) 56 = .ok (.iconst 4, 1) := by decide +kernel
theorem dX7_addPhrase_57 : decode (mc mX7_addPhrase) 57 = .ok (.invokevirtual 49, 3) := by decide +kernel
theorem dX7_addPhrase_60 : decode (mc mX7_addPhrase) 60 = .ok (.ifCond .ne 6, 3) := by decide +kernel
theorem dX7_addPhrase_63 : decode (mc mX7_addPhrase) 63 = .ok (.ldc 128, 2) := by decide +kernel
theorem dX7_addPhrase_65 : decode (mc mX7_addPhrase) 65 = .ok (.ireturn, 1) := by decide +kernel
theorem dX7_addPhrase_66 : decode (mc mX7_addPhrase) 66 = .ok (.aload_n 0, 1) := by decide +kernel
theorem dX7_addPhrase_67 : decode (mc mX7_addPhrase) 67 = .ok (.getfield 7, 3) := by decide +kernel
theorem dX7_addPhrase_70 : decode (mc mX7_addPhrase) 70 = .ok (.iconst 1, 1) := by decide +kernel
theorem dX7_addPhrase_71 : decode (mc mX7_addPhrase) 71 = .ok (.iaload, 1) := by decide +kernel
theorem dX7_addPhrase_72 : decode (mc mX7_addPhrase) 72 = .ok (.bipush 20, 2) := by decide +kernel
theorem dX7_addPhrase_74 : decode (mc mX7_addPhrase) 74 = .ok (.if_icmp .ne 6, 3) := by decide +kernel
theorem dX7_addPhrase_77 : decode (mc mX7_addPhrase) 77 = .ok (.ldc 79, 2) := by decide +kernel
theorem dX7_addPhrase_79 : decode (mc mX7_addPhrase) 79 = .ok (.ireturn, 1) := by decide +kernel
theorem dX7_addPhrase_80 : decode (mc mX7_addPhrase) 80 = .ok (.aload_n 0, 1) := by decide +kernel
theorem dX7_addPhrase_81 : decode (mc mX7_addPhrase) 81 = .ok (.invokevirtual 80, 3) := by decide +kernel
theorem dX7_addPhrase_84 : decode (mc mX7_addPhrase) 84 = .ok (.bipush 22, 2) := by decide +kernel
theorem dX7_addPhrase_86 : decode (mc mX7_addPhrase) 86 = .ok (.bipush 16, 2) := by decide +kernel
theorem dX7_addPhrase_88 : decode (mc mX7_addPhrase) 88 = .ok (.aload_n 0, 1) := by decide +kernel
theorem dX7_addPhrase_89 : decode (mc mX7_addPhrase) 89 = .ok (.getfield 7, 3) := by decide +kernel
theorem dX7_addPhrase_92 : decode (mc mX7_addPhrase) 92 = .ok (.iconst 1, 1) := by decide +kernel
theorem dX7_addPhrase_93 : decode (mc mX7_addPhrase) 93 = .ok (.iaload, 1) := by decide +kernel
theorem dX7_addPhrase_94 : decode (mc mX7_addPhrase) 94 = .ok (.imul, 1) := by decide +kernel
theorem dX7_addPhrase_95 : decode (mc mX7_addPhrase) 95 = .ok (.iadd, 1) := by decide +kernel
theorem dX7_addPhrase_96 : decode (mc mX7_addPhrase) 96 = .ok (.istore 4, 2) := by decide +kernel
theorem dX7_addPhrase_98 : decode (mc mX7_addPhrase) 98 = .ok (.aload_n 0, 1) := by decide +kernel
theorem dX7_addPhrase_99 : decode (mc mX7_addPhrase) 99 = .ok (.invokevirtual 76, 3) := by decide +kernel
theorem dX7_addPhrase_102 : decode (mc mX7_addPhrase) 102 = .ok (.aload_n 0, 1) := by decide +kernel
theorem dX7_addPhrase_103 : decode (mc mX7_addPhrase) 103 = .ok (.getfield 7, 3) := by decide +kernel
theorem dX7_addPhrase_106 : decode (mc mX7_addPhrase) 106 = .ok (.iload 4, 2) := by decide +kernel
theorem dX7_addPhrase_108 : decode (mc mX7_addPhrase) 108 = .ok (.iconst 0, 1) := by decide +kernel
theorem dX7_addPhrase_109 : decode (mc mX7_addPhrase) 109 = .ok (.iadd, 1) := by decide +kernel
theorem dX7_addPhrase_110 : decode (mc mX7_addPhrase) 110 = .ok (.iload_n 1, 1) := by decide +kernel
theorem dX7_addPhrase_111 : decode (mc mX7_addPhrase) 111 = .ok (.iastore, 1) := by decide +kernel
theorem dX7_addPhrase_112 : decode (mc mX7_addPhrase) 112 = .ok (.aload_n 0, 1) := by decide +kernel
theorem dX7_addPhrase_113 : decode (mc mX7_addPhrase) 113 = .ok (.getfield 7, 3) := by decide +kernel
theorem dX7_addPhrase_116 : decode (mc mX7_addPhrase) 116 = .ok (.iload 4, 2) := by decide +kernel
theorem dX7_addPhrase_118 : decode (mc mX7_addPhrase) 118 = .ok (.iconst 1, 1) := by decide +kernel
theorem dX7_addPhrase_119 : decode (mc mX7_addPhrase) 119 = .ok (.iadd, 1) := by decide +kernel
theorem dX7_addPhrase_120 : decode (mc mX7_addPhrase) 120 = .ok (.aload_n 0, 1) := by decide +kernel
theorem dX7_addPhrase_121 : decode (mc mX7_addPhrase) 121 = .ok (.getfield 53, 3) := by decide +kernel
theorem dX7_addPhrase_124 : decode (mc mX7_addPhrase) 124 = .ok (.iastore, 1) := by decide +kernel
theorem dX7_addPhrase_125 : decode (mc mX7_addPhrase) 125 = .ok (.aload_n 0, 1) := by decide +kernel
theorem dX7_addPhrase_126 : decode (mc mX7_addPhrase) 126 = .ok (.getfield 7, 3) := by decide +kernel
theorem dX7_addPhrase_129 : decode (mc mX7_addPhrase) 129 = .ok (.iload 4, 2) := by decide +kernel
theorem dX7_addPhrase_131 : decode (mc mX7_addPhrase) 131 = .ok (.iconst 2, 1) := by decide +kernel
theorem dX7_addPhrase_132 : decode (mc mX7_addPhrase) 132 = .ok (.iadd, 1) := by decide +kernel
theorem dX7_addPhrase_133 : decode (mc mX7_addPhrase) 133 = .ok (.iload_n 2, 1) := by decide +kernel
theorem dX7_addPhrase_134 : decode (mc mX7_addPhrase) 134 = .ok (.iastore, 1) := by decide +kernel
theorem dX7_addPhrase_135 : decode (mc mX7_addPhrase) 135 = .ok (.aload_n 0, 1) := by decide +kernel
theorem dX7_addPhrase_136 : decode (mc mX7_addPhrase) 136 = .ok (.getfield 7, 3) := by decide +kernel
theorem dX7_addPhrase_139 : decode (mc mX7_addPhrase) 139 = .ok (.iload 4, 2) := by decide +kernel
theorem dX7_addPhrase_141 : decode (mc mX7_addPhrase) 141 = .ok (.iconst 3, 1) := by decide +kernel
theorem dX7_addPhrase_142 : decode (mc mX7_addPhrase) 142 = .ok (.iadd, 1) := by decide +kernel
theorem dX7_addPhrase_143 : decode (mc mX7_addPhrase) 143 = .ok (.iload_n 3, 1) := by decide +kernel
theorem dX7_addPhrase_144 : decode (mc mX7_addPhrase) 144 = .ok (.iastore, 1) := by decide +kernel
theorem dX7_addPhrase_145 : decode (mc mX7_addPhrase) 145 = .ok (.aload_n 0, 1) := by decide +kernel
theorem dX7_addPhrase_146 : decode (mc mX7_addPhrase) 146 = .ok (.getfield 7, 3) := by decide +kernel
theorem dX7_addPhrase_149 : decode (mc mX7_addPhrase) 149 = .ok (.iload 4, 2) := by decide +kernel
theorem dX7_addPhrase_151 : decode (mc mX7_addPhrase) 151 = .ok (.iconst 4, 1) := by decide +kernel
theorem dX7_addPhrase_152 : decode (mc mX7_addPhrase) 152 = .ok (.iadd, 1) := by decide +kernel
theorem dX7_addPhrase_153 : decode (mc mX7_addPhrase) 153 = .ok (.iconst 1, 1) := by decide +kernel
theorem dX7_addPhrase_154 : decode (mc mX7_addPhrase) 154 = .ok (.iastore, 1) := by decide +kernel
theorem dX7_addPhrase_155 : decode (mc mX7_addPhrase) 155 = .ok (.aload_n 0, 1) := by decide +kernel
theorem dX7_addPhrase_156 : decode (mc mX7_addPhrase) 156 = .ok (.getfield 7, 3) := by decide +kernel
theorem dX7_addPhrase_159 : decode (mc mX7_addPhrase) 159 = .ok (.iload 4, 2) := by decide +kernel
theorem dX7_addPhrase_161 : decode (mc mX7_addPhrase) 161 = .ok (.iconst 5, 1) := by decide +kernel
theorem dX7_addPhrase_162 : decode (mc mX7_addPhrase) 162 = .ok (.iadd, 1) := by decide +kernel
theorem dX7_addPhrase_163 : decode (mc mX7_addPhrase) 163 = .ok (.iconst 0, 1) := by decide +kernel
theorem dX7_addPhrase_164 : decode (mc mX7_addPhrase) 164 = .ok (.iastore, 1) := by decide +kernel
theorem dX7_addPhrase_165 : decode (mc mX7_addPhrase) 165 = .ok (.iconst 0, 1) := by decide +kernel
theorem dX7_addPhrase_166 : decode (mc mX7_addPhrase) 166 = .ok (.istore 5, 2) := by decide +kernel
theorem dX7_addPhrase_168 : decode (mc mX7_addPhrase) 168 = .ok (.iload 5, 2) := by decide +kernel
theorem dX7_addPhrase_170 : decode (mc mX7_addPhrase) 170 = .ok (.aload_n 0, 1) := by decide +kernel
theorem dX7_addPhrase_171 : decode (mc mX7_addPhrase) 171 = .ok (.getfield 53, 3) := by decide +kernel
theorem dX7_addPhrase_174 : decode (mc mX7_addPhrase) 174 = .ok (.if_icmp .ge 29, 3) := by decide +kernel
theorem dX7_addPhrase_177 : decode (mc mX7_addPhrase) 177 = .ok (.aload_n 0, 1) := by decide +kernel
theorem dX7_addPhrase_178 : decode (mc mX7_addPhrase) 178 = .ok (.getfield 7, 3) := by decide +kernel
theorem dX7_addPhrase_181 : decode (mc mX7_addPhrase) 181 = .ok (.iload 4, 2) := by decide +kernel
theorem dX7_addPhrase_183 : decode (mc mX7_addPhrase) 183 = .ok (.bipush 6, 2) := by decide +kernel
theorem dX7_addPhrase_185 : decode (mc mX7_addPhrase) 185 = .ok (.iadd, 1) := by decide +kernel
theorem dX7_addPhrase_186 : decode (mc mX7_addPhrase) 186 = .ok (.iload 5, 2) := by decide +kernel
theorem dX7_addPhrase_188 : decode (mc mX7_addPhrase) 188 = .ok (.iadd, 1) := by decide +kernel
theorem dX7_addPhrase_189 : decode (mc mX7_addPhrase) 189 = .ok (.aload_n 0, 1) := by decide +kernel
theorem dX7_addPhrase_190 : decode (mc mX7_addPhrase) 190 = .ok (.getfield 13, 3) := by decide +kernel
theorem dX7_addPhrase_193 : decode (mc mX7_addPhrase) 193 = .ok (.iload 5, 2) := by decide +kernel
theorem dX7_addPhrase_195 : decode (mc mX7_addPhrase) 195 = .ok (.iaload, 1) := by decide +kernel
theorem dX7_addPhrase_196 : decode (mc mX7_addPhrase) 196 = .ok (.iastore, 1) := by decide +kernel
theorem dX7_addPhrase_197 : decode (mc mX7_addPhrase) 197 = .ok (.iinc 5 1, 3) := by decide +kernel
theorem dX7_addPhrase_200 : decode (mc mX7_addPhrase) 200 = .ok (.goto (-32), 3) := by decide +kernel
theorem dX7_addPhrase_203 : decode (mc mX7_addPhrase) 203 = .ok (.aload_n 0, 1) := by decide +kernel
theorem dX7_addPhrase_204 : decode (mc mX7_addPhrase) 204 = .ok (.getfield 7, 3) := by decide +kernel
theorem dX7_addPhrase_207 : decode (mc mX7_addPhrase) 207 = .ok (.iconst 1, 1) := by decide +kernel
theorem dX7_addPhrase_208 : decode (mc mX7_addPhrase) 208 = .ok (.dup2, 1) := by decide +kernel
theorem dX7_addPhrase_209 : decode (mc mX7_addPhrase) 209 = .ok (.iaload, 1) := by decide +kernel
theorem dX7_addPhrase_210 : decode (mc mX7_addPhrase) 210 = .ok (.iconst 1, 1) := by decide +kernel
theorem dX7_addPhrase_211 : decode (mc mX7_addPhrase) 211 = .ok (.iadd, 1) := by decide +kernel
theorem dX7_addPhrase_212 : decode (mc mX7_addPhrase) 212 = .ok (.iastore, 1) := by decide +kernel
theorem dX7_addPhrase_213 : decode (mc mX7_addPhrase) 213 = .ok (.aload_n 0, 1) := by decide +kernel
theorem dX7_addPhrase_214 : decode (mc mX7_addPhrase) 214 = .ok (.getfield 7, 3) := by decide +kernel
theorem dX7_addPhrase_217 : decode (mc mX7_addPhrase) 217 = .ok (.iconst 1, 1) := by decide +kernel
theorem dX7_addPhrase_218 : decode (mc mX7_addPhrase) 218 = .ok (.iaload, 1) := by decide +kernel
theorem dX7_addPhrase_219 : decode (mc mX7_addPhrase) 219 = .ok (.iconst 1, 1) := by decide +kernel
theorem dX7_addPhrase_220 : decode (mc mX7_addPhrase) 220 = .ok (.isub, 1) := by decide +kernel
theorem dX7_addPhrase_221 : decode (mc mX7_addPhrase) 221 = .ok (.ireturn, 1) := by decide +kernel
theorem dX7_phrase_0 : decode (mc mX7_phrase) 0 = .ok (.aload_n 0, 1) := by decide +kernel
theorem dX7_phrase_1 : decode (mc mX7_phrase) 1 = .ok (.iload_n 1, 1) := by decide +kernel
theorem dX7_phrase_2 : decode (mc mX7_phrase) 2 = .ok (.invokevirtual 122, 3) := by decide +kernel
theorem dX7_phrase_5 : decode (mc mX7_phrase) 5 = .ok (.ifCond .ne 6, 3) := by decide +kernel
theorem dX7_phrase_8 : decode (mc mX7_phrase) 8 = .ok (.ldc 87, 2) := by decide +kernel
theorem dX7_phrase_10 : decode (mc mX7_phrase) 10 = .ok (.ireturn, 1) := by decide +kernel
theorem dX7_phrase_11 : decode (mc mX7_phrase) 11 = .ok (.iload_n 2, 1) := by decide +kernel
theorem dX7_phrase_12 : decode (mc mX7_phrase) 12 = .ok (.iconst 0, 1) := by decide +kernel
theorem dX7_phrase_13 : decode (mc mX7_phrase) 13 = .ok (.bipush 6, 2) := by decide +kernel
theorem dX7_phrase_15 : decode (mc mX7_phrase) 15 = .ok (.invokestatic 45, 3) := by decide +kernel
theorem dX7_phrase_18 : decode (mc mX7_phrase) 18 = .ok (.ifCond .ne 6, 3) := by decide +kernel
theorem dX7_phrase_21 : decode (mc mX7_phrase) 21 = .ok (.ldc 88, 2) := by decide +kernel
theorem dX7_phrase_23 : decode (mc mX7_phrase) 23 = .ok (.ireturn, 1) := by decide +kernel
theorem dX7_phrase_24 : decode (mc mX7_phrase) 24 = .ok (.iload_n 2, 1) := by decide +kernel
theorem dX7_phrase_25 : decode (mc mX7_phrase) 25 = .ok (.bipush 6, 2) := by decide +kernel
theorem dX7_phrase_27 : decode (mc mX7_phrase) 27 = .ok (.if_icmp .ge 12, 3) := by decide +kernel
theorem dX7_phrase_30 : decode (mc mX7_phrase) 30 = .ok (.aload_n 0, 1) := by decide +kernel
theorem dX7_phrase_31 : decode (mc mX7_phrase) 31 = .ok (.iload_n 1, 1) := by decide +kernel
theorem dX7_phrase_32 : decode (mc mX7_phrase) 32 = .ok (.iload_n 2, 1) := by decide +kernel
theorem dX7_phrase_33 : decode (mc mX7_phrase) 33 = .ok (.invokevirtual 49, 3) := by decide +kernel
theorem dX7_phrase_36 : decode (mc mX7_phrase) 36 = .ok (.goto 8, 3) := by decide +kernel
theorem dX7_phrase_39 : decode (mc mX7_phrase) 39 = .ok (.aload_n 0, 1) := by decide +kernel
theorem dX7_phrase_40 : decode (mc mX7_phrase) 40 = .ok (.iload_n 1, 1) := by decide +kernel
theorem dX7_phrase_41 : decode (mc mX7_phrase) 41 = .ok (.invokevirtual 103, 3) := by decide +kernel
theorem dX7_phrase_44 : decode (mc mX7_phrase) 44 = .ok (.ireturn, 1) := by decide +kernel
theorem dX7_word_0 : decode (mc mX7_word) 0 = .ok (.aload_n 0, 1) := by decide +kernel
theorem dX7_word_1 : decode (mc mX7_word) 1 = .ok (.iload_n 1, 1) := by decide +kernel
theorem dX7_word_2 : decode (mc mX7_word) 2 = .ok (.invokevirtual 122, 3) := by decide +kernel
theorem dX7_word_5 : decode (mc mX7_word) 5 = .ok (.ifCond .ne 6, 3) := by decide +kernel
theorem dX7_word_8 : decode (mc mX7_word) 8 = .ok (.ldc 87, 2) := by decide +kernel
theorem dX7_word_10 : decode (mc mX7_word) 10 = .ok (.ireturn, 1) := by decide +kernel
theorem dX7_word_11 : decode (mc mX7_word) 11 = .ok (.iload_n 2, 1) := by decide +kernel
theorem dX7_word_12 : decode (mc mX7_word) 12 = .ok (.ifCond .ge 6, 3) := by decide +kernel
theorem dX7_word_15 : decode (mc mX7_word) 15 = .ok (.ldc 88, 2) := by decide +kernel
theorem dX7_word_17 : decode (mc mX7_word) 17 = .ok (.ireturn, 1) := by decide +kernel
theorem dX7_word_18 : decode (mc mX7_word) 18 = .ok (.iload_n 2, 1) := by decide +kernel
theorem dX7_word_19 : decode (mc mX7_word) 19 = .ok (.aload_n 0, 1) := by decide +kernel
theorem dX7_word_20 : decode (mc mX7_word) 20 = .ok (.iload_n 1, 1) := by decide +kernel
theorem dX7_word_21 : decode (mc mX7_word) 21 = .ok (.iconst 1, 1) := by decide +kernel
theorem dX7_word_22 : decode (mc mX7_word) 22 = .ok (.invokevirtual 49, 3) := by decide +kernel
theorem dX7_word_25 : decode (mc mX7_word) 25 = .ok (.if_icmp .ge 15, 3) := by decide +kernel
theorem dX7_word_28 : decode (mc mX7_word) 28 = .ok (.aload_n 0, 1) := by decide +kernel
theorem dX7_word_29 : decode (mc mX7_word) 29 = .ok (.iload_n 1, 1) := by decide +kernel
theorem dX7_word_30 : decode (mc mX7_word) 30 = .ok (.bipush 6, 2) := by decide +kernel
theorem dX7_word_32 : decode (mc mX7_word) 32 = .ok (.iload_n 2, 1) := by decide +kernel
theorem dX7_word_33 : decode (mc mX7_word) 33 = .ok (.iadd, 1) := by decide +kernel
theorem dX7_word_34 : decode (mc mX7_word) 34 = .ok (.invokevirtual 49, 3) := by decide +kernel
theorem dX7_word_37 : decode (mc mX7_word) 37 = .ok (.goto 5, 3) := by decide +kernel
theorem dX7_word_40 : decode (mc mX7_word) 40 = .ok (.ldc 121, 2) := by decide +kernel
theorem dX7_word_42 : decode (mc mX7_word) 42 = .ok (.ireturn, 1) := by decide +kernel
theorem dX7_score_0 : decode (mc mX7_score) 0 = .ok (.aload_n 0, 1) := by decide +kernel
theorem dX7_score_1 : decode (mc mX7_score) 1 = .ok (.iload_n 1, 1) := by decide +kernel
theorem dX7_score_2 : decode (mc mX7_score) 2 = .ok (.invokevirtual 122, 3) := by decide +kernel
theorem dX7_score_5 : decode (mc mX7_score) 5 = .ok (.ifCond .eq 20, 3) := by decide +kernel
theorem dX7_score_8 : decode (mc mX7_score) 8 = .ok (.aload_n 0, 1) := by decide +kernel
theorem dX7_score_9 : decode (mc mX7_score) 9 = .ok (.iload_n 2, 1) := by decide +kernel
theorem dX7_score_10 : decode (mc mX7_score) 10 = .ok (.invokevirtual 122, 3) := by decide +kernel
theorem dX7_score_13 : decode (mc mX7_score) 13 = .ok (.ifCond .eq 12, 3) := by decide +kernel
theorem dX7_score_16 : decode (mc mX7_score) 16 = .ok (.aload_n 0, 1) := by decide +kernel
theorem dX7_score_17 : decode (mc mX7_score) 17 = .ok (.iload_n 1, 1) := by decide +kernel
theorem dX7_score_18 : decode (mc mX7_score) 18 = .ok (.iload_n 2, 1) := by decide +kernel
theorem dX7_score_19 : decode (mc mX7_score) 19 = .ok (.invokevirtual 93, 3) := by decide +kernel
theorem dX7_score_22 : decode (mc mX7_score) 22 = .ok (.goto 5, 3) := by decide +kernel
theorem dX7_score_25 : decode (mc mX7_score) 25 = .ok (.ldc 87, 2) := by decide +kernel
theorem dX7_score_27 : decode (mc mX7_score) 27 = .ok (.ireturn, 1) := by decide +kernel
theorem dX7_gives_0 : decode (mc mX7_gives) 0 = .ok (.aload_n 0, 1) := by decide +kernel
theorem dX7_gives_1 : decode (mc mX7_gives) 1 = .ok (.iload_n 1, 1) := by decide +kernel
theorem dX7_gives_2 : decode (mc mX7_gives) 2 = .ok (.iconst 4, 1) := by decide +kernel
theorem dX7_gives_3 : decode (mc mX7_gives) 3 = .ok (.invokevirtual 49, 3) := by decide +kernel
theorem dX7_gives_6 : decode (mc mX7_gives) 6 = .ok (.iconst 1, 1) := by decide +kernel
theorem dX7_gives_7 : decode (mc mX7_gives) 7 = .ok (.if_icmp .ne 27, 3) := by decide +kernel
theorem dX7_gives_10 : decode (mc mX7_gives) 10 = .ok (.aload_n 0, 1) := by decide +kernel
theorem dX7_gives_11 : decode (mc mX7_gives) 11 = .ok (.iload_n 1, 1) := by decide +kernel
theorem dX7_gives_12 : decode (mc mX7_gives) 12 = .ok (.iconst 2, 1) := by decide +kernel
theorem dX7_gives_13 : decode (mc mX7_gives) 13 = .ok (.invokevirtual 49, 3) := by decide +kernel
theorem dX7_gives_16 : decode (mc mX7_gives) 16 = .ok (.iload_n 2, 1) := by decide +kernel
theorem dX7_gives_17 : decode (mc mX7_gives) 17 = .ok (.if_icmp .ne 17, 3) := by decide +kernel
theorem dX7_gives_20 : decode (mc mX7_gives) 20 = .ok (.aload_n 0, 1) := by decide +kernel
theorem dX7_gives_21 : decode (mc mX7_gives) 21 = .ok (.iload_n 1, 1) := by decide +kernel
theorem dX7_gives_22 : decode (mc mX7_gives) 22 = .ok (.invokevirtual 129, 3) := by decide +kernel
theorem dX7_gives_25 : decode (mc mX7_gives) 25 = .ok (.bipush 100, 2) := by decide +kernel
theorem dX7_gives_27 : decode (mc mX7_gives) 27 = .ok (.if_icmp .ne 7, 3) := by decide +kernel
theorem dX7_gives_30 : decode (mc mX7_gives) 30 = .ok (.iconst 1, 1) := by decide +kernel
theorem dX7_gives_31 : decode (mc mX7_gives) 31 = .ok (.goto 4, 3) := by decide +kernel
theorem dX7_gives_34 : decode (mc mX7_gives) 34 = .ok (.iconst 0, 1) := by decide +kernel
theorem dX7_gives_35 : decode (mc mX7_gives) 35 = .ok (.ireturn, 1) := by decide +kernel
theorem dX7_agreed_0 : decode (mc mX7_agreed) 0 = .ok (.aload_n 0, 1) := by decide +kernel
theorem dX7_agreed_1 : decode (mc mX7_agreed) 1 = .ok (.invokevirtual 125, 3) := by decide +kernel
theorem dX7_agreed_4 : decode (mc mX7_agreed) 4 = .ok (.ldc 121, 2) := by decide +kernel
theorem dX7_agreed_6 : decode (mc mX7_agreed) 6 = .ok (.if_icmp .eq 6, 3) := by decide +kernel
theorem dX7_agreed_9 : decode (mc mX7_agreed) 9 = .ok (.ldc 128, 2) := by decide +kernel
theorem dX7_agreed_11 : decode (mc mX7_agreed) 11 = .ok (.ireturn, 1) := by decide +kernel
theorem dX7_agreed_12 : decode (mc mX7_agreed) 12 = .ok (.ldc 121, 2) := by decide +kernel
theorem dX7_agreed_14 : decode (mc mX7_agreed) 14 = .ok (.istore_n 1, 1) := by decide +kernel
theorem dX7_agreed_15 : decode (mc mX7_agreed) 15 = .ok (.iconst 0, 1) := by decide +kernel
theorem dX7_agreed_16 : decode (mc mX7_agreed) 16 = .ok (.istore_n 2, 1) := by decide +kernel
theorem dX7_agreed_17 : decode (mc mX7_agreed) 17 = .ok (.iconst 0, 1) := by decide +kernel
theorem dX7_agreed_18 : decode (mc mX7_agreed) 18 = .ok (.istore_n 3, 1) := by decide +kernel
theorem dX7_agreed_19 : decode (mc mX7_agreed) 19 = .ok (.iload_n 3, 1) := by decide +kernel
theorem dX7_agreed_20 : decode (mc mX7_agreed) 20 = .ok (.aload_n 0, 1) := by decide +kernel
theorem dX7_agreed_21 : decode (mc mX7_agreed) 21 = .ok (.getfield 7, 3) := by decide +kernel
theorem dX7_agreed_24 : decode (mc mX7_agreed) 24 = .ok (.iconst 1, 1) := by decide +kernel
theorem dX7_agreed_25 : decode (mc mX7_agreed) 25 = .ok (.iaload, 1) := by decide +kernel
theorem dX7_agreed_26 : decode (mc mX7_agreed) 26 = .ok (.if_icmp .ge 143, 3) := by decide +kernel
theorem dX7_agreed_29 : decode (mc mX7_agreed) 29 = .ok (.aload_n 0, 1) := by decide +kernel
theorem dX7_agreed_30 : decode (mc mX7_agreed) 30 = .ok (.iload_n 3, 1) := by decide +kernel
theorem dX7_agreed_31 : decode (mc mX7_agreed) 31 = .ok (.iconst 2, 1) := by decide +kernel
theorem dX7_agreed_32 : decode (mc mX7_agreed) 32 = .ok (.invokevirtual 49, 3) := by decide +kernel
theorem dX7_agreed_35 : decode (mc mX7_agreed) 35 = .ok (.istore 4, 2) := by decide +kernel
theorem dX7_agreed_37 : decode (mc mX7_agreed) 37 = .ok (.iconst 0, 1) := by decide +kernel
theorem dX7_agreed_38 : decode (mc mX7_agreed) 38 = .ok (.istore 5, 2) := by decide +kernel
theorem dX7_agreed_40 : decode (mc mX7_agreed) 40 = .ok (.iconst 0, 1) := by decide +kernel
theorem dX7_agreed_41 : decode (mc mX7_agreed) 41 = .ok (.istore 6, 2) := by decide +kernel
theorem dX7_agreed_43 : decode (mc mX7_agreed) 43 = .ok (.iconst 0, 1) := by decide +kernel
theorem dX7_agreed_44 : decode (mc mX7_agreed) 44 = .ok (.istore 7, 2) := by decide +kernel
theorem dX7_agreed_46 : decode (mc mX7_agreed) 46 = .ok (.iload 7, 2) := by decide +kernel
theorem dX7_agreed_48 : decode (mc mX7_agreed) 48 = .ok (.aload_n 0, 1) := by decide +kernel
theorem dX7_agreed_49 : decode (mc mX7_agreed) 49 = .ok (.getfield 7, 3) := by decide +kernel
theorem dX7_agreed_52 : decode (mc mX7_agreed) 52 = .ok (.iconst 1, 1) := by decide +kernel
theorem dX7_agreed_53 : decode (mc mX7_agreed) 53 = .ok (.iaload, 1) := by decide +kernel
theorem dX7_agreed_54 : decode (mc mX7_agreed) 54 = .ok (.if_icmp .ge 80, 3) := by decide +kernel
theorem dX7_agreed_57 : decode (mc mX7_agreed) 57 = .ok (.aload_n 0, 1) := by decide +kernel
theorem dX7_agreed_58 : decode (mc mX7_agreed) 58 = .ok (.iload 7, 2) := by decide +kernel
theorem dX7_agreed_60 : decode (mc mX7_agreed) 60 = .ok (.iload 4, 2) := by decide +kernel
theorem dX7_agreed_62 : decode (mc mX7_agreed) 62 = .ok (.invokevirtual 132, 3) := by decide +kernel
theorem dX7_agreed_65 : decode (mc mX7_agreed) 65 = .ok (.ifCond .eq 22, 3) := by decide +kernel
theorem dX7_agreed_68 : decode (mc mX7_agreed) 68 = .ok (.iload 5, 2) := by decide +kernel
theorem dX7_agreed_70 : decode (mc mX7_agreed) 70 = .ok (.aload_n 0, 1) := by decide +kernel
theorem dX7_agreed_71 : decode (mc mX7_agreed) 71 = .ok (.iload 7, 2) := by decide +kernel
theorem dX7_agreed_73 : decode (mc mX7_agreed) 73 = .ok (.iconst 0, 1) := by decide +kernel
theorem dX7_agreed_74 : decode (mc mX7_agreed) 74 = .ok (.invokevirtual 49, 3) := by decide +kernel
theorem dX7_agreed_77 : decode (mc mX7_agreed) 77 = .ok (.ishr, 1) := by decide +kernel
theorem dX7_agreed_78 : decode (mc mX7_agreed) 78 = .ok (.iconst 1, 1) := by decide +kernel
theorem dX7_agreed_79 : decode (mc mX7_agreed) 79 = .ok (.iand, 1) := by decide +kernel
theorem dX7_agreed_80 : decode (mc mX7_agreed) 80 = .ok (.ifCond .ne 7, 3) := by decide +kernel
theorem dX7_agreed_83 : decode (mc mX7_agreed) 83 = .ok (.iconst 1, 1) := by decide +kernel
theorem dX7_agreed_84 : decode (mc mX7_agreed) 84 = .ok (.goto 4, 3) := by decide +kernel
theorem dX7_agreed_87 : decode (mc mX7_agreed) 87 = .ok (.iconst 0, 1) := by decide +kernel
theorem dX7_agreed_88 : decode (mc mX7_agreed) 88 = .ok (.istore 8, 2) := by decide +kernel
theorem dX7_agreed_90 : decode (mc mX7_agreed) 90 = .ok (.iload 5, 2) := by decide +kernel
theorem dX7_agreed_92 : decode (mc mX7_agreed) 92 = .ok (.iload 8, 2) := by decide +kernel
theorem dX7_agreed_94 : decode (mc mX7_agreed) 94 = .ok (.ifCond .eq 15, 3) := by decide +kernel
theorem dX7_agreed_97 : decode (mc mX7_agreed) 97 = .ok (.iconst 1, 1) := by decide +kernel
theorem dX7_agreed_98 : decode (mc mX7_agreed) 98 = .ok (.aload_n 0, 1) := by decide +kernel
theorem dX7_agreed_99 : decode (mc mX7_agreed) 99 = .ok (.iload 7, 2) := by decide +kernel
theorem dX7_agreed_101 : decode (mc mX7_agreed) 101 = .ok (.iconst 0, 1) := by decide +kernel
theorem dX7_agreed_102 : decode (mc mX7_agreed) 102 = .ok (.invokevirtual 49, 3) := by decide +kernel
theorem dX7_agreed_105 : decode (mc mX7_agreed) 105 = .ok (.ishl, 1) := by decide +kernel
theorem dX7_agreed_106 : decode (mc mX7_agreed) 106 = .ok (.goto 4, 3) := by decide +kernel
theorem dX7_agreed_109 : decode (mc mX7_agreed) 109 = .ok (.iconst 0, 1) := by decide +kernel
theorem dX7_agreed_110 : decode (mc mX7_agreed) 110 = .ok (.ior, 1) := by decide +kernel
theorem dX7_agreed_111 : decode (mc mX7_agreed) 111 = .ok (.istore 5, 2) := by decide +kernel
theorem dX7_agreed_113 : decode (mc mX7_agreed) 113 = .ok (.iload 6, 2) := by decide +kernel
theorem dX7_agreed_115 : decode (mc mX7_agreed) 115 = .ok (.iload 8, 2) := by decide +kernel
theorem dX7_agreed_117 : decode (mc mX7_agreed) 117 = .ok (.ifCond .eq 7, 3) := by decide +kernel
theorem dX7_agreed_120 : decode (mc mX7_agreed) 120 = .ok (.iconst 1, 1) := by decide +kernel
theorem dX7_agreed_121 : decode (mc mX7_agreed) 121 = .ok (.goto 4, 3) := by decide +kernel
theorem dX7_agreed_124 : decode (mc mX7_agreed) 124 = .ok (.iconst 0, 1) := by decide +kernel
theorem dX7_agreed_125 : decode (mc mX7_agreed) 125 = .ok (.iadd, 1) := by decide +kernel
theorem dX7_agreed_126 : decode (mc mX7_agreed) 126 = .ok (.istore 6, 2) := by decide +kernel
theorem dX7_agreed_128 : decode (mc mX7_agreed) 128 = .ok (.iinc 7 1, 3) := by decide +kernel
theorem dX7_agreed_131 : decode (mc mX7_agreed) 131 = .ok (.goto (-85), 3) := by decide +kernel
theorem dX7_agreed_134 : decode (mc mX7_agreed) 134 = .ok (.iload 6, 2) := by decide +kernel
theorem dX7_agreed_136 : decode (mc mX7_agreed) 136 = .ok (.iload_n 2, 1) := by decide +kernel
theorem dX7_agreed_137 : decode (mc mX7_agreed) 137 = .ok (.if_icmp .gt 20, 3) := by decide +kernel
theorem dX7_agreed_140 : decode (mc mX7_agreed) 140 = .ok (.iload 6, 2) := by decide +kernel
theorem dX7_agreed_142 : decode (mc mX7_agreed) 142 = .ok (.iload_n 2, 1) := by decide +kernel
theorem dX7_agreed_143 : decode (mc mX7_agreed) 143 = .ok (.if_icmp .ne 20, 3) := by decide +kernel
theorem dX7_agreed_146 : decode (mc mX7_agreed) 146 = .ok (.iload 6, 2) := by decide +kernel
theorem dX7_agreed_148 : decode (mc mX7_agreed) 148 = .ok (.ifCond .le 15, 3) := by decide +kernel
theorem dX7_agreed_151 : decode (mc mX7_agreed) 151 = .ok (.iload 4, 2) := by decide +kernel
theorem dX7_agreed_153 : decode (mc mX7_agreed) 153 = .ok (.iload_n 1, 1) := by decide +kernel
theorem dX7_agreed_154 : decode (mc mX7_agreed) 154 = .ok (.if_icmp .ge 9, 3) := by decide +kernel
theorem dX7_agreed_157 : decode (mc mX7_agreed) 157 = .ok (.iload 4, 2) := by decide +kernel
theorem dX7_agreed_159 : decode (mc mX7_agreed) 159 = .ok (.istore_n 1, 1) := by decide +kernel
theorem dX7_agreed_160 : decode (mc mX7_agreed) 160 = .ok (.iload 6, 2) := by decide +kernel
theorem dX7_agreed_162 : decode (mc mX7_agreed) 162 = .ok (.istore_n 2, 1) := by decide +kernel
theorem dX7_agreed_163 : decode (mc mX7_agreed) 163 = .ok (.iinc 3 1, 3) := by decide +kernel
theorem dX7_agreed_166 : decode (mc mX7_agreed) 166 = .ok (.goto (-147), 3) := by decide +kernel
theorem dX7_agreed_169 : decode (mc mX7_agreed) 169 = .ok (.iload_n 1, 1) := by decide +kernel
theorem dX7_agreed_170 : decode (mc mX7_agreed) 170 = .ok (.ireturn, 1) := by decide +kernel
theorem dX7_found_0 : decode (mc mX7_found) 0 = .ok (.ldc 121, 2) := by decide +kernel
theorem dX7_found_2 : decode (mc mX7_found) 2 = .ok (.istore_n 1, 1) := by decide +kernel
theorem dX7_found_3 : decode (mc mX7_found) 3 = .ok (.iconst 0, 1) := by decide +kernel
theorem dX7_found_4 : decode (mc mX7_found) 4 = .ok (.istore_n 2, 1) := by decide +kernel
theorem dX7_found_5 : decode (mc mX7_found) 5 = .ok (.iconst 0, 1) := by decide +kernel
theorem dX7_found_6 : decode (mc mX7_found) 6 = .ok (.istore_n 3, 1) := by decide +kernel
theorem dX7_found_7 : decode (mc mX7_found) 7 = .ok (.iload_n 3, 1) := by decide +kernel
theorem dX7_found_8 : decode (mc mX7_found) 8 = .ok (.aload_n 0, 1) := by decide +kernel
theorem dX7_found_9 : decode (mc mX7_found) 9 = .ok (.getfield 7, 3) := by decide +kernel
theorem dX7_found_12 : decode (mc mX7_found) 12 = .ok (.iconst 1, 1) := by decide +kernel
theorem dX7_found_13 : decode (mc mX7_found) 13 = .ok (.iaload, 1) := by decide +kernel
theorem dX7_found_14 : decode (mc mX7_found) 14 = .ok (.if_icmp .ge 91, 3) := by decide +kernel
theorem dX7_found_17 : decode (mc mX7_found) 17 = .ok (.aload_n 0, 1) := by decide +kernel
theorem dX7_found_18 : decode (mc mX7_found) 18 = .ok (.iload_n 3, 1) := by decide +kernel
theorem dX7_found_19 : decode (mc mX7_found) 19 = .ok (.iconst 4, 1) := by decide +kernel
theorem dX7_found_20 : decode (mc mX7_found) 20 = .ok (.invokevirtual 49, 3) := by decide +kernel
theorem dX7_found_23 : decode (mc mX7_found) 23 = .ok (.iconst 1, 1) := by decide +kernel
theorem dX7_found_24 : decode (mc mX7_found) 24 = .ok (.if_icmp .ne 11, 3) := by decide +kernel
theorem dX7_found_27 : decode (mc mX7_found) 27 = .ok (.aload_n 0, 1) := by decide +kernel
theorem dX7_found_28 : decode (mc mX7_found) 28 = .ok (.iload_n 3, 1) := by decide +kernel
theorem dX7_found_29 : decode (mc mX7_found) 29 = .ok (.invokevirtual 129, 3) := by decide +kernel
theorem dX7_found_32 : decode (mc mX7_found) 32 = .ok (.goto 4, 3) := by decide +kernel
theorem dX7_found_35 : decode (mc mX7_found) 35 = .ok (.iconst 0, 1) := by decide +kernel
theorem dX7_found_36 : decode (mc mX7_found) 36 = .ok (.istore 4, 2) := by decide +kernel
theorem dX7_found_38 : decode (mc mX7_found) 38 = .ok (.iload_n 1, 1) := by decide +kernel
theorem dX7_found_39 : decode (mc mX7_found) 39 = .ok (.ldc 121, 2) := by decide +kernel
theorem dX7_found_41 : decode (mc mX7_found) 41 = .ok (.if_icmp .eq 30, 3) := by decide +kernel
theorem dX7_found_44 : decode (mc mX7_found) 44 = .ok (.iload 4, 2) := by decide +kernel
theorem dX7_found_46 : decode (mc mX7_found) 46 = .ok (.iload_n 2, 1) := by decide +kernel
theorem dX7_found_47 : decode (mc mX7_found) 47 = .ok (.if_icmp .gt 24, 3) := by decide +kernel
theorem dX7_found_50 : decode (mc mX7_found) 50 = .ok (.iload 4, 2) := by decide +kernel
theorem dX7_found_52 : decode (mc mX7_found) 52 = .ok (.iload_n 2, 1) := by decide +kernel
theorem dX7_found_53 : decode (mc mX7_found) 53 = .ok (.if_icmp .ne 22, 3) := by decide +kernel
theorem dX7_found_56 : decode (mc mX7_found) 56 = .ok (.aload_n 0, 1) := by decide +kernel
theorem dX7_found_57 : decode (mc mX7_found) 57 = .ok (.iload_n 3, 1) := by decide +kernel
theorem dX7_found_58 : decode (mc mX7_found) 58 = .ok (.iconst 5, 1) := by decide +kernel
theorem dX7_found_59 : decode (mc mX7_found) 59 = .ok (.invokevirtual 49, 3) := by decide +kernel
theorem dX7_found_62 : decode (mc mX7_found) 62 = .ok (.aload_n 0, 1) := by decide +kernel
theorem dX7_found_63 : decode (mc mX7_found) 63 = .ok (.iload_n 1, 1) := by decide +kernel
theorem dX7_found_64 : decode (mc mX7_found) 64 = .ok (.iconst 5, 1) := by decide +kernel
theorem dX7_found_65 : decode (mc mX7_found) 65 = .ok (.invokevirtual 49, 3) := by decide +kernel
theorem dX7_found_68 : decode (mc mX7_found) 68 = .ok (.if_icmp .le 7, 3) := by decide +kernel
theorem dX7_found_71 : decode (mc mX7_found) 71 = .ok (.iconst 1, 1) := by decide +kernel
theorem dX7_found_72 : decode (mc mX7_found) 72 = .ok (.goto 4, 3) := by decide +kernel
theorem dX7_found_75 : decode (mc mX7_found) 75 = .ok (.iconst 0, 1) := by decide +kernel
theorem dX7_found_76 : decode (mc mX7_found) 76 = .ok (.istore 5, 2) := by decide +kernel
theorem dX7_found_78 : decode (mc mX7_found) 78 = .ok (.iload 4, 2) := by decide +kernel
theorem dX7_found_80 : decode (mc mX7_found) 80 = .ok (.aload_n 0, 1) := by decide +kernel
theorem dX7_found_81 : decode (mc mX7_found) 81 = .ok (.getfield 7, 3) := by decide +kernel
theorem dX7_found_84 : decode (mc mX7_found) 84 = .ok (.iconst 5, 1) := by decide +kernel
theorem dX7_found_85 : decode (mc mX7_found) 85 = .ok (.iaload, 1) := by decide +kernel
theorem dX7_found_86 : decode (mc mX7_found) 86 = .ok (.if_icmp .lt 13, 3) := by decide +kernel
theorem dX7_found_89 : decode (mc mX7_found) 89 = .ok (.iload 5, 2) := by decide +kernel
theorem dX7_found_91 : decode (mc mX7_found) 91 = .ok (.ifCond .eq 8, 3) := by decide +kernel
theorem dX7_found_94 : decode (mc mX7_found) 94 = .ok (.iload_n 3, 1) := by decide +kernel
theorem dX7_found_95 : decode (mc mX7_found) 95 = .ok (.istore_n 1, 1) := by decide +kernel
theorem dX7_found_96 : decode (mc mX7_found) 96 = .ok (.iload 4, 2) := by decide +kernel
theorem dX7_found_98 : decode (mc mX7_found) 98 = .ok (.istore_n 2, 1) := by decide +kernel
theorem dX7_found_99 : decode (mc mX7_found) 99 = .ok (.iinc 3 1, 3) := by decide +kernel
theorem dX7_found_102 : decode (mc mX7_found) 102 = .ok (.goto (-95), 3) := by decide +kernel
theorem dX7_found_105 : decode (mc mX7_found) 105 = .ok (.iload_n 1, 1) := by decide +kernel
theorem dX7_found_106 : decode (mc mX7_found) 106 = .ok (.ireturn, 1) := by decide +kernel
theorem dX7_match_0 : decode (mc mX7_match) 0 = .ok (.aload_n 0, 1) := by decide +kernel
theorem dX7_match_1 : decode (mc mX7_match) 1 = .ok (.invokevirtual 125, 3) := by decide +kernel
theorem dX7_match_4 : decode (mc mX7_match) 4 = .ok (.ldc 121, 2) := by decide +kernel
theorem dX7_match_6 : decode (mc mX7_match) 6 = .ok (.if_icmp .ne 10, 3) := by decide +kernel
theorem dX7_match_9 : decode (mc mX7_match) 9 = .ok (.aload_n 0, 1) := by decide +kernel
theorem dX7_match_10 : decode (mc mX7_match) 10 = .ok (.invokevirtual 135, 3) := by decide +kernel
theorem dX7_match_13 : decode (mc mX7_match) 13 = .ok (.goto 5, 3) := by decide +kernel
theorem dX7_match_16 : decode (mc mX7_match) 16 = .ok (.ldc 128, 2) := by decide +kernel
theorem dX7_match_18 : decode (mc mX7_match) 18 = .ok (.ireturn, 1) := by decide +kernel
theorem dX7_alike_0 : decode (mc mX7_alike) 0 = .ok (.aload_n 0, 1) := by decide +kernel
theorem dX7_alike_1 : decode (mc mX7_alike) 1 = .ok (.iload_n 1, 1) := by decide +kernel
theorem dX7_alike_2 : decode (mc mX7_alike) 2 = .ok (.invokevirtual 122, 3) := by decide +kernel
theorem dX7_alike_5 : decode (mc mX7_alike) 5 = .ok (.ifCond .ne 6, 3) := by decide +kernel
theorem dX7_alike_8 : decode (mc mX7_alike) 8 = .ok (.ldc 87, 2) := by decide +kernel
theorem dX7_alike_10 : decode (mc mX7_alike) 10 = .ok (.ireturn, 1) := by decide +kernel
theorem dX7_alike_11 : decode (mc mX7_alike) 11 = .ok (.aload_n 0, 1) := by decide +kernel
theorem dX7_alike_12 : decode (mc mX7_alike) 12 = .ok (.invokevirtual 125, 3) := by decide +kernel
theorem dX7_alike_15 : decode (mc mX7_alike) 15 = .ok (.ldc 121, 2) := by decide +kernel
theorem dX7_alike_17 : decode (mc mX7_alike) 17 = .ok (.if_icmp .ne 11, 3) := by decide +kernel
theorem dX7_alike_20 : decode (mc mX7_alike) 20 = .ok (.aload_n 0, 1) := by decide +kernel
theorem dX7_alike_21 : decode (mc mX7_alike) 21 = .ok (.iload_n 1, 1) := by decide +kernel
theorem dX7_alike_22 : decode (mc mX7_alike) 22 = .ok (.invokevirtual 129, 3) := by decide +kernel
theorem dX7_alike_25 : decode (mc mX7_alike) 25 = .ok (.goto 5, 3) := by decide +kernel
theorem dX7_alike_28 : decode (mc mX7_alike) 28 = .ok (.ldc 128, 2) := by decide +kernel
theorem dX7_alike_30 : decode (mc mX7_alike) 30 = .ok (.ireturn, 1) := by decide +kernel
theorem dX7_feeOf_0 : decode (mc mX7_feeOf) 0 = .ok (.aload_n 0, 1) := by decide +kernel
theorem dX7_feeOf_1 : decode (mc mX7_feeOf) 1 = .ok (.iload_n 1, 1) := by decide +kernel
theorem dX7_feeOf_2 : decode (mc mX7_feeOf) 2 = .ok (.iconst 0, 1) := by decide +kernel
theorem dX7_feeOf_3 : decode (mc mX7_feeOf) 3 = .ok (.invokevirtual 49, 3) := by decide +kernel
theorem dX7_feeOf_6 : decode (mc mX7_feeOf) 6 = .ok (.iload_n 3, 1) := by decide +kernel
theorem dX7_feeOf_7 : decode (mc mX7_feeOf) 7 = .ok (.if_icmp .ne 7, 3) := by decide +kernel
theorem dX7_feeOf_10 : decode (mc mX7_feeOf) 10 = .ok (.iconst 0, 1) := by decide +kernel
theorem dX7_feeOf_11 : decode (mc mX7_feeOf) 11 = .ok (.goto 18, 3) := by decide +kernel
theorem dX7_feeOf_14 : decode (mc mX7_feeOf) 14 = .ok (.aload_n 0, 1) := by decide +kernel
theorem dX7_feeOf_15 : decode (mc mX7_feeOf) 15 = .ok (.aload_n 0, 1) := by decide +kernel
theorem dX7_feeOf_16 : decode (mc mX7_feeOf) 16 = .ok (.iload_n 1, 1) := by decide +kernel
theorem dX7_feeOf_17 : decode (mc mX7_feeOf) 17 = .ok (.iconst 0, 1) := by decide +kernel
theorem dX7_feeOf_18 : decode (mc mX7_feeOf) 18 = .ok (.invokevirtual 49, 3) := by decide +kernel
theorem dX7_feeOf_21 : decode (mc mX7_feeOf) 21 = .ok (.invokevirtual 89, 3) := by decide +kernel
theorem dX7_feeOf_24 : decode (mc mX7_feeOf) 24 = .ok (.iload_n 2, 1) := by decide +kernel
theorem dX7_feeOf_25 : decode (mc mX7_feeOf) 25 = .ok (.imul, 1) := by decide +kernel
theorem dX7_feeOf_26 : decode (mc mX7_feeOf) 26 = .ok (.bipush 100, 2) := by decide +kernel
theorem dX7_feeOf_28 : decode (mc mX7_feeOf) 28 = .ok (.idiv, 1) := by decide +kernel
theorem dX7_feeOf_29 : decode (mc mX7_feeOf) 29 = .ok (.ireturn, 1) := by decide +kernel
theorem dX7_fee_0 : decode (mc mX7_fee) 0 = .ok (.aload_n 0, 1) := by decide +kernel
theorem dX7_fee_1 : decode (mc mX7_fee) 1 = .ok (.iload_n 1, 1) := by decide +kernel
theorem dX7_fee_2 : decode (mc mX7_fee) 2 = .ok (.invokevirtual 83, 3) := by decide +kernel
theorem dX7_fee_5 : decode (mc mX7_fee) 5 = .ok (.ifCond .ne 6, 3) := by decide +kernel
theorem dX7_fee_8 : decode (mc mX7_fee) 8 = .ok (.ldc 87, 2) := by decide +kernel
theorem dX7_fee_10 : decode (mc mX7_fee) 10 = .ok (.ireturn, 1) := by decide +kernel
theorem dX7_fee_11 : decode (mc mX7_fee) 11 = .ok (.aload_n 0, 1) := by decide +kernel
theorem dX7_fee_12 : decode (mc mX7_fee) 12 = .ok (.invokevirtual 125, 3) := by decide +kernel
theorem dX7_fee_15 : decode (mc mX7_fee) 15 = .ok (.ldc 121, 2) := by decide +kernel
theorem dX7_fee_17 : decode (mc mX7_fee) 17 = .ok (.if_icmp .eq 6, 3) := by decide +kernel
theorem dX7_fee_20 : decode (mc mX7_fee) 20 = .ok (.ldc 128, 2) := by decide +kernel
theorem dX7_fee_22 : decode (mc mX7_fee) 22 = .ok (.ireturn, 1) := by decide +kernel
theorem dX7_fee_23 : decode (mc mX7_fee) 23 = .ok (.aload_n 0, 1) := by decide +kernel
theorem dX7_fee_24 : decode (mc mX7_fee) 24 = .ok (.invokevirtual 135, 3) := by decide +kernel
theorem dX7_fee_27 : decode (mc mX7_fee) 27 = .ok (.istore_n 2, 1) := by decide +kernel
theorem dX7_fee_28 : decode (mc mX7_fee) 28 = .ok (.iload_n 2, 1) := by decide +kernel
theorem dX7_fee_29 : decode (mc mX7_fee) 29 = .ok (.ldc 121, 2) := by decide +kernel
theorem dX7_fee_31 : decode (mc mX7_fee) 31 = .ok (.if_icmp .ne 8, 3) := by decide +kernel
theorem dX7_fee_34 : decode (mc mX7_fee) 34 = .ok (.ldc 121, 2) := by decide +kernel
theorem dX7_fee_36 : decode (mc mX7_fee) 36 = .ok (.goto 14, 3) := by decide +kernel
theorem dX7_fee_39 : decode (mc mX7_fee) 39 = .ok (.aload_n 0, 1) := by decide +kernel
theorem dX7_fee_40 : decode (mc mX7_fee) 40 = .ok (.iload_n 2, 1) := by decide +kernel
theorem dX7_fee_41 : decode (mc mX7_fee) 41 = .ok (.aload_n 0, 1) := by decide +kernel
theorem dX7_fee_42 : decode (mc mX7_fee) 42 = .ok (.iload_n 2, 1) := by decide +kernel
theorem dX7_fee_43 : decode (mc mX7_fee) 43 = .ok (.invokevirtual 129, 3) := by decide +kernel
theorem dX7_fee_46 : decode (mc mX7_fee) 46 = .ok (.iload_n 1, 1) := by decide +kernel
theorem dX7_fee_47 : decode (mc mX7_fee) 47 = .ok (.invokevirtual 138, 3) := by decide +kernel
theorem dX7_fee_50 : decode (mc mX7_fee) 50 = .ok (.ireturn, 1) := by decide +kernel
theorem dX7_use_0 : decode (mc mX7_use) 0 = .ok (.aload_n 0, 1) := by decide +kernel
theorem dX7_use_1 : decode (mc mX7_use) 1 = .ok (.iload_n 1, 1) := by decide +kernel
theorem dX7_use_2 : decode (mc mX7_use) 2 = .ok (.invokevirtual 83, 3) := by decide +kernel
theorem dX7_use_5 : decode (mc mX7_use) 5 = .ok (.ifCond .ne 6, 3) := by decide +kernel
theorem dX7_use_8 : decode (mc mX7_use) 8 = .ok (.ldc 87, 2) := by decide +kernel
theorem dX7_use_10 : decode (mc mX7_use) 10 = .ok (.ireturn, 1) := by decide +kernel
theorem dX7_use_11 : decode (mc mX7_use) 11 = .ok (.aload_n 0, 1) := by decide +kernel
theorem dX7_use_12 : decode (mc mX7_use) 12 = .ok (.invokevirtual 125, 3) := by decide +kernel
theorem dX7_use_15 : decode (mc mX7_use) 15 = .ok (.ldc 121, 2) := by decide +kernel
theorem dX7_use_17 : decode (mc mX7_use) 17 = .ok (.if_icmp .eq 6, 3) := by decide +kernel
theorem dX7_use_20 : decode (mc mX7_use) 20 = .ok (.ldc 128, 2) := by decide +kernel
theorem dX7_use_22 : decode (mc mX7_use) 22 = .ok (.ireturn, 1) := by decide +kernel
theorem dX7_use_23 : decode (mc mX7_use) 23 = .ok (.aload_n 0, 1) := by decide +kernel
theorem dX7_use_24 : decode (mc mX7_use) 24 = .ok (.getfield 7, 3) := by decide +kernel
theorem dX7_use_27 : decode (mc mX7_use) 27 = .ok (.iconst 2, 1) := by decide +kernel
theorem dX7_use_28 : decode (mc mX7_use) 28 = .ok (.iaload, 1) := by decide +kernel
theorem dX7_use_29 : decode (mc mX7_use) 29 = .ok (.bipush 24, 2) := by decide +kernel
theorem dX7_use_31 : decode (mc mX7_use) 31 = .ok (.if_icmp .ne 6, 3) := by decide +kernel
theorem dX7_use_34 : decode (mc mX7_use) 34 = .ok (.ldc 79, 2) := by decide +kernel
theorem dX7_use_36 : decode (mc mX7_use) 36 = .ok (.ireturn, 1) := by decide +kernel
theorem dX7_use_37 : decode (mc mX7_use) 37 = .ok (.aload_n 0, 1) := by decide +kernel
theorem dX7_use_38 : decode (mc mX7_use) 38 = .ok (.invokevirtual 80, 3) := by decide +kernel
theorem dX7_use_41 : decode (mc mX7_use) 41 = .ok (.aload_n 0, 1) := by decide +kernel
theorem dX7_use_42 : decode (mc mX7_use) 42 = .ok (.invokevirtual 135, 3) := by decide +kernel
theorem dX7_use_45 : decode (mc mX7_use) 45 = .ok (.istore_n 2, 1) := by decide +kernel
theorem dX7_use_46 : decode (mc mX7_use) 46 = .ok (.iload_n 2, 1) := by decide +kernel
theorem dX7_use_47 : decode (mc mX7_use) 47 = .ok (.ldc 121, 2) := by decide +kernel
theorem dX7_use_49 : decode (mc mX7_use) 49 = .ok (.if_icmp .ne 6, 3) := by decide +kernel
theorem dX7_use_52 : decode (mc mX7_use) 52 = .ok (.ldc 121, 2) := by decide +kernel
theorem dX7_use_54 : decode (mc mX7_use) 54 = .ok (.ireturn, 1) := by decide +kernel
theorem dX7_use_55 : decode (mc mX7_use) 55 = .ok (.aload_n 0, 1) := by decide +kernel
theorem dX7_use_56 : decode (mc mX7_use) 56 = .ok (.iload_n 2, 1) := by decide +kernel
theorem dX7_use_57 : decode (mc mX7_use) 57 = .ok (.invokevirtual 129, 3) := by decide +kernel
theorem dX7_use_60 : decode (mc mX7_use) 60 = .ok (.istore_n 3, 1) := by decide +kernel
theorem dX7_use_61 : decode (mc mX7_use) 61 = .ok (.aload_n 0, 1) := by decide +kernel
theorem dX7_use_62 : decode (mc mX7_use) 62 = .ok (.iload_n 2, 1) := by decide +kernel
theorem dX7_use_63 : decode (mc mX7_use) 63 = .ok (.iload_n 3, 1) := by decide +kernel
theorem dX7_use_64 : decode (mc mX7_use) 64 = .ok (.iload_n 1, 1) := by decide +kernel
theorem dX7_use_65 : decode (mc mX7_use) 65 = .ok (.invokevirtual 138, 3) := by decide +kernel
theorem dX7_use_68 : decode (mc mX7_use) 68 = .ok (.istore 4, 2) := by decide +kernel
theorem dX7_use_70 : decode (mc mX7_use) 70 = .ok (.sipush 342, 3) := by decide +kernel
theorem dX7_use_73 : decode (mc mX7_use) 73 = .ok (.bipush 13, 2) := by decide +kernel
theorem dX7_use_75 : decode (mc mX7_use) 75 = .ok (.aload_n 0, 1) := by decide +kernel
theorem dX7_use_76 : decode (mc mX7_use) 76 = .ok (.getfield 7, 3) := by decide +kernel
theorem dX7_use_79 : decode (mc mX7_use) 79 = .ok (.iconst 2, 1) := by decide +kernel
theorem dX7_use_80 : decode (mc mX7_use) 80 = .ok (.iaload, 1) := by decide +kernel
theorem dX7_use_81 : decode (mc mX7_use) 81 = .ok (.imul, 1) := by decide +kernel
theorem dX7_use_82 : decode (mc mX7_use) 82 = .ok (.iadd, 1) := by decide +kernel
theorem dX7_use_83 : decode (mc mX7_use) 83 = .ok (.istore 5, 2) := by decide +kernel
theorem dX7_use_85 : decode (mc mX7_use) 85 = .ok (.iload 4, 2) := by decide +kernel
theorem dX7_use_87 : decode (mc mX7_use) 87 = .ok (.aload_n 0, 1) := by decide +kernel
theorem dX7_use_88 : decode (mc mX7_use) 88 = .ok (.getfield 7, 3) := by decide +kernel
theorem dX7_use_91 : decode (mc mX7_use) 91 = .ok (.bipush 6, 2) := by decide +kernel
theorem dX7_use_93 : decode (mc mX7_use) 93 = .ok (.iaload, 1) := by decide +kernel
theorem dX7_use_94 : decode (mc mX7_use) 94 = .ok (.imul, 1) := by decide +kernel
theorem dX7_use_95 : decode (mc mX7_use) 95 = .ok (.bipush 100, 2) := by decide +kernel
theorem dX7_use_97 : decode (mc mX7_use) 97 = .ok (.idiv, 1) := by decide +kernel
theorem dX7_use_98 : decode (mc mX7_use) 98 = .ok (.istore 6, 2) := by decide +kernel
theorem dX7_use_100 : decode (mc mX7_use) 100 = .ok (.aload_n 0, 1) := by decide +kernel
theorem dX7_use_101 : decode (mc mX7_use) 101 = .ok (.getfield 7, 3) := by decide +kernel
theorem dX7_use_104 : decode (mc mX7_use) 104 = .ok (.iload 5, 2) := by decide +kernel
theorem dX7_use_106 : decode (mc mX7_use) 106 = .ok (.iload_n 1, 1) := by decide +kernel
theorem dX7_use_107 : decode (mc mX7_use) 107 = .ok (.iastore, 1) := by decide +kernel
theorem dX7_use_108 : decode (mc mX7_use) 108 = .ok (.aload_n 0, 1) := by decide +kernel
theorem dX7_use_109 : decode (mc mX7_use) 109 = .ok (.getfield 7, 3) := by decide +kernel
theorem dX7_use_112 : decode (mc mX7_use) 112 = .ok (.iload 5, 2) := by decide +kernel
theorem dX7_use_114 : decode (mc mX7_use) 114 = .ok (.iconst 1, 1) := by decide +kernel
theorem dX7_use_115 : decode (mc mX7_use) 115 = .ok (.iadd, 1) := by decide +kernel
theorem dX7_use_116 : decode (mc mX7_use) 116 = .ok (.iload_n 2, 1) := by decide +kernel
theorem dX7_use_117 : decode (mc mX7_use) 117 = .ok (.iastore, 1) := by decide +kernel
theorem dX7_use_118 : decode (mc mX7_use) 118 = .ok (.aload_n 0, 1) := by decide +kernel
theorem dX7_use_119 : decode (mc mX7_use) 119 = .ok (.getfield 7, 3) := by decide +kernel
theorem dX7_use_122 : decode (mc mX7_use) 122 = .ok (.iload 5, 2) := by decide +kernel
theorem dX7_use_124 : decode (mc mX7_use) 124 = .ok (.iconst 2, 1) := by decide +kernel
theorem dX7_use_125 : decode (mc mX7_use) 125 = .ok (.iadd, 1) := by decide +kernel
theorem dX7_use_126 : decode (mc mX7_use) 126 = .ok (.iload_n 3, 1) := by decide +kernel
theorem dX7_use_127 : decode (mc mX7_use) 127 = .ok (.iastore, 1) := by decide +kernel
theorem dX7_use_128 : decode (mc mX7_use) 128 = .ok (.aload_n 0, 1) := by decide +kernel
theorem dX7_use_129 : decode (mc mX7_use) 129 = .ok (.getfield 7, 3) := by decide +kernel
theorem dX7_use_132 : decode (mc mX7_use) 132 = .ok (.iload 5, 2) := by decide +kernel
theorem dX7_use_134 : decode (mc mX7_use) 134 = .ok (.iconst 3, 1) := by decide +kernel
theorem dX7_use_135 : decode (mc mX7_use) 135 = .ok (.iadd, 1) := by decide +kernel
theorem dX7_use_136 : decode (mc mX7_use) 136 = .ok (.iload 4, 2) := by decide +kernel
theorem dX7_use_138 : decode (mc mX7_use) 138 = .ok (.iastore, 1) := by decide +kernel
theorem dX7_use_139 : decode (mc mX7_use) 139 = .ok (.aload_n 0, 1) := by decide +kernel
theorem dX7_use_140 : decode (mc mX7_use) 140 = .ok (.getfield 7, 3) := by decide +kernel
theorem dX7_use_143 : decode (mc mX7_use) 143 = .ok (.iload 5, 2) := by decide +kernel
theorem dX7_use_145 : decode (mc mX7_use) 145 = .ok (.iconst 4, 1) := by decide +kernel
theorem dX7_use_146 : decode (mc mX7_use) 146 = .ok (.iadd, 1) := by decide +kernel
theorem dX7_use_147 : decode (mc mX7_use) 147 = .ok (.aload_n 0, 1) := by decide +kernel
theorem dX7_use_148 : decode (mc mX7_use) 148 = .ok (.getfield 7, 3) := by decide +kernel
theorem dX7_use_151 : decode (mc mX7_use) 151 = .ok (.iconst 3, 1) := by decide +kernel
theorem dX7_use_152 : decode (mc mX7_use) 152 = .ok (.iaload, 1) := by decide +kernel
theorem dX7_use_153 : decode (mc mX7_use) 153 = .ok (.iastore, 1) := by decide +kernel
theorem dX7_use_154 : decode (mc mX7_use) 154 = .ok (.aload_n 0, 1) := by decide +kernel
theorem dX7_use_155 : decode (mc mX7_use) 155 = .ok (.getfield 7, 3) := by decide +kernel
theorem dX7_use_158 : decode (mc mX7_use) 158 = .ok (.iload 5, 2) := by decide +kernel
theorem dX7_use_160 : decode (mc mX7_use) 160 = .ok (.iconst 5, 1) := by decide +kernel
theorem dX7_use_161 : decode (mc mX7_use) 161 = .ok (.iadd, 1) := by decide +kernel
theorem dX7_use_162 : decode (mc mX7_use) 162 = .ok (.iconst 0, 1) := by decide +kernel
theorem dX7_use_163 : decode (mc mX7_use) 163 = .ok (.iastore, 1) := by decide +kernel
theorem dX7_use_164 : decode (mc mX7_use) 164 = .ok (.aload_n 0, 1) := by decide +kernel
theorem dX7_use_165 : decode (mc mX7_use) 165 = .ok (.getfield 7, 3) := by decide +kernel
theorem dX7_use_168 : decode (mc mX7_use) 168 = .ok (.iload 5, 2) := by decide +kernel
theorem dX7_use_170 : decode (mc mX7_use) 170 = .ok (.bipush 6, 2) := by decide +kernel
theorem dX7_use_172 : decode (mc mX7_use) 172 = .ok (.iadd, 1) := by decide +kernel
theorem dX7_use_173 : decode (mc mX7_use) 173 = .ok (.iload 6, 2) := by decide +kernel
theorem dX7_use_175 : decode (mc mX7_use) 175 = .ok (.iastore, 1) := by decide +kernel
theorem dX7_use_176 : decode (mc mX7_use) 176 = .ok (.iconst 0, 1) := by decide +kernel
theorem dX7_use_177 : decode (mc mX7_use) 177 = .ok (.istore 7, 2) := by decide +kernel
theorem dX7_use_179 : decode (mc mX7_use) 179 = .ok (.iload 7, 2) := by decide +kernel
theorem dX7_use_181 : decode (mc mX7_use) 181 = .ok (.bipush 6, 2) := by decide +kernel
theorem dX7_use_183 : decode (mc mX7_use) 183 = .ok (.if_icmp .ge 23, 3) := by decide +kernel
theorem dX7_use_186 : decode (mc mX7_use) 186 = .ok (.aload_n 0, 1) := by decide +kernel
theorem dX7_use_187 : decode (mc mX7_use) 187 = .ok (.getfield 7, 3) := by decide +kernel
theorem dX7_use_190 : decode (mc mX7_use) 190 = .ok (.iload 5, 2) := by decide +kernel
theorem dX7_use_192 : decode (mc mX7_use) 192 = .ok (.bipush 7, 2) := by decide +kernel
theorem dX7_use_194 : decode (mc mX7_use) 194 = .ok (.iadd, 1) := by decide +kernel
theorem dX7_use_195 : decode (mc mX7_use) 195 = .ok (.iload 7, 2) := by decide +kernel
theorem dX7_use_197 : decode (mc mX7_use) 197 = .ok (.iadd, 1) := by decide +kernel
theorem dX7_use_198 : decode (mc mX7_use) 198 = .ok (.iconst 0, 1) := by decide +kernel
theorem dX7_use_199 : decode (mc mX7_use) 199 = .ok (.iastore, 1) := by decide +kernel
theorem dX7_use_200 : decode (mc mX7_use) 200 = .ok (.iinc 7 1, 3) := by decide +kernel
theorem dX7_use_203 : decode (mc mX7_use) 203 = .ok (.goto (-24), 3) := by decide +kernel
theorem dX7_use_206 : decode (mc mX7_use) 206 = .ok (.iload 4, 2) := by decide +kernel
theorem dX7_use_208 : decode (mc mX7_use) 208 = .ok (.iload 6, 2) := by decide +kernel
theorem dX7_use_210 : decode (mc mX7_use) 210 = .ok (.isub, 1) := by decide +kernel
theorem dX7_use_211 : decode (mc mX7_use) 211 = .ok (.istore 7, 2) := by decide +kernel
theorem dX7_use_213 : decode (mc mX7_use) 213 = .ok (.iload_n 2, 1) := by decide +kernel
theorem dX7_use_214 : decode (mc mX7_use) 214 = .ok (.istore 8, 2) := by decide +kernel
theorem dX7_use_216 : decode (mc mX7_use) 216 = .ok (.iload 8, 2) := by decide +kernel
theorem dX7_use_218 : decode (mc mX7_use) 218 = .ok (.ldc 121, 2) := by decide +kernel
theorem dX7_use_220 : decode (mc mX7_use) 220 = .ok (.if_icmp .eq 76, 3) := by decide +kernel
theorem dX7_use_223 : decode (mc mX7_use) 223 = .ok (.aload_n 0, 1) := by decide +kernel
theorem dX7_use_224 : decode (mc mX7_use) 224 = .ok (.iload 8, 2) := by decide +kernel
theorem dX7_use_226 : decode (mc mX7_use) 226 = .ok (.iconst 3, 1) := by decide +kernel
theorem dX7_use_227 : decode (mc mX7_use) 227 = .ok (.invokevirtual 49, 3) := by decide +kernel
theorem dX7_use_230 : decode (mc mX7_use) 230 = .ok (.ldc 121, 2) := by decide +kernel
theorem dX7_use_232 : decode (mc mX7_use) 232 = .ok (.if_icmp .ne 7, 3) := by decide +kernel
theorem dX7_use_235 : decode (mc mX7_use) 235 = .ok (.iconst 0, 1) := by decide +kernel
theorem dX7_use_236 : decode (mc mX7_use) 236 = .ok (.goto 16, 3) := by decide +kernel
theorem dX7_use_239 : decode (mc mX7_use) 239 = .ok (.iload 7, 2) := by decide +kernel
theorem dX7_use_241 : decode (mc mX7_use) 241 = .ok (.aload_n 0, 1) := by decide +kernel
theorem dX7_use_242 : decode (mc mX7_use) 242 = .ok (.getfield 7, 3) := by decide +kernel
theorem dX7_use_245 : decode (mc mX7_use) 245 = .ok (.bipush 7, 2) := by decide +kernel
theorem dX7_use_247 : decode (mc mX7_use) 247 = .ok (.iaload, 1) := by decide +kernel
theorem dX7_use_248 : decode (mc mX7_use) 248 = .ok (.imul, 1) := by decide +kernel
theorem dX7_use_249 : decode (mc mX7_use) 249 = .ok (.bipush 100, 2) := by decide +kernel
theorem dX7_use_251 : decode (mc mX7_use) 251 = .ok (.idiv, 1) := by decide +kernel
theorem dX7_use_252 : decode (mc mX7_use) 252 = .ok (.istore 9, 2) := by decide +kernel
theorem dX7_use_254 : decode (mc mX7_use) 254 = .ok (.aload_n 0, 1) := by decide +kernel
theorem dX7_use_255 : decode (mc mX7_use) 255 = .ok (.getfield 7, 3) := by decide +kernel
theorem dX7_use_258 : decode (mc mX7_use) 258 = .ok (.iload 5, 2) := by decide +kernel
theorem dX7_use_260 : decode (mc mX7_use) 260 = .ok (.bipush 7, 2) := by decide +kernel
theorem dX7_use_262 : decode (mc mX7_use) 262 = .ok (.iadd, 1) := by decide +kernel
theorem dX7_use_263 : decode (mc mX7_use) 263 = .ok (.aload_n 0, 1) := by decide +kernel
theorem dX7_use_264 : decode (mc mX7_use) 264 = .ok (.iload 8, 2) := by decide +kernel
theorem dX7_use_266 : decode (mc mX7_use) 266 = .ok (.iconst 0, 1) := by decide +kernel
theorem dX7_use_267 : decode (mc mX7_use) 267 = .ok (.invokevirtual 49, 3) := by decide +kernel
theorem dX7_use_270 : decode (mc mX7_use) 270 = .ok (.iadd, 1) := by decide +kernel
theorem dX7_use_271 : decode (mc mX7_use) 271 = .ok (.dup2, 1) := by decide +kernel
theorem dX7_use_272 : decode (mc mX7_use) 272 = .ok (.iaload, 1) := by decide +kernel
theorem dX7_use_273 : decode (mc mX7_use) 273 = .ok (.iload 7, 2) := by decide +kernel
theorem dX7_use_275 : decode (mc mX7_use) 275 = .ok (.iload 9, 2) := by decide +kernel
theorem dX7_use_277 : decode (mc mX7_use) 277 = .ok (.isub, 1) := by decide +kernel
theorem dX7_use_278 : decode (mc mX7_use) 278 = .ok (.iadd, 1) := by decide +kernel
theorem dX7_use_279 : decode (mc mX7_use) 279 = .ok (.iastore, 1) := by decide +kernel
theorem dX7_use_280 : decode (mc mX7_use) 280 = .ok (.iload 9, 2) := by decide +kernel
theorem dX7_use_282 : decode (mc mX7_use) 282 = .ok (.istore 7, 2) := by decide +kernel
theorem dX7_use_284 : decode (mc mX7_use) 284 = .ok (.aload_n 0, 1) := by decide +kernel
theorem dX7_use_285 : decode (mc mX7_use) 285 = .ok (.iload 8, 2) := by decide +kernel
theorem dX7_use_287 : decode (mc mX7_use) 287 = .ok (.iconst 3, 1) := by decide +kernel
theorem dX7_use_288 : decode (mc mX7_use) 288 = .ok (.invokevirtual 49, 3) := by decide +kernel
theorem dX7_use_291 : decode (mc mX7_use) 291 = .ok (.istore 8, 2) := by decide +kernel
theorem dX7_use_293 : decode (mc mX7_use) 293 = .ok (.goto (-77), 3) := by decide +kernel
theorem dX7_use_296 : decode (mc mX7_use) 296 = .ok (.aload_n 0, 1) := by decide +kernel
theorem dX7_use_297 : decode (mc mX7_use) 297 = .ok (.iload_n 1, 1) := by decide +kernel
theorem dX7_use_298 : decode (mc mX7_use) 298 = .ok (.iload 4, 2) := by decide +kernel
theorem dX7_use_300 : decode (mc mX7_use) 300 = .ok (.ineg, 1) := by decide +kernel
theorem dX7_use_301 : decode (mc mX7_use) 301 = .ok (.invokevirtual 142, 3) := by decide +kernel
theorem dX7_use_304 : decode (mc mX7_use) 304 = .ok (.aload_n 0, 1) := by decide +kernel
theorem dX7_use_305 : decode (mc mX7_use) 305 = .ok (.getfield 7, 3) := by decide +kernel
theorem dX7_use_308 : decode (mc mX7_use) 308 = .ok (.iconst 4, 1) := by decide +kernel
theorem dX7_use_309 : decode (mc mX7_use) 309 = .ok (.dup2, 1) := by decide +kernel
theorem dX7_use_310 : decode (mc mX7_use) 310 = .ok (.iaload, 1) := by decide +kernel
theorem dX7_use_311 : decode (mc mX7_use) 311 = .ok (.iload 6, 2) := by decide +kernel
theorem dX7_use_313 : decode (mc mX7_use) 313 = .ok (.iadd, 1) := by decide +kernel
theorem dX7_use_314 : decode (mc mX7_use) 314 = .ok (.iastore, 1) := by decide +kernel
theorem dX7_use_315 : decode (mc mX7_use) 315 = .ok (.iconst 0, 1) := by decide +kernel
theorem dX7_use_316 : decode (mc mX7_use) 316 = .ok (.istore 9, 2) := by decide +kernel
theorem dX7_use_318 : decode (mc mX7_use) 318 = .ok (.iload 9, 2) := by decide +kernel
theorem dX7_use_320 : decode (mc mX7_use) 320 = .ok (.aload_n 0, 1) := by decide +kernel
theorem dX7_use_321 : decode (mc mX7_use) 321 = .ok (.getfield 7, 3) := by decide +kernel
theorem dX7_use_324 : decode (mc mX7_use) 324 = .ok (.iconst 0, 1) := by decide +kernel
theorem dX7_use_325 : decode (mc mX7_use) 325 = .ok (.iaload, 1) := by decide +kernel
theorem dX7_use_326 : decode (mc mX7_use) 326 = .ok (.if_icmp .ge 28, 3) := by decide +kernel
theorem dX7_use_329 : decode (mc mX7_use) 329 = .ok (.aload_n 0, 1) := by decide +kernel
theorem dX7_use_330 : decode (mc mX7_use) 330 = .ok (.iload 9, 2) := by decide +kernel
theorem dX7_use_332 : decode (mc mX7_use) 332 = .ok (.aload_n 0, 1) := by decide +kernel
theorem dX7_use_333 : decode (mc mX7_use) 333 = .ok (.getfield 7, 3) := by decide +kernel
theorem dX7_use_336 : decode (mc mX7_use) 336 = .ok (.iload 5, 2) := by decide +kernel
theorem dX7_use_338 : decode (mc mX7_use) 338 = .ok (.bipush 7, 2) := by decide +kernel
theorem dX7_use_340 : decode (mc mX7_use) 340 = .ok (.iadd, 1) := by decide +kernel
theorem dX7_use_341 : decode (mc mX7_use) 341 = .ok (.iload 9, 2) := by decide +kernel
theorem dX7_use_343 : decode (mc mX7_use) 343 = .ok (.iadd, 1) := by decide +kernel
theorem dX7_use_344 : decode (mc mX7_use) 344 = .ok (.iaload, 1) := by decide +kernel
theorem dX7_use_345 : decode (mc mX7_use) 345 = .ok (.invokevirtual 142, 3) := by decide +kernel
theorem dX7_use_348 : decode (mc mX7_use) 348 = .ok (.iinc 9 1, 3) := by decide +kernel
theorem dX7_use_351 : decode (mc mX7_use) 351 = .ok (.goto (-33), 3) := by decide +kernel
theorem dX7_use_354 : decode (mc mX7_use) 354 = .ok (.aload_n 0, 1) := by decide +kernel
theorem dX7_use_355 : decode (mc mX7_use) 355 = .ok (.getfield 7, 3) := by decide +kernel
theorem dX7_use_358 : decode (mc mX7_use) 358 = .ok (.bipush 22, 2) := by decide +kernel
theorem dX7_use_360 : decode (mc mX7_use) 360 = .ok (.bipush 16, 2) := by decide +kernel
theorem dX7_use_362 : decode (mc mX7_use) 362 = .ok (.iload_n 2, 1) := by decide +kernel
theorem dX7_use_363 : decode (mc mX7_use) 363 = .ok (.imul, 1) := by decide +kernel
theorem dX7_use_364 : decode (mc mX7_use) 364 = .ok (.iadd, 1) := by decide +kernel
theorem dX7_use_365 : decode (mc mX7_use) 365 = .ok (.iconst 5, 1) := by decide +kernel
theorem dX7_use_366 : decode (mc mX7_use) 366 = .ok (.iadd, 1) := by decide +kernel
theorem dX7_use_367 : decode (mc mX7_use) 367 = .ok (.dup2, 1) := by decide +kernel
theorem dX7_use_368 : decode (mc mX7_use) 368 = .ok (.iaload, 1) := by decide +kernel
theorem dX7_use_369 : decode (mc mX7_use) 369 = .ok (.iconst 1, 1) := by decide +kernel
theorem dX7_use_370 : decode (mc mX7_use) 370 = .ok (.iadd, 1) := by decide +kernel
theorem dX7_use_371 : decode (mc mX7_use) 371 = .ok (.iastore, 1) := by decide +kernel
theorem dX7_use_372 : decode (mc mX7_use) 372 = .ok (.aload_n 0, 1) := by decide +kernel
theorem dX7_use_373 : decode (mc mX7_use) 373 = .ok (.getfield 7, 3) := by decide +kernel
theorem dX7_use_376 : decode (mc mX7_use) 376 = .ok (.iconst 2, 1) := by decide +kernel
theorem dX7_use_377 : decode (mc mX7_use) 377 = .ok (.dup2, 1) := by decide +kernel
theorem dX7_use_378 : decode (mc mX7_use) 378 = .ok (.iaload, 1) := by decide +kernel
theorem dX7_use_379 : decode (mc mX7_use) 379 = .ok (.iconst 1, 1) := by decide +kernel
theorem dX7_use_380 : decode (mc mX7_use) 380 = .ok (.iadd, 1) := by decide +kernel
theorem dX7_use_381 : decode (mc mX7_use) 381 = .ok (.iastore, 1) := by decide +kernel
theorem dX7_use_382 : decode (mc mX7_use) 382 = .ok (.aload_n 0, 1) := by decide +kernel
theorem dX7_use_383 : decode (mc mX7_use) 383 = .ok (.getfield 7, 3) := by decide +kernel
theorem dX7_use_386 : decode (mc mX7_use) 386 = .ok (.iconst 2, 1) := by decide +kernel
theorem dX7_use_387 : decode (mc mX7_use) 387 = .ok (.iaload, 1) := by decide +kernel
theorem dX7_use_388 : decode (mc mX7_use) 388 = .ok (.iconst 1, 1) := by decide +kernel
theorem dX7_use_389 : decode (mc mX7_use) 389 = .ok (.isub, 1) := by decide +kernel
theorem dX7_use_390 : decode (mc mX7_use) 390 = .ok (.ireturn, 1) := by decide +kernel
theorem dX7_note_0 : decode (mc mX7_note) 0 = .ok (.iload_n 1, 1) := by decide +kernel
theorem dX7_note_1 : decode (mc mX7_note) 1 = .ok (.iconst 0, 1) := by decide +kernel
theorem dX7_note_2 : decode (mc mX7_note) 2 = .ok (.aload_n 0, 1) := by decide +kernel
theorem dX7_note_3 : decode (mc mX7_note) 3 = .ok (.getfield 7, 3) := by decide +kernel
theorem dX7_note_6 : decode (mc mX7_note) 6 = .ok (.iconst 2, 1) := by decide +kernel
theorem dX7_note_7 : decode (mc mX7_note) 7 = .ok (.iaload, 1) := by decide +kernel
theorem dX7_note_8 : decode (mc mX7_note) 8 = .ok (.iconst 1, 1) := by decide +kernel
theorem dX7_note_9 : decode (mc mX7_note) 9 = .ok (.isub, 1) := by decide +kernel
theorem dX7_note_10 : decode (mc mX7_note) 10 = .ok (.invokestatic 45, 3) := by decide +kernel
theorem dX7_note_13 : decode (mc mX7_note) 13 = .ok (.ifCond .ne 6, 3) := by decide +kernel
theorem dX7_note_16 : decode (mc mX7_note) 16 = .ok (.ldc 87, 2) := by decide +kernel
theorem dX7_note_18 : decode (mc mX7_note) 18 = .ok (.ireturn, 1) := by decide +kernel
theorem dX7_note_19 : decode (mc mX7_note) 19 = .ok (.iload_n 2, 1) := by decide +kernel
theorem dX7_note_20 : decode (mc mX7_note) 20 = .ok (.iconst 0, 1) := by decide +kernel
theorem dX7_note_21 : decode (mc mX7_note) 21 = .ok (.bipush 12, 2) := by decide +kernel
theorem dX7_note_23 : decode (mc mX7_note) 23 = .ok (.invokestatic 45, 3) := by decide +kernel
theorem dX7_note_26 : decode (mc mX7_note) 26 = .ok (.ifCond .eq 12, 3) := by decide +kernel
theorem dX7_note_29 : decode (mc mX7_note) 29 = .ok (.aload_n 0, 1) := by decide +kernel
theorem dX7_note_30 : decode (mc mX7_note) 30 = .ok (.iload_n 1, 1) := by decide +kernel
theorem dX7_note_31 : decode (mc mX7_note) 31 = .ok (.iload_n 2, 1) := by decide +kernel
theorem dX7_note_32 : decode (mc mX7_note) 32 = .ok (.invokevirtual 100, 3) := by decide +kernel
theorem dX7_note_35 : decode (mc mX7_note) 35 = .ok (.goto 5, 3) := by decide +kernel
theorem dX7_note_38 : decode (mc mX7_note) 38 = .ok (.ldc 88, 2) := by decide +kernel
theorem dX7_note_40 : decode (mc mX7_note) 40 = .ok (.ireturn, 1) := by decide +kernel
theorem dX7_ends_0 : decode (mc mX7_ends) 0 = .ok (.iconst 0, 1) := by decide +kernel
theorem dX7_ends_1 : decode (mc mX7_ends) 1 = .ok (.istore_n 2, 1) := by decide +kernel
theorem dX7_ends_2 : decode (mc mX7_ends) 2 = .ok (.iload_n 2, 1) := by decide +kernel
theorem dX7_ends_3 : decode (mc mX7_ends) 3 = .ok (.bipush 20, 2) := by decide +kernel
theorem dX7_ends_5 : decode (mc mX7_ends) 5 = .ok (.if_icmp .ge 25, 3) := by decide +kernel
theorem dX7_ends_8 : decode (mc mX7_ends) 8 = .ok (.aload_n 0, 1) := by decide +kernel
theorem dX7_ends_9 : decode (mc mX7_ends) 9 = .ok (.getfield 22, 3) := by decide +kernel
theorem dX7_ends_12 : decode (mc mX7_ends) 12 = .ok (.iload_n 2, 1) := by decide +kernel
theorem dX7_ends_13 : decode (mc mX7_ends) 13 = .ok (.iload_n 2, 1) := by decide +kernel
theorem dX7_ends_14 : decode (mc mX7_ends) 14 = .ok (.iload_n 1, 1) := by decide +kernel
theorem dX7_ends_15 : decode (mc mX7_ends) 15 = .ok (.if_icmp .ne 7, 3) := by decide +kernel
theorem dX7_ends_18 : decode (mc mX7_ends) 18 = .ok (.iconst 1, 1) := by decide +kernel
theorem dX7_ends_19 : decode (mc mX7_ends) 19 = .ok (.goto 4, 3) := by decide +kernel
theorem dX7_ends_22 : decode (mc mX7_ends) 22 = .ok (.iconst 0, 1) := by decide +kernel
theorem dX7_ends_23 : decode (mc mX7_ends) 23 = .ok (.iastore, 1) := by decide +kernel
theorem dX7_ends_24 : decode (mc mX7_ends) 24 = .ok (.iinc 2 1, 3) := by decide +kernel
theorem dX7_ends_27 : decode (mc mX7_ends) 27 = .ok (.goto (-25), 3) := by decide +kernel
theorem dX7_ends_30 : decode (mc mX7_ends) 30 = .ok (.iconst 1, 1) := by decide +kernel
theorem dX7_ends_31 : decode (mc mX7_ends) 31 = .ok (.istore_n 2, 1) := by decide +kernel
theorem dX7_ends_32 : decode (mc mX7_ends) 32 = .ok (.iconst 0, 1) := by decide +kernel
theorem dX7_ends_33 : decode (mc mX7_ends) 33 = .ok (.istore_n 3, 1) := by decide +kernel
theorem dX7_ends_34 : decode (mc mX7_ends) 34 = .ok (.iload_n 3, 1) := by decide +kernel
theorem dX7_ends_35 : decode (mc mX7_ends) 35 = .ok (.aload_n 0, 1) := by decide +kernel
theorem dX7_ends_36 : decode (mc mX7_ends) 36 = .ok (.getfield 7, 3) := by decide +kernel
theorem dX7_ends_39 : decode (mc mX7_ends) 39 = .ok (.iconst 1, 1) := by decide +kernel
theorem dX7_ends_40 : decode (mc mX7_ends) 40 = .ok (.iaload, 1) := by decide +kernel
theorem dX7_ends_41 : decode (mc mX7_ends) 41 = .ok (.if_icmp .ge 96, 3) := by decide +kernel
theorem dX7_ends_44 : decode (mc mX7_ends) 44 = .ok (.aload_n 0, 1) := by decide +kernel
theorem dX7_ends_45 : decode (mc mX7_ends) 45 = .ok (.iload_n 3, 1) := by decide +kernel
theorem dX7_ends_46 : decode (mc mX7_ends) 46 = .ok (.iconst 3, 1) := by decide +kernel
theorem dX7_ends_47 : decode (mc mX7_ends) 47 = .ok (.invokevirtual 49, 3) := by decide +kernel
theorem dX7_ends_50 : decode (mc mX7_ends) 50 = .ok (.istore 4, 2) := by decide +kernel
theorem dX7_ends_52 : decode (mc mX7_ends) 52 = .ok (.iload_n 3, 1) := by decide +kernel
theorem dX7_ends_53 : decode (mc mX7_ends) 53 = .ok (.iload_n 1, 1) := by decide +kernel
theorem dX7_ends_54 : decode (mc mX7_ends) 54 = .ok (.if_icmp .eq 77, 3) := by decide +kernel
theorem dX7_ends_57 : decode (mc mX7_ends) 57 = .ok (.aload_n 0, 1) := by decide +kernel
theorem dX7_ends_58 : decode (mc mX7_ends) 58 = .ok (.iload_n 3, 1) := by decide +kernel
theorem dX7_ends_59 : decode (mc mX7_ends) 59 = .ok (.iconst 4, 1) := by decide +kernel
theorem dX7_ends_60 : decode (mc mX7_ends) 60 = .ok (.invokevirtual 49, 3) := by decide +kernel
theorem dX7_ends_63 : decode (mc mX7_ends) 63 = .ok (.iconst 1, 1) := by decide +kernel
theorem dX7_ends_64 : decode (mc mX7_ends) 64 = .ok (.if_icmp .ne 67, 3) := by decide +kernel
theorem dX7_ends_67 : decode (mc mX7_ends) 67 = .ok (.iload 4, 2) := by decide +kernel
theorem dX7_ends_69 : decode (mc mX7_ends) 69 = .ok (.ldc 121, 2) := by decide +kernel
theorem dX7_ends_71 : decode (mc mX7_ends) 71 = .ok (.if_icmp .eq 60, 3) := by decide +kernel
theorem dX7_ends_74 : decode (mc mX7_ends) 74 = .ok (.aload_n 0, 1) := by decide +kernel
theorem dX7_ends_75 : decode (mc mX7_ends) 75 = .ok (.getfield 22, 3) := by decide +kernel
theorem dX7_ends_78 : decode (mc mX7_ends) 78 = .ok (.iload 4, 2) := by decide +kernel
theorem dX7_ends_80 : decode (mc mX7_ends) 80 = .ok (.iaload, 1) := by decide +kernel
theorem dX7_ends_81 : decode (mc mX7_ends) 81 = .ok (.iconst 1, 1) := by decide +kernel
theorem dX7_ends_82 : decode (mc mX7_ends) 82 = .ok (.if_icmp .ne 49, 3) := by decide +kernel
theorem dX7_ends_85 : decode (mc mX7_ends) 85 = .ok (.aload_n 0, 1) := by decide +kernel
theorem dX7_ends_86 : decode (mc mX7_ends) 86 = .ok (.getfield 22, 3) := by decide +kernel
theorem dX7_ends_89 : decode (mc mX7_ends) 89 = .ok (.iload_n 3, 1) := by decide +kernel
theorem dX7_ends_90 : decode (mc mX7_ends) 90 = .ok (.aload_n 0, 1) := by decide +kernel
theorem dX7_ends_91 : decode (mc mX7_ends) 91 = .ok (.iload_n 3, 1) := by decide +kernel
theorem dX7_ends_92 : decode (mc mX7_ends) 92 = .ok (.iload 4, 2) := by decide +kernel
theorem dX7_ends_94 : decode (mc mX7_ends) 94 = .ok (.invokevirtual 93, 3) := by decide +kernel
theorem dX7_ends_97 : decode (mc mX7_ends) 97 = .ok (.aload_n 0, 1) := by decide +kernel
theorem dX7_ends_98 : decode (mc mX7_ends) 98 = .ok (.getfield 7, 3) := by decide +kernel
theorem dX7_ends_101 : decode (mc mX7_ends) 101 = .ok (.bipush 9, 2) := by decide +kernel
theorem dX7_ends_103 : decode (mc mX7_ends) 103 = .ok (.iaload, 1) := by decide +kernel
theorem dX7_ends_104 : decode (mc mX7_ends) 104 = .ok (.if_icmp .lt 7, 3) := by decide +kernel
theorem dX7_ends_107 : decode (mc mX7_ends) 107 = .ok (.iconst 1, 1) := by decide +kernel
theorem dX7_ends_108 : decode (mc mX7_ends) 108 = .ok (.goto 4, 3) := by decide +kernel
theorem dX7_ends_111 : decode (mc mX7_ends) 111 = .ok (.iconst 2, 1) := by decide +kernel
theorem dX7_ends_112 : decode (mc mX7_ends) 112 = .ok (.iastore, 1) := by decide +kernel
theorem dX7_ends_113 : decode (mc mX7_ends) 113 = .ok (.iload_n 2, 1) := by decide +kernel
theorem dX7_ends_114 : decode (mc mX7_ends) 114 = .ok (.aload_n 0, 1) := by decide +kernel
theorem dX7_ends_115 : decode (mc mX7_ends) 115 = .ok (.getfield 22, 3) := by decide +kernel
theorem dX7_ends_118 : decode (mc mX7_ends) 118 = .ok (.iload_n 3, 1) := by decide +kernel
theorem dX7_ends_119 : decode (mc mX7_ends) 119 = .ok (.iaload, 1) := by decide +kernel
theorem dX7_ends_120 : decode (mc mX7_ends) 120 = .ok (.iconst 1, 1) := by decide +kernel
theorem dX7_ends_121 : decode (mc mX7_ends) 121 = .ok (.if_icmp .ne 7, 3) := by decide +kernel
theorem dX7_ends_124 : decode (mc mX7_ends) 124 = .ok (.iconst 1, 1) := by decide +kernel
theorem dX7_ends_125 : decode (mc mX7_ends) 125 = .ok (.goto 4, 3) := by decide +kernel
theorem dX7_ends_128 : decode (mc mX7_ends) 128 = .ok (.iconst 0, 1) := by decide +kernel
theorem dX7_ends_129 : decode (mc mX7_ends) 129 = .ok (.iadd, 1) := by decide +kernel
theorem dX7_ends_130 : decode (mc mX7_ends) 130 = .ok (.istore_n 2, 1) := by decide +kernel
theorem dX7_ends_131 : decode (mc mX7_ends) 131 = .ok (.iinc 3 1, 3) := by decide +kernel
theorem dX7_ends_134 : decode (mc mX7_ends) 134 = .ok (.goto (-100), 3) := by decide +kernel
theorem dX7_ends_137 : decode (mc mX7_ends) 137 = .ok (.iload_n 2, 1) := by decide +kernel
theorem dX7_ends_138 : decode (mc mX7_ends) 138 = .ok (.ireturn, 1) := by decide +kernel
theorem dX7_goesBack_0 : decode (mc mX7_goesBack) 0 = .ok (.aload_n 0, 1) := by decide +kernel
theorem dX7_goesBack_1 : decode (mc mX7_goesBack) 1 = .ok (.iload_n 1, 1) := by decide +kernel
theorem dX7_goesBack_2 : decode (mc mX7_goesBack) 2 = .ok (.iconst 5, 1) := by decide +kernel
theorem dX7_goesBack_3 : decode (mc mX7_goesBack) 3 = .ok (.invokevirtual 100, 3) := by decide +kernel
theorem dX7_goesBack_6 : decode (mc mX7_goesBack) 6 = .ok (.ifCond .ne 45, 3) := by decide +kernel
theorem dX7_goesBack_9 : decode (mc mX7_goesBack) 9 = .ok (.aload_n 0, 1) := by decide +kernel
theorem dX7_goesBack_10 : decode (mc mX7_goesBack) 10 = .ok (.getfield 22, 3) := by decide +kernel
theorem dX7_goesBack_13 : decode (mc mX7_goesBack) 13 = .ok (.aload_n 0, 1) := by decide +kernel
theorem dX7_goesBack_14 : decode (mc mX7_goesBack) 14 = .ok (.iload_n 1, 1) := by decide +kernel
theorem dX7_goesBack_15 : decode (mc mX7_goesBack) 15 = .ok (.iconst 1, 1) := by decide +kernel
theorem dX7_goesBack_16 : decode (mc mX7_goesBack) 16 = .ok (.invokevirtual 100, 3) := by decide +kernel
theorem dX7_goesBack_19 : decode (mc mX7_goesBack) 19 = .ok (.iaload, 1) := by decide +kernel
theorem dX7_goesBack_20 : decode (mc mX7_goesBack) 20 = .ok (.iconst 1, 1) := by decide +kernel
theorem dX7_goesBack_21 : decode (mc mX7_goesBack) 21 = .ok (.if_icmp .ne 30, 3) := by decide +kernel
theorem dX7_goesBack_24 : decode (mc mX7_goesBack) 24 = .ok (.aload_n 0, 1) := by decide +kernel
theorem dX7_goesBack_25 : decode (mc mX7_goesBack) 25 = .ok (.iload_n 1, 1) := by decide +kernel
theorem dX7_goesBack_26 : decode (mc mX7_goesBack) 26 = .ok (.iconst 4, 1) := by decide +kernel
theorem dX7_goesBack_27 : decode (mc mX7_goesBack) 27 = .ok (.invokevirtual 100, 3) := by decide +kernel
theorem dX7_goesBack_30 : decode (mc mX7_goesBack) 30 = .ok (.aload_n 0, 1) := by decide +kernel
theorem dX7_goesBack_31 : decode (mc mX7_goesBack) 31 = .ok (.getfield 7, 3) := by decide +kernel
theorem dX7_goesBack_34 : decode (mc mX7_goesBack) 34 = .ok (.iconst 3, 1) := by decide +kernel
theorem dX7_goesBack_35 : decode (mc mX7_goesBack) 35 = .ok (.iaload, 1) := by decide +kernel
theorem dX7_goesBack_36 : decode (mc mX7_goesBack) 36 = .ok (.aload_n 0, 1) := by decide +kernel
theorem dX7_goesBack_37 : decode (mc mX7_goesBack) 37 = .ok (.getfield 7, 3) := by decide +kernel
theorem dX7_goesBack_40 : decode (mc mX7_goesBack) 40 = .ok (.bipush 8, 2) := by decide +kernel
theorem dX7_goesBack_42 : decode (mc mX7_goesBack) 42 = .ok (.iaload, 1) := by decide +kernel
theorem dX7_goesBack_43 : decode (mc mX7_goesBack) 43 = .ok (.isub, 1) := by decide +kernel
theorem dX7_goesBack_44 : decode (mc mX7_goesBack) 44 = .ok (.if_icmp .lt 7, 3) := by decide +kernel
theorem dX7_goesBack_47 : decode (mc mX7_goesBack) 47 = .ok (.iconst 1, 1) := by decide +kernel
theorem dX7_goesBack_48 : decode (mc mX7_goesBack) 48 = .ok (.goto 4, 3) := by decide +kernel
theorem dX7_goesBack_51 : decode (mc mX7_goesBack) 51 = .ok (.iconst 0, 1) := by decide +kernel
theorem dX7_goesBack_52 : decode (mc mX7_goesBack) 52 = .ok (.ireturn, 1) := by decide +kernel
theorem dX7_retract_0 : decode (mc mX7_retract) 0 = .ok (.aload_n 0, 1) := by decide +kernel
theorem dX7_retract_1 : decode (mc mX7_retract) 1 = .ok (.iload_n 1, 1) := by decide +kernel
theorem dX7_retract_2 : decode (mc mX7_retract) 2 = .ok (.invokevirtual 122, 3) := by decide +kernel
theorem dX7_retract_5 : decode (mc mX7_retract) 5 = .ok (.ifCond .ne 6, 3) := by decide +kernel
theorem dX7_retract_8 : decode (mc mX7_retract) 8 = .ok (.ldc 87, 2) := by decide +kernel
theorem dX7_retract_10 : decode (mc mX7_retract) 10 = .ok (.ireturn, 1) := by decide +kernel
theorem dX7_retract_11 : decode (mc mX7_retract) 11 = .ok (.aload_n 0, 1) := by decide +kernel
theorem dX7_retract_12 : decode (mc mX7_retract) 12 = .ok (.iload_n 1, 1) := by decide +kernel
theorem dX7_retract_13 : decode (mc mX7_retract) 13 = .ok (.iconst 4, 1) := by decide +kernel
theorem dX7_retract_14 : decode (mc mX7_retract) 14 = .ok (.invokevirtual 49, 3) := by decide +kernel
theorem dX7_retract_17 : decode (mc mX7_retract) 17 = .ok (.ifCond .ne 6, 3) := by decide +kernel
theorem dX7_retract_20 : decode (mc mX7_retract) 20 = .ok (.ldc 128, 2) := by decide +kernel
theorem dX7_retract_22 : decode (mc mX7_retract) 22 = .ok (.ireturn, 1) := by decide +kernel
theorem dX7_retract_23 : decode (mc mX7_retract) 23 = .ok (.aload_n 0, 1) := by decide +kernel
theorem dX7_retract_24 : decode (mc mX7_retract) 24 = .ok (.invokevirtual 80, 3) := by decide +kernel
theorem dX7_retract_27 : decode (mc mX7_retract) 27 = .ok (.aload_n 0, 1) := by decide +kernel
theorem dX7_retract_28 : decode (mc mX7_retract) 28 = .ok (.iload_n 1, 1) := by decide +kernel
theorem dX7_retract_29 : decode (mc mX7_retract) 29 = .ok (.invokevirtual 145, 3) := by decide +kernel
theorem dX7_retract_32 : decode (mc mX7_retract) 32 = .ok (.istore_n 2, 1) := by decide +kernel
theorem dX7_retract_33 : decode (mc mX7_retract) 33 = .ok (.iconst 0, 1) := by decide +kernel
theorem dX7_retract_34 : decode (mc mX7_retract) 34 = .ok (.istore_n 3, 1) := by decide +kernel
theorem dX7_retract_35 : decode (mc mX7_retract) 35 = .ok (.iload_n 3, 1) := by decide +kernel
theorem dX7_retract_36 : decode (mc mX7_retract) 36 = .ok (.aload_n 0, 1) := by decide +kernel
theorem dX7_retract_37 : decode (mc mX7_retract) 37 = .ok (.getfield 7, 3) := by decide +kernel
theorem dX7_retract_40 : decode (mc mX7_retract) 40 = .ok (.iconst 1, 1) := by decide +kernel
theorem dX7_retract_41 : decode (mc mX7_retract) 41 = .ok (.iaload, 1) := by decide +kernel
theorem dX7_retract_42 : decode (mc mX7_retract) 42 = .ok (.if_icmp .ge 78, 3) := by decide +kernel
theorem dX7_retract_45 : decode (mc mX7_retract) 45 = .ok (.aload_n 0, 1) := by decide +kernel
theorem dX7_retract_46 : decode (mc mX7_retract) 46 = .ok (.getfield 7, 3) := by decide +kernel
theorem dX7_retract_49 : decode (mc mX7_retract) 49 = .ok (.bipush 22, 2) := by decide +kernel
theorem dX7_retract_51 : decode (mc mX7_retract) 51 = .ok (.bipush 16, 2) := by decide +kernel
theorem dX7_retract_53 : decode (mc mX7_retract) 53 = .ok (.iload_n 3, 1) := by decide +kernel
theorem dX7_retract_54 : decode (mc mX7_retract) 54 = .ok (.imul, 1) := by decide +kernel
theorem dX7_retract_55 : decode (mc mX7_retract) 55 = .ok (.iadd, 1) := by decide +kernel
theorem dX7_retract_56 : decode (mc mX7_retract) 56 = .ok (.iconst 4, 1) := by decide +kernel
theorem dX7_retract_57 : decode (mc mX7_retract) 57 = .ok (.iadd, 1) := by decide +kernel
theorem dX7_retract_58 : decode (mc mX7_retract) 58 = .ok (.aload_n 0, 1) := by decide +kernel
theorem dX7_retract_59 : decode (mc mX7_retract) 59 = .ok (.getfield 22, 3) := by decide +kernel
theorem dX7_retract_62 : decode (mc mX7_retract) 62 = .ok (.iload_n 3, 1) := by decide +kernel
theorem dX7_retract_63 : decode (mc mX7_retract) 63 = .ok (.iaload, 1) := by decide +kernel
theorem dX7_retract_64 : decode (mc mX7_retract) 64 = .ok (.iconst 1, 1) := by decide +kernel
theorem dX7_retract_65 : decode (mc mX7_retract) 65 = .ok (.if_icmp .ne 7, 3) := by decide +kernel
theorem dX7_retract_68 : decode (mc mX7_retract) 68 = .ok (.iconst 0, 1) := by decide +kernel
theorem dX7_retract_69 : decode (mc mX7_retract) 69 = .ok (.goto 9, 3) := by decide +kernel
theorem dX7_retract_72 : decode (mc mX7_retract) 72 = .ok (.aload_n 0, 1) := by decide +kernel
theorem dX7_retract_73 : decode (mc mX7_retract) 73 = .ok (.iload_n 3, 1) := by decide +kernel
theorem dX7_retract_74 : decode (mc mX7_retract) 74 = .ok (.iconst 4, 1) := by decide +kernel
theorem dX7_retract_75 : decode (mc mX7_retract) 75 = .ok (.invokevirtual 49, 3) := by decide +kernel
theorem dX7_retract_78 : decode (mc mX7_retract) 78 = .ok (.iastore, 1) := by decide +kernel
theorem dX7_retract_79 : decode (mc mX7_retract) 79 = .ok (.aload_n 0, 1) := by decide +kernel
theorem dX7_retract_80 : decode (mc mX7_retract) 80 = .ok (.getfield 7, 3) := by decide +kernel
theorem dX7_retract_83 : decode (mc mX7_retract) 83 = .ok (.bipush 22, 2) := by decide +kernel
theorem dX7_retract_85 : decode (mc mX7_retract) 85 = .ok (.bipush 16, 2) := by decide +kernel
theorem dX7_retract_87 : decode (mc mX7_retract) 87 = .ok (.iload_n 3, 1) := by decide +kernel
theorem dX7_retract_88 : decode (mc mX7_retract) 88 = .ok (.imul, 1) := by decide +kernel
theorem dX7_retract_89 : decode (mc mX7_retract) 89 = .ok (.iadd, 1) := by decide +kernel
theorem dX7_retract_90 : decode (mc mX7_retract) 90 = .ok (.iconst 3, 1) := by decide +kernel
theorem dX7_retract_91 : decode (mc mX7_retract) 91 = .ok (.iadd, 1) := by decide +kernel
theorem dX7_retract_92 : decode (mc mX7_retract) 92 = .ok (.aload_n 0, 1) := by decide +kernel
theorem dX7_retract_93 : decode (mc mX7_retract) 93 = .ok (.getfield 22, 3) := by decide +kernel
theorem dX7_retract_96 : decode (mc mX7_retract) 96 = .ok (.iload_n 3, 1) := by decide +kernel
theorem dX7_retract_97 : decode (mc mX7_retract) 97 = .ok (.iaload, 1) := by decide +kernel
theorem dX7_retract_98 : decode (mc mX7_retract) 98 = .ok (.iconst 2, 1) := by decide +kernel
theorem dX7_retract_99 : decode (mc mX7_retract) 99 = .ok (.if_icmp .ne 8, 3) := by decide +kernel
theorem dX7_retract_102 : decode (mc mX7_retract) 102 = .ok (.ldc 121, 2) := by decide +kernel
theorem dX7_retract_104 : decode (mc mX7_retract) 104 = .ok (.goto 9, 3) := by decide +kernel
theorem dX7_retract_107 : decode (mc mX7_retract) 107 = .ok (.aload_n 0, 1) := by decide +kernel
theorem dX7_retract_108 : decode (mc mX7_retract) 108 = .ok (.iload_n 3, 1) := by decide +kernel
theorem dX7_retract_109 : decode (mc mX7_retract) 109 = .ok (.iconst 3, 1) := by decide +kernel
theorem dX7_retract_110 : decode (mc mX7_retract) 110 = .ok (.invokevirtual 49, 3) := by decide +kernel
theorem dX7_retract_113 : decode (mc mX7_retract) 113 = .ok (.iastore, 1) := by decide +kernel
theorem dX7_retract_114 : decode (mc mX7_retract) 114 = .ok (.iinc 3 1, 3) := by decide +kernel
theorem dX7_retract_117 : decode (mc mX7_retract) 117 = .ok (.goto (-82), 3) := by decide +kernel
theorem dX7_retract_120 : decode (mc mX7_retract) 120 = .ok (.iconst 0, 1) := by decide +kernel
theorem dX7_retract_121 : decode (mc mX7_retract) 121 = .ok (.istore_n 3, 1) := by decide +kernel
theorem dX7_retract_122 : decode (mc mX7_retract) 122 = .ok (.iload_n 3, 1) := by decide +kernel
theorem dX7_retract_123 : decode (mc mX7_retract) 123 = .ok (.aload_n 0, 1) := by decide +kernel
theorem dX7_retract_124 : decode (mc mX7_retract) 124 = .ok (.getfield 7, 3) := by decide +kernel
theorem dX7_retract_127 : decode (mc mX7_retract) 127 = .ok (.iconst 2, 1) := by decide +kernel
theorem dX7_retract_128 : decode (mc mX7_retract) 128 = .ok (.iaload, 1) := by decide +kernel
theorem dX7_retract_129 : decode (mc mX7_retract) 129 = .ok (.if_icmp .ge 102, 3) := by decide +kernel
theorem dX7_retract_132 : decode (mc mX7_retract) 132 = .ok (.aload_n 0, 1) := by decide +kernel
theorem dX7_retract_133 : decode (mc mX7_retract) 133 = .ok (.iload_n 3, 1) := by decide +kernel
theorem dX7_retract_134 : decode (mc mX7_retract) 134 = .ok (.invokevirtual 148, 3) := by decide +kernel
theorem dX7_retract_137 : decode (mc mX7_retract) 137 = .ok (.ifCond .eq 88, 3) := by decide +kernel
theorem dX7_retract_140 : decode (mc mX7_retract) 140 = .ok (.aload_n 0, 1) := by decide +kernel
theorem dX7_retract_141 : decode (mc mX7_retract) 141 = .ok (.getfield 7, 3) := by decide +kernel
theorem dX7_retract_144 : decode (mc mX7_retract) 144 = .ok (.sipush 342, 3) := by decide +kernel
theorem dX7_retract_147 : decode (mc mX7_retract) 147 = .ok (.bipush 13, 2) := by decide +kernel
theorem dX7_retract_149 : decode (mc mX7_retract) 149 = .ok (.iload_n 3, 1) := by decide +kernel
theorem dX7_retract_150 : decode (mc mX7_retract) 150 = .ok (.imul, 1) := by decide +kernel
theorem dX7_retract_151 : decode (mc mX7_retract) 151 = .ok (.iadd, 1) := by decide +kernel
theorem dX7_retract_152 : decode (mc mX7_retract) 152 = .ok (.iconst 5, 1) := by decide +kernel
theorem dX7_retract_153 : decode (mc mX7_retract) 153 = .ok (.iadd, 1) := by decide +kernel
theorem dX7_retract_154 : decode (mc mX7_retract) 154 = .ok (.iconst 1, 1) := by decide +kernel
theorem dX7_retract_155 : decode (mc mX7_retract) 155 = .ok (.iastore, 1) := by decide +kernel
theorem dX7_retract_156 : decode (mc mX7_retract) 156 = .ok (.aload_n 0, 1) := by decide +kernel
theorem dX7_retract_157 : decode (mc mX7_retract) 157 = .ok (.aload_n 0, 1) := by decide +kernel
theorem dX7_retract_158 : decode (mc mX7_retract) 158 = .ok (.iload_n 3, 1) := by decide +kernel
theorem dX7_retract_159 : decode (mc mX7_retract) 159 = .ok (.iconst 0, 1) := by decide +kernel
theorem dX7_retract_160 : decode (mc mX7_retract) 160 = .ok (.invokevirtual 100, 3) := by decide +kernel
theorem dX7_retract_163 : decode (mc mX7_retract) 163 = .ok (.aload_n 0, 1) := by decide +kernel
theorem dX7_retract_164 : decode (mc mX7_retract) 164 = .ok (.iload_n 3, 1) := by decide +kernel
theorem dX7_retract_165 : decode (mc mX7_retract) 165 = .ok (.iconst 3, 1) := by decide +kernel
theorem dX7_retract_166 : decode (mc mX7_retract) 166 = .ok (.invokevirtual 100, 3) := by decide +kernel
theorem dX7_retract_169 : decode (mc mX7_retract) 169 = .ok (.invokevirtual 142, 3) := by decide +kernel
theorem dX7_retract_172 : decode (mc mX7_retract) 172 = .ok (.aload_n 0, 1) := by decide +kernel
theorem dX7_retract_173 : decode (mc mX7_retract) 173 = .ok (.getfield 7, 3) := by decide +kernel
theorem dX7_retract_176 : decode (mc mX7_retract) 176 = .ok (.iconst 4, 1) := by decide +kernel
theorem dX7_retract_177 : decode (mc mX7_retract) 177 = .ok (.dup2, 1) := by decide +kernel
theorem dX7_retract_178 : decode (mc mX7_retract) 178 = .ok (.iaload, 1) := by decide +kernel
theorem dX7_retract_179 : decode (mc mX7_retract) 179 = .ok (.aload_n 0, 1) := by decide +kernel
theorem dX7_retract_180 : decode (mc mX7_retract) 180 = .ok (.iload_n 3, 1) := by decide +kernel
theorem dX7_retract_181 : decode (mc mX7_retract) 181 = .ok (.bipush 6, 2) := by decide +kernel
theorem dX7_retract_183 : decode (mc mX7_retract) 183 = .ok (.invokevirtual 100, 3) := by decide +kernel
theorem dX7_retract_186 : decode (mc mX7_retract) 186 = .ok (.isub, 1) := by decide +kernel
theorem dX7_retract_187 : decode (mc mX7_retract) 187 = .ok (.iastore, 1) := by decide +kernel
theorem dX7_retract_188 : decode (mc mX7_retract) 188 = .ok (.iconst 0, 1) := by decide +kernel
theorem dX7_retract_189 : decode (mc mX7_retract) 189 = .ok (.istore 4, 2) := by decide +kernel
theorem dX7_retract_191 : decode (mc mX7_retract) 191 = .ok (.iload 4, 2) := by decide +kernel
theorem dX7_retract_193 : decode (mc mX7_retract) 193 = .ok (.aload_n 0, 1) := by decide +kernel
theorem dX7_retract_194 : decode (mc mX7_retract) 194 = .ok (.getfield 7, 3) := by decide +kernel
theorem dX7_retract_197 : decode (mc mX7_retract) 197 = .ok (.iconst 0, 1) := by decide +kernel
theorem dX7_retract_198 : decode (mc mX7_retract) 198 = .ok (.iaload, 1) := by decide +kernel
theorem dX7_retract_199 : decode (mc mX7_retract) 199 = .ok (.if_icmp .ge 26, 3) := by decide +kernel
theorem dX7_retract_202 : decode (mc mX7_retract) 202 = .ok (.aload_n 0, 1) := by decide +kernel
theorem dX7_retract_203 : decode (mc mX7_retract) 203 = .ok (.iload 4, 2) := by decide +kernel
theorem dX7_retract_205 : decode (mc mX7_retract) 205 = .ok (.aload_n 0, 1) := by decide +kernel
theorem dX7_retract_206 : decode (mc mX7_retract) 206 = .ok (.iload_n 3, 1) := by decide +kernel
theorem dX7_retract_207 : decode (mc mX7_retract) 207 = .ok (.bipush 7, 2) := by decide +kernel
theorem dX7_retract_209 : decode (mc mX7_retract) 209 = .ok (.iload 4, 2) := by decide +kernel
theorem dX7_retract_211 : decode (mc mX7_retract) 211 = .ok (.iadd, 1) := by decide +kernel
theorem dX7_retract_212 : decode (mc mX7_retract) 212 = .ok (.invokevirtual 100, 3) := by decide +kernel
theorem dX7_retract_215 : decode (mc mX7_retract) 215 = .ok (.ineg, 1) := by decide +kernel
theorem dX7_retract_216 : decode (mc mX7_retract) 216 = .ok (.invokevirtual 142, 3) := by decide +kernel
theorem dX7_retract_219 : decode (mc mX7_retract) 219 = .ok (.iinc 4 1, 3) := by decide +kernel
theorem dX7_retract_222 : decode (mc mX7_retract) 222 = .ok (.goto (-31), 3) := by decide +kernel
theorem dX7_retract_225 : decode (mc mX7_retract) 225 = .ok (.iinc 3 1, 3) := by decide +kernel
theorem dX7_retract_228 : decode (mc mX7_retract) 228 = .ok (.goto (-106), 3) := by decide +kernel
theorem dX7_retract_231 : decode (mc mX7_retract) 231 = .ok (.iload_n 2, 1) := by decide +kernel
theorem dX7_retract_232 : decode (mc mX7_retract) 232 = .ok (.ireturn, 1) := by decide +kernel
theorem dX7_wouldPayBack_0 : decode (mc mX7_wouldPayBack) 0 = .ok (.aload_n 0, 1) := by decide +kernel
theorem dX7_wouldPayBack_1 : decode (mc mX7_wouldPayBack) 1 = .ok (.iload_n 1, 1) := by decide +kernel
theorem dX7_wouldPayBack_2 : decode (mc mX7_wouldPayBack) 2 = .ok (.invokevirtual 122, 3) := by decide +kernel
theorem dX7_wouldPayBack_5 : decode (mc mX7_wouldPayBack) 5 = .ok (.ifCond .ne 6, 3) := by decide +kernel
theorem dX7_wouldPayBack_8 : decode (mc mX7_wouldPayBack) 8 = .ok (.ldc 87, 2) := by decide +kernel
theorem dX7_wouldPayBack_10 : decode (mc mX7_wouldPayBack) 10 = .ok (.ireturn, 1) := by decide +kernel
theorem dX7_wouldPayBack_11 : decode (mc mX7_wouldPayBack) 11 = .ok (.aload_n 0, 1) := by decide +kernel
theorem dX7_wouldPayBack_12 : decode (mc mX7_wouldPayBack) 12 = .ok (.iload_n 1, 1) := by decide +kernel
theorem dX7_wouldPayBack_13 : decode (mc mX7_wouldPayBack) 13 = .ok (.iconst 4, 1) := by decide +kernel
theorem dX7_wouldPayBack_14 : decode (mc mX7_wouldPayBack) 14 = .ok (.invokevirtual 49, 3) := by decide +kernel
theorem dX7_wouldPayBack_17 : decode (mc mX7_wouldPayBack) 17 = .ok (.ifCond .ne 6, 3) := by decide +kernel
theorem dX7_wouldPayBack_20 : decode (mc mX7_wouldPayBack) 20 = .ok (.ldc 128, 2) := by decide +kernel
theorem dX7_wouldPayBack_22 : decode (mc mX7_wouldPayBack) 22 = .ok (.ireturn, 1) := by decide +kernel
theorem dX7_wouldPayBack_23 : decode (mc mX7_wouldPayBack) 23 = .ok (.aload_n 0, 1) := by decide +kernel
theorem dX7_wouldPayBack_24 : decode (mc mX7_wouldPayBack) 24 = .ok (.iload_n 1, 1) := by decide +kernel
theorem dX7_wouldPayBack_25 : decode (mc mX7_wouldPayBack) 25 = .ok (.invokevirtual 145, 3) := by decide +kernel
theorem dX7_wouldPayBack_28 : decode (mc mX7_wouldPayBack) 28 = .ok (.istore_n 2, 1) := by decide +kernel
theorem dX7_wouldPayBack_29 : decode (mc mX7_wouldPayBack) 29 = .ok (.iconst 0, 1) := by decide +kernel
theorem dX7_wouldPayBack_30 : decode (mc mX7_wouldPayBack) 30 = .ok (.istore_n 3, 1) := by decide +kernel
theorem dX7_wouldPayBack_31 : decode (mc mX7_wouldPayBack) 31 = .ok (.iconst 0, 1) := by decide +kernel
theorem dX7_wouldPayBack_32 : decode (mc mX7_wouldPayBack) 32 = .ok (.istore 4, 2) := by decide +kernel
theorem dX7_wouldPayBack_34 : decode (mc mX7_wouldPayBack) 34 = .ok (.iload 4, 2) := by decide +kernel
theorem dX7_wouldPayBack_36 : decode (mc mX7_wouldPayBack) 36 = .ok (.aload_n 0, 1) := by decide +kernel
theorem dX7_wouldPayBack_37 : decode (mc mX7_wouldPayBack) 37 = .ok (.getfield 7, 3) := by decide +kernel
theorem dX7_wouldPayBack_40 : decode (mc mX7_wouldPayBack) 40 = .ok (.iconst 2, 1) := by decide +kernel
theorem dX7_wouldPayBack_41 : decode (mc mX7_wouldPayBack) 41 = .ok (.iaload, 1) := by decide +kernel
theorem dX7_wouldPayBack_42 : decode (mc mX7_wouldPayBack) 42 = .ok (.if_icmp .ge 32, 3) := by decide +kernel
theorem dX7_wouldPayBack_45 : decode (mc mX7_wouldPayBack) 45 = .ok (.iload_n 3, 1) := by decide +kernel
theorem dX7_wouldPayBack_46 : decode (mc mX7_wouldPayBack) 46 = .ok (.aload_n 0, 1) := by decide +kernel
theorem dX7_wouldPayBack_47 : decode (mc mX7_wouldPayBack) 47 = .ok (.iload 4, 2) := by decide +kernel
theorem dX7_wouldPayBack_49 : decode (mc mX7_wouldPayBack) 49 = .ok (.invokevirtual 148, 3) := by decide +kernel
theorem dX7_wouldPayBack_52 : decode (mc mX7_wouldPayBack) 52 = .ok (.ifCond .eq 13, 3) := by decide +kernel
theorem dX7_wouldPayBack_55 : decode (mc mX7_wouldPayBack) 55 = .ok (.aload_n 0, 1) := by decide +kernel
theorem dX7_wouldPayBack_56 : decode (mc mX7_wouldPayBack) 56 = .ok (.iload 4, 2) := by decide +kernel
theorem dX7_wouldPayBack_58 : decode (mc mX7_wouldPayBack) 58 = .ok (.iconst 3, 1) := by decide +kernel
theorem dX7_wouldPayBack_59 : decode (mc mX7_wouldPayBack) 59 = .ok (.invokevirtual 100, 3) := by decide +kernel
theorem dX7_wouldPayBack_62 : decode (mc mX7_wouldPayBack) 62 = .ok (.goto 4, 3) := by decide +kernel
theorem dX7_wouldPayBack_65 : decode (mc mX7_wouldPayBack) 65 = .ok (.iconst 0, 1) := by decide +kernel
theorem dX7_wouldPayBack_66 : decode (mc mX7_wouldPayBack) 66 = .ok (.iadd, 1) := by decide +kernel
theorem dX7_wouldPayBack_67 : decode (mc mX7_wouldPayBack) 67 = .ok (.istore_n 3, 1) := by decide +kernel
theorem dX7_wouldPayBack_68 : decode (mc mX7_wouldPayBack) 68 = .ok (.iinc 4 1, 3) := by decide +kernel
theorem dX7_wouldPayBack_71 : decode (mc mX7_wouldPayBack) 71 = .ok (.goto (-37), 3) := by decide +kernel
theorem dX7_wouldPayBack_74 : decode (mc mX7_wouldPayBack) 74 = .ok (.iload_n 3, 1) := by decide +kernel
theorem dX7_wouldPayBack_75 : decode (mc mX7_wouldPayBack) 75 = .ok (.ireturn, 1) := by decide +kernel
theorem dX7_pass_0 : decode (mc mX7_pass) 0 = .ok (.iload_n 1, 1) := by decide +kernel
theorem dX7_pass_1 : decode (mc mX7_pass) 1 = .ok (.iconst 1, 1) := by decide +kernel
theorem dX7_pass_2 : decode (mc mX7_pass) 2 = .ok (.bipush 100, 2) := by decide +kernel
theorem dX7_pass_4 : decode (mc mX7_pass) 4 = .ok (.invokestatic 45, 3) := by decide +kernel
theorem dX7_pass_7 : decode (mc mX7_pass) 7 = .ok (.ifCond .ne 6, 3) := by decide +kernel
theorem dX7_pass_10 : decode (mc mX7_pass) 10 = .ok (.ldc 88, 2) := by decide +kernel
theorem dX7_pass_12 : decode (mc mX7_pass) 12 = .ok (.ireturn, 1) := by decide +kernel
theorem dX7_pass_13 : decode (mc mX7_pass) 13 = .ok (.aload_n 0, 1) := by decide +kernel
theorem dX7_pass_14 : decode (mc mX7_pass) 14 = .ok (.getfield 7, 3) := by decide +kernel
theorem dX7_pass_17 : decode (mc mX7_pass) 17 = .ok (.iconst 3, 1) := by decide +kernel
theorem dX7_pass_18 : decode (mc mX7_pass) 18 = .ok (.iaload, 1) := by decide +kernel
theorem dX7_pass_19 : decode (mc mX7_pass) 19 = .ok (.iload_n 1, 1) := by decide +kernel
theorem dX7_pass_20 : decode (mc mX7_pass) 20 = .ok (.iadd, 1) := by decide +kernel
theorem dX7_pass_21 : decode (mc mX7_pass) 21 = .ok (.sipush 10000, 3) := by decide +kernel
theorem dX7_pass_24 : decode (mc mX7_pass) 24 = .ok (.if_icmp .le 6, 3) := by decide +kernel
theorem dX7_pass_27 : decode (mc mX7_pass) 27 = .ok (.ldc 79, 2) := by decide +kernel
theorem dX7_pass_29 : decode (mc mX7_pass) 29 = .ok (.ireturn, 1) := by decide +kernel
theorem dX7_pass_30 : decode (mc mX7_pass) 30 = .ok (.aload_n 0, 1) := by decide +kernel
theorem dX7_pass_31 : decode (mc mX7_pass) 31 = .ok (.invokevirtual 80, 3) := by decide +kernel
theorem dX7_pass_34 : decode (mc mX7_pass) 34 = .ok (.aload_n 0, 1) := by decide +kernel
theorem dX7_pass_35 : decode (mc mX7_pass) 35 = .ok (.getfield 7, 3) := by decide +kernel
theorem dX7_pass_38 : decode (mc mX7_pass) 38 = .ok (.iconst 3, 1) := by decide +kernel
theorem dX7_pass_39 : decode (mc mX7_pass) 39 = .ok (.dup2, 1) := by decide +kernel
theorem dX7_pass_40 : decode (mc mX7_pass) 40 = .ok (.iaload, 1) := by decide +kernel
theorem dX7_pass_41 : decode (mc mX7_pass) 41 = .ok (.iload_n 1, 1) := by decide +kernel
theorem dX7_pass_42 : decode (mc mX7_pass) 42 = .ok (.iadd, 1) := by decide +kernel
theorem dX7_pass_43 : decode (mc mX7_pass) 43 = .ok (.iastore, 1) := by decide +kernel
theorem dX7_pass_44 : decode (mc mX7_pass) 44 = .ok (.aload_n 0, 1) := by decide +kernel
theorem dX7_pass_45 : decode (mc mX7_pass) 45 = .ok (.getfield 7, 3) := by decide +kernel
theorem dX7_pass_48 : decode (mc mX7_pass) 48 = .ok (.iconst 3, 1) := by decide +kernel
theorem dX7_pass_49 : decode (mc mX7_pass) 49 = .ok (.iaload, 1) := by decide +kernel
theorem dX7_pass_50 : decode (mc mX7_pass) 50 = .ok (.ireturn, 1) := by decide +kernel
theorem dX7_standsAt_0 : decode (mc mX7_standsAt) 0 = .ok (.aload_n 0, 1) := by decide +kernel
theorem dX7_standsAt_1 : decode (mc mX7_standsAt) 1 = .ok (.iload_n 1, 1) := by decide +kernel
theorem dX7_standsAt_2 : decode (mc mX7_standsAt) 2 = .ok (.iconst 4, 1) := by decide +kernel
theorem dX7_standsAt_3 : decode (mc mX7_standsAt) 3 = .ok (.invokevirtual 49, 3) := by decide +kernel
theorem dX7_standsAt_6 : decode (mc mX7_standsAt) 6 = .ok (.iconst 1, 1) := by decide +kernel
theorem dX7_standsAt_7 : decode (mc mX7_standsAt) 7 = .ok (.if_icmp .ne 22, 3) := by decide +kernel
theorem dX7_standsAt_10 : decode (mc mX7_standsAt) 10 = .ok (.iload_n 2, 1) := by decide +kernel
theorem dX7_standsAt_11 : decode (mc mX7_standsAt) 11 = .ok (.aload_n 0, 1) := by decide +kernel
theorem dX7_standsAt_12 : decode (mc mX7_standsAt) 12 = .ok (.iload_n 1, 1) := by decide +kernel
theorem dX7_standsAt_13 : decode (mc mX7_standsAt) 13 = .ok (.iconst 1, 1) := by decide +kernel
theorem dX7_standsAt_14 : decode (mc mX7_standsAt) 14 = .ok (.invokevirtual 49, 3) := by decide +kernel
theorem dX7_standsAt_17 : decode (mc mX7_standsAt) 17 = .ok (.iadd, 1) := by decide +kernel
theorem dX7_standsAt_18 : decode (mc mX7_standsAt) 18 = .ok (.aload_n 0, 1) := by decide +kernel
theorem dX7_standsAt_19 : decode (mc mX7_standsAt) 19 = .ok (.getfield 53, 3) := by decide +kernel
theorem dX7_standsAt_22 : decode (mc mX7_standsAt) 22 = .ok (.if_icmp .gt 7, 3) := by decide +kernel
theorem dX7_standsAt_25 : decode (mc mX7_standsAt) 25 = .ok (.iconst 1, 1) := by decide +kernel
theorem dX7_standsAt_26 : decode (mc mX7_standsAt) 26 = .ok (.goto 4, 3) := by decide +kernel
theorem dX7_standsAt_29 : decode (mc mX7_standsAt) 29 = .ok (.iconst 0, 1) := by decide +kernel
theorem dX7_standsAt_30 : decode (mc mX7_standsAt) 30 = .ok (.istore_n 3, 1) := by decide +kernel
theorem dX7_standsAt_31 : decode (mc mX7_standsAt) 31 = .ok (.iconst 0, 1) := by decide +kernel
theorem dX7_standsAt_32 : decode (mc mX7_standsAt) 32 = .ok (.istore 4, 2) := by decide +kernel
theorem dX7_standsAt_34 : decode (mc mX7_standsAt) 34 = .ok (.iload 4, 2) := by decide +kernel
theorem dX7_standsAt_36 : decode (mc mX7_standsAt) 36 = .ok (.aload_n 0, 1) := by decide +kernel
theorem dX7_standsAt_37 : decode (mc mX7_standsAt) 37 = .ok (.iload_n 1, 1) := by decide +kernel
theorem dX7_standsAt_38 : decode (mc mX7_standsAt) 38 = .ok (.iconst 1, 1) := by decide +kernel
theorem dX7_standsAt_39 : decode (mc mX7_standsAt) 39 = .ok (.invokevirtual 49, 3) := by decide +kernel
theorem dX7_standsAt_42 : decode (mc mX7_standsAt) 42 = .ok (.if_icmp .ge 41, 3) := by decide +kernel
theorem dX7_standsAt_45 : decode (mc mX7_standsAt) 45 = .ok (.iload_n 3, 1) := by decide +kernel
theorem dX7_standsAt_46 : decode (mc mX7_standsAt) 46 = .ok (.ifCond .eq 37, 3) := by decide +kernel
theorem dX7_standsAt_49 : decode (mc mX7_standsAt) 49 = .ok (.aload_n 0, 1) := by decide +kernel
theorem dX7_standsAt_50 : decode (mc mX7_standsAt) 50 = .ok (.getfield 13, 3) := by decide +kernel
theorem dX7_standsAt_53 : decode (mc mX7_standsAt) 53 = .ok (.iload_n 2, 1) := by decide +kernel
theorem dX7_standsAt_54 : decode (mc mX7_standsAt) 54 = .ok (.iload 4, 2) := by decide +kernel
theorem dX7_standsAt_56 : decode (mc mX7_standsAt) 56 = .ok (.iadd, 1) := by decide +kernel
theorem dX7_standsAt_57 : decode (mc mX7_standsAt) 57 = .ok (.iaload, 1) := by decide +kernel
theorem dX7_standsAt_58 : decode (mc mX7_standsAt) 58 = .ok (.aload_n 0, 1) := by decide +kernel
theorem dX7_standsAt_59 : decode (mc mX7_standsAt) 59 = .ok (.iload_n 1, 1) := by decide +kernel
theorem dX7_standsAt_60 : decode (mc mX7_standsAt) 60 = .ok (.bipush 6, 2) := by decide +kernel
theorem dX7_standsAt_62 : decode (mc mX7_standsAt) 62 = .ok (.iload 4, 2) := by decide +kernel
theorem dX7_standsAt_64 : decode (mc mX7_standsAt) 64 = .ok (.iadd, 1) := by decide +kernel
theorem dX7_standsAt_65 : decode (mc mX7_standsAt) 65 = .ok (.invokevirtual 49, 3) := by decide +kernel
theorem dX7_standsAt_68 : decode (mc mX7_standsAt) 68 = .ok (.if_icmp .ne 7, 3) := by decide +kernel
theorem dX7_standsAt_71 : decode (mc mX7_standsAt) 71 = .ok (.iconst 1, 1) := by decide +kernel
theorem dX7_standsAt_72 : decode (mc mX7_standsAt) 72 = .ok (.goto 4, 3) := by decide +kernel
theorem dX7_standsAt_75 : decode (mc mX7_standsAt) 75 = .ok (.iconst 0, 1) := by decide +kernel
theorem dX7_standsAt_76 : decode (mc mX7_standsAt) 76 = .ok (.istore_n 3, 1) := by decide +kernel
theorem dX7_standsAt_77 : decode (mc mX7_standsAt) 77 = .ok (.iinc 4 1, 3) := by decide +kernel
theorem dX7_standsAt_80 : decode (mc mX7_standsAt) 80 = .ok (.goto (-46), 3) := by decide +kernel
theorem dX7_standsAt_83 : decode (mc mX7_standsAt) 83 = .ok (.iload_n 3, 1) := by decide +kernel
theorem dX7_standsAt_84 : decode (mc mX7_standsAt) 84 = .ok (.ireturn, 1) := by decide +kernel
theorem dX7_composes_0 : decode (mc mX7_composes) 0 = .ok (.aload_n 0, 1) := by decide +kernel
theorem dX7_composes_1 : decode (mc mX7_composes) 1 = .ok (.invokevirtual 76, 3) := by decide +kernel
theorem dX7_composes_4 : decode (mc mX7_composes) 4 = .ok (.aload_n 0, 1) := by decide +kernel
theorem dX7_composes_5 : decode (mc mX7_composes) 5 = .ok (.getfield 25, 3) := by decide +kernel
theorem dX7_composes_8 : decode (mc mX7_composes) 8 = .ok (.aload_n 0, 1) := by decide +kernel
theorem dX7_composes_9 : decode (mc mX7_composes) 9 = .ok (.getfield 53, 3) := by decide +kernel
theorem dX7_composes_12 : decode (mc mX7_composes) 12 = .ok (.iconst 0, 1) := by decide +kernel
theorem dX7_composes_13 : decode (mc mX7_composes) 13 = .ok (.iastore, 1) := by decide +kernel
theorem dX7_composes_14 : decode (mc mX7_composes) 14 = .ok (.aload_n 0, 1) := by decide +kernel
theorem dX7_composes_15 : decode (mc mX7_composes) 15 = .ok (.getfield 28, 3) := by decide +kernel
theorem dX7_composes_18 : decode (mc mX7_composes) 18 = .ok (.aload_n 0, 1) := by decide +kernel
theorem dX7_composes_19 : decode (mc mX7_composes) 19 = .ok (.getfield 53, 3) := by decide +kernel
theorem dX7_composes_22 : decode (mc mX7_composes) 22 = .ok (.iconst 0, 1) := by decide +kernel
theorem dX7_composes_23 : decode (mc mX7_composes) 23 = .ok (.iastore, 1) := by decide +kernel
theorem dX7_composes_24 : decode (mc mX7_composes) 24 = .ok (.aload_n 0, 1) := by decide +kernel
theorem dX7_composes_25 : decode (mc mX7_composes) 25 = .ok (.getfield 53, 3) := by decide +kernel
theorem dX7_composes_28 : decode (mc mX7_composes) 28 = .ok (.iconst 1, 1) := by decide +kernel
theorem dX7_composes_29 : decode (mc mX7_composes) 29 = .ok (.isub, 1) := by decide +kernel
theorem dX7_composes_30 : decode (mc mX7_composes) 30 = .ok (.istore_n 2, 1) := by decide +kernel
theorem dX7_composes_31 : decode (mc mX7_composes) 31 = .ok (.iload_n 2, 1) := by decide +kernel
theorem dX7_composes_32 : decode (mc mX7_composes) 32 = .ok (.ifCond .lt 185, 3) := by decide +kernel
theorem dX7_composes_35 : decode (mc mX7_composes) 35 = .ok (.aload_n 0, 1) := by decide +kernel
theorem dX7_composes_36 : decode (mc mX7_composes) 36 = .ok (.getfield 25, 3) := by decide +kernel
theorem dX7_composes_39 : decode (mc mX7_composes) 39 = .ok (.iload_n 2, 1) := by decide +kernel
theorem dX7_composes_40 : decode (mc mX7_composes) 40 = .ok (.ldc 121, 2) := by decide +kernel
theorem dX7_composes_42 : decode (mc mX7_composes) 42 = .ok (.iastore, 1) := by decide +kernel
theorem dX7_composes_43 : decode (mc mX7_composes) 43 = .ok (.aload_n 0, 1) := by decide +kernel
theorem dX7_composes_44 : decode (mc mX7_composes) 44 = .ok (.getfield 28, 3) := by decide +kernel
theorem dX7_composes_47 : decode (mc mX7_composes) 47 = .ok (.iload_n 2, 1) := by decide +kernel
theorem dX7_composes_48 : decode (mc mX7_composes) 48 = .ok (.iconst 0, 1) := by decide +kernel
theorem dX7_composes_49 : decode (mc mX7_composes) 49 = .ok (.iastore, 1) := by decide +kernel
theorem dX7_composes_50 : decode (mc mX7_composes) 50 = .ok (.aload_n 0, 1) := by decide +kernel
theorem dX7_composes_51 : decode (mc mX7_composes) 51 = .ok (.getfield 31, 3) := by decide +kernel
theorem dX7_composes_54 : decode (mc mX7_composes) 54 = .ok (.iload_n 2, 1) := by decide +kernel
theorem dX7_composes_55 : decode (mc mX7_composes) 55 = .ok (.ldc 121, 2) := by decide +kernel
theorem dX7_composes_57 : decode (mc mX7_composes) 57 = .ok (.iastore, 1) := by decide +kernel
theorem dX7_composes_58 : decode (mc mX7_composes) 58 = .ok (.iconst 0, 1) := by decide +kernel
theorem dX7_composes_59 : decode (mc mX7_composes) 59 = .ok (.istore_n 3, 1) := by decide +kernel
theorem dX7_composes_60 : decode (mc mX7_composes) 60 = .ok (.iload_n 3, 1) := by decide +kernel
theorem dX7_composes_61 : decode (mc mX7_composes) 61 = .ok (.aload_n 0, 1) := by decide +kernel
theorem dX7_composes_62 : decode (mc mX7_composes) 62 = .ok (.getfield 7, 3) := by decide +kernel
theorem dX7_composes_65 : decode (mc mX7_composes) 65 = .ok (.iconst 1, 1) := by decide +kernel
theorem dX7_composes_66 : decode (mc mX7_composes) 66 = .ok (.iaload, 1) := by decide +kernel
theorem dX7_composes_67 : decode (mc mX7_composes) 67 = .ok (.if_icmp .ge 144, 3) := by decide +kernel
theorem dX7_composes_70 : decode (mc mX7_composes) 70 = .ok (.aload_n 0, 1) := by decide +kernel
theorem dX7_composes_71 : decode (mc mX7_composes) 71 = .ok (.iload_n 3, 1) := by decide +kernel
theorem dX7_composes_72 : decode (mc mX7_composes) 72 = .ok (.iload_n 2, 1) := by decide +kernel
theorem dX7_composes_73 : decode (mc mX7_composes) 73 = .ok (.invokevirtual 151, 3) := by decide +kernel
theorem dX7_composes_76 : decode (mc mX7_composes) 76 = .ok (.ifCond .eq 129, 3) := by decide +kernel
theorem dX7_composes_79 : decode (mc mX7_composes) 79 = .ok (.aload_n 0, 1) := by decide +kernel
theorem dX7_composes_80 : decode (mc mX7_composes) 80 = .ok (.getfield 25, 3) := by decide +kernel
theorem dX7_composes_83 : decode (mc mX7_composes) 83 = .ok (.iload_n 2, 1) := by decide +kernel
theorem dX7_composes_84 : decode (mc mX7_composes) 84 = .ok (.aload_n 0, 1) := by decide +kernel
theorem dX7_composes_85 : decode (mc mX7_composes) 85 = .ok (.iload_n 3, 1) := by decide +kernel
theorem dX7_composes_86 : decode (mc mX7_composes) 86 = .ok (.iconst 1, 1) := by decide +kernel
theorem dX7_composes_87 : decode (mc mX7_composes) 87 = .ok (.invokevirtual 49, 3) := by decide +kernel
theorem dX7_composes_90 : decode (mc mX7_composes) 90 = .ok (.iadd, 1) := by decide +kernel
theorem dX7_composes_91 : decode (mc mX7_composes) 91 = .ok (.iaload, 1) := by decide +kernel
theorem dX7_composes_92 : decode (mc mX7_composes) 92 = .ok (.ldc 121, 2) := by decide +kernel
theorem dX7_composes_94 : decode (mc mX7_composes) 94 = .ok (.if_icmp .eq 111, 3) := by decide +kernel
theorem dX7_composes_97 : decode (mc mX7_composes) 97 = .ok (.aload_n 0, 1) := by decide +kernel
theorem dX7_composes_98 : decode (mc mX7_composes) 98 = .ok (.getfield 25, 3) := by decide +kernel
theorem dX7_composes_101 : decode (mc mX7_composes) 101 = .ok (.iload_n 2, 1) := by decide +kernel
theorem dX7_composes_102 : decode (mc mX7_composes) 102 = .ok (.aload_n 0, 1) := by decide +kernel
theorem dX7_composes_103 : decode (mc mX7_composes) 103 = .ok (.iload_n 3, 1) := by decide +kernel
theorem dX7_composes_104 : decode (mc mX7_composes) 104 = .ok (.iconst 1, 1) := by decide +kernel
theorem dX7_composes_105 : decode (mc mX7_composes) 105 = .ok (.invokevirtual 49, 3) := by decide +kernel
theorem dX7_composes_108 : decode (mc mX7_composes) 108 = .ok (.iadd, 1) := by decide +kernel
theorem dX7_composes_109 : decode (mc mX7_composes) 109 = .ok (.iaload, 1) := by decide +kernel
theorem dX7_composes_110 : decode (mc mX7_composes) 110 = .ok (.aload_n 0, 1) := by decide +kernel
theorem dX7_composes_111 : decode (mc mX7_composes) 111 = .ok (.iload_n 3, 1) := by decide +kernel
theorem dX7_composes_112 : decode (mc mX7_composes) 112 = .ok (.bipush 100, 2) := by decide +kernel
theorem dX7_composes_114 : decode (mc mX7_composes) 114 = .ok (.iload_n 1, 1) := by decide +kernel
theorem dX7_composes_115 : decode (mc mX7_composes) 115 = .ok (.invokevirtual 138, 3) := by decide +kernel
theorem dX7_composes_118 : decode (mc mX7_composes) 118 = .ok (.iadd, 1) := by decide +kernel
theorem dX7_composes_119 : decode (mc mX7_composes) 119 = .ok (.istore 4, 2) := by decide +kernel
theorem dX7_composes_121 : decode (mc mX7_composes) 121 = .ok (.iconst 1, 1) := by decide +kernel
theorem dX7_composes_122 : decode (mc mX7_composes) 122 = .ok (.aload_n 0, 1) := by decide +kernel
theorem dX7_composes_123 : decode (mc mX7_composes) 123 = .ok (.getfield 28, 3) := by decide +kernel
theorem dX7_composes_126 : decode (mc mX7_composes) 126 = .ok (.iload_n 2, 1) := by decide +kernel
theorem dX7_composes_127 : decode (mc mX7_composes) 127 = .ok (.aload_n 0, 1) := by decide +kernel
theorem dX7_composes_128 : decode (mc mX7_composes) 128 = .ok (.iload_n 3, 1) := by decide +kernel
theorem dX7_composes_129 : decode (mc mX7_composes) 129 = .ok (.iconst 1, 1) := by decide +kernel
theorem dX7_composes_130 : decode (mc mX7_composes) 130 = .ok (.invokevirtual 49, 3) := by decide +kernel
theorem dX7_composes_133 : decode (mc mX7_composes) 133 = .ok (.iadd, 1) := by decide +kernel
theorem dX7_composes_134 : decode (mc mX7_composes) 134 = .ok (.iaload, 1) := by decide +kernel
theorem dX7_composes_135 : decode (mc mX7_composes) 135 = .ok (.iadd, 1) := by decide +kernel
theorem dX7_composes_136 : decode (mc mX7_composes) 136 = .ok (.istore 5, 2) := by decide +kernel
theorem dX7_composes_138 : decode (mc mX7_composes) 138 = .ok (.aload_n 0, 1) := by decide +kernel
theorem dX7_composes_139 : decode (mc mX7_composes) 139 = .ok (.getfield 25, 3) := by decide +kernel
theorem dX7_composes_142 : decode (mc mX7_composes) 142 = .ok (.iload_n 2, 1) := by decide +kernel
theorem dX7_composes_143 : decode (mc mX7_composes) 143 = .ok (.iaload, 1) := by decide +kernel
theorem dX7_composes_144 : decode (mc mX7_composes) 144 = .ok (.ldc 121, 2) := by decide +kernel
theorem dX7_composes_146 : decode (mc mX7_composes) 146 = .ok (.if_icmp .eq 36, 3) := by decide +kernel
theorem dX7_composes_149 : decode (mc mX7_composes) 149 = .ok (.iload 4, 2) := by decide +kernel
theorem dX7_composes_151 : decode (mc mX7_composes) 151 = .ok (.aload_n 0, 1) := by decide +kernel
theorem dX7_composes_152 : decode (mc mX7_composes) 152 = .ok (.getfield 25, 3) := by decide +kernel
theorem dX7_composes_155 : decode (mc mX7_composes) 155 = .ok (.iload_n 2, 1) := by decide +kernel
theorem dX7_composes_156 : decode (mc mX7_composes) 156 = .ok (.iaload, 1) := by decide +kernel
theorem dX7_composes_157 : decode (mc mX7_composes) 157 = .ok (.if_icmp .lt 25, 3) := by decide +kernel
theorem dX7_composes_160 : decode (mc mX7_composes) 160 = .ok (.iload 4, 2) := by decide +kernel
theorem dX7_composes_162 : decode (mc mX7_composes) 162 = .ok (.aload_n 0, 1) := by decide +kernel
theorem dX7_composes_163 : decode (mc mX7_composes) 163 = .ok (.getfield 25, 3) := by decide +kernel
theorem dX7_composes_166 : decode (mc mX7_composes) 166 = .ok (.iload_n 2, 1) := by decide +kernel
theorem dX7_composes_167 : decode (mc mX7_composes) 167 = .ok (.iaload, 1) := by decide +kernel
theorem dX7_composes_168 : decode (mc mX7_composes) 168 = .ok (.if_icmp .ne 37, 3) := by decide +kernel
theorem dX7_composes_171 : decode (mc mX7_composes) 171 = .ok (.iload 5, 2) := by decide +kernel
theorem dX7_composes_173 : decode (mc mX7_composes) 173 = .ok (.aload_n 0, 1) := by decide +kernel
theorem dX7_composes_174 : decode (mc mX7_composes) 174 = .ok (.getfield 28, 3) := by decide +kernel
theorem dX7_composes_177 : decode (mc mX7_composes) 177 = .ok (.iload_n 2, 1) := by decide +kernel
theorem dX7_composes_178 : decode (mc mX7_composes) 178 = .ok (.iaload, 1) := by decide +kernel
theorem dX7_composes_179 : decode (mc mX7_composes) 179 = .ok (.if_icmp .ge 26, 3) := by decide +kernel
theorem dX7_composes_182 : decode (mc mX7_composes) 182 = .ok (.aload_n 0, 1) := by decide +kernel
theorem dX7_composes_183 : decode (mc mX7_composes) 183 = .ok (.getfield 25, 3) := by decide +kernel
theorem dX7_composes_186 : decode (mc mX7_composes) 186 = .ok (.iload_n 2, 1) := by decide +kernel
theorem dX7_composes_187 : decode (mc mX7_composes) 187 = .ok (.iload 4, 2) := by decide +kernel
theorem dX7_composes_189 : decode (mc mX7_composes) 189 = .ok (.iastore, 1) := by decide +kernel
theorem dX7_composes_190 : decode (mc mX7_composes) 190 = .ok (.aload_n 0, 1) := by decide +kernel
theorem dX7_composes_191 : decode (mc mX7_composes) 191 = .ok (.getfield 28, 3) := by decide +kernel
theorem dX7_composes_194 : decode (mc mX7_composes) 194 = .ok (.iload_n 2, 1) := by decide +kernel
theorem dX7_composes_195 : decode (mc mX7_composes) 195 = .ok (.iload 5, 2) := by decide +kernel
theorem dX7_composes_197 : decode (mc mX7_composes) 197 = .ok (.iastore, 1) := by decide +kernel
theorem dX7_composes_198 : decode (mc mX7_composes) 198 = .ok (.aload_n 0, 1) := by decide +kernel
theorem dX7_composes_199 : decode (mc mX7_composes) 199 = .ok (.getfield 31, 3) := by decide +kernel
theorem dX7_composes_202 : decode (mc mX7_composes) 202 = .ok (.iload_n 2, 1) := by decide +kernel
theorem dX7_composes_203 : decode (mc mX7_composes) 203 = .ok (.iload_n 3, 1) := by decide +kernel
theorem dX7_composes_204 : decode (mc mX7_composes) 204 = .ok (.iastore, 1) := by decide +kernel
theorem dX7_composes_205 : decode (mc mX7_composes) 205 = .ok (.iinc 3 1, 3) := by decide +kernel
theorem dX7_composes_208 : decode (mc mX7_composes) 208 = .ok (.goto (-148), 3) := by decide +kernel
theorem dX7_composes_211 : decode (mc mX7_composes) 211 = .ok (.iinc 2 (-1), 3) := by decide +kernel
theorem dX7_composes_214 : decode (mc mX7_composes) 214 = .ok (.goto (-183), 3) := by decide +kernel
theorem dX7_composes_217 : decode (mc mX7_composes) 217 = .ok (.return_, 1) := by decide +kernel
theorem dX7_cheapest_0 : decode (mc mX7_cheapest) 0 = .ok (.aload_n 0, 1) := by decide +kernel
theorem dX7_cheapest_1 : decode (mc mX7_cheapest) 1 = .ok (.iload_n 1, 1) := by decide +kernel
theorem dX7_cheapest_2 : decode (mc mX7_cheapest) 2 = .ok (.invokevirtual 83, 3) := by decide +kernel
theorem dX7_cheapest_5 : decode (mc mX7_cheapest) 5 = .ok (.ifCond .ne 6, 3) := by decide +kernel
theorem dX7_cheapest_8 : decode (mc mX7_cheapest) 8 = .ok (.ldc 87, 2) := by decide +kernel
theorem dX7_cheapest_10 : decode (mc mX7_cheapest) 10 = .ok (.ireturn, 1) := by decide +kernel
theorem dX7_cheapest_11 : decode (mc mX7_cheapest) 11 = .ok (.aload_n 0, 1) := by decide +kernel
theorem dX7_cheapest_12 : decode (mc mX7_cheapest) 12 = .ok (.invokevirtual 125, 3) := by decide +kernel
theorem dX7_cheapest_15 : decode (mc mX7_cheapest) 15 = .ok (.ldc 121, 2) := by decide +kernel
theorem dX7_cheapest_17 : decode (mc mX7_cheapest) 17 = .ok (.if_icmp .eq 6, 3) := by decide +kernel
theorem dX7_cheapest_20 : decode (mc mX7_cheapest) 20 = .ok (.ldc 128, 2) := by decide +kernel
theorem dX7_cheapest_22 : decode (mc mX7_cheapest) 22 = .ok (.ireturn, 1) := by decide +kernel
theorem dX7_cheapest_23 : decode (mc mX7_cheapest) 23 = .ok (.aload_n 0, 1) := by decide +kernel
theorem dX7_cheapest_24 : decode (mc mX7_cheapest) 24 = .ok (.iload_n 1, 1) := by decide +kernel
theorem dX7_cheapest_25 : decode (mc mX7_cheapest) 25 = .ok (.invokevirtual 154, 3) := by decide +kernel
theorem dX7_cheapest_28 : decode (mc mX7_cheapest) 28 = .ok (.aload_n 0, 1) := by decide +kernel
theorem dX7_cheapest_29 : decode (mc mX7_cheapest) 29 = .ok (.getfield 25, 3) := by decide +kernel
theorem dX7_cheapest_32 : decode (mc mX7_cheapest) 32 = .ok (.iconst 0, 1) := by decide +kernel
theorem dX7_cheapest_33 : decode (mc mX7_cheapest) 33 = .ok (.iaload, 1) := by decide +kernel
theorem dX7_cheapest_34 : decode (mc mX7_cheapest) 34 = .ok (.ireturn, 1) := by decide +kernel
theorem dX7_piece_0 : decode (mc mX7_piece) 0 = .ok (.aload_n 0, 1) := by decide +kernel
theorem dX7_piece_1 : decode (mc mX7_piece) 1 = .ok (.iload_n 1, 1) := by decide +kernel
theorem dX7_piece_2 : decode (mc mX7_piece) 2 = .ok (.invokevirtual 83, 3) := by decide +kernel
theorem dX7_piece_5 : decode (mc mX7_piece) 5 = .ok (.ifCond .ne 6, 3) := by decide +kernel
theorem dX7_piece_8 : decode (mc mX7_piece) 8 = .ok (.ldc 87, 2) := by decide +kernel
theorem dX7_piece_10 : decode (mc mX7_piece) 10 = .ok (.ireturn, 1) := by decide +kernel
theorem dX7_piece_11 : decode (mc mX7_piece) 11 = .ok (.iload_n 2, 1) := by decide +kernel
theorem dX7_piece_12 : decode (mc mX7_piece) 12 = .ok (.ifCond .ge 6, 3) := by decide +kernel
theorem dX7_piece_15 : decode (mc mX7_piece) 15 = .ok (.ldc 88, 2) := by decide +kernel
theorem dX7_piece_17 : decode (mc mX7_piece) 17 = .ok (.ireturn, 1) := by decide +kernel
theorem dX7_piece_18 : decode (mc mX7_piece) 18 = .ok (.aload_n 0, 1) := by decide +kernel
theorem dX7_piece_19 : decode (mc mX7_piece) 19 = .ok (.invokevirtual 125, 3) := by decide +kernel
theorem dX7_piece_22 : decode (mc mX7_piece) 22 = .ok (.ldc 121, 2) := by decide +kernel
theorem dX7_piece_24 : decode (mc mX7_piece) 24 = .ok (.if_icmp .eq 6, 3) := by decide +kernel
theorem dX7_piece_27 : decode (mc mX7_piece) 27 = .ok (.ldc 128, 2) := by decide +kernel
theorem dX7_piece_29 : decode (mc mX7_piece) 29 = .ok (.ireturn, 1) := by decide +kernel
theorem dX7_piece_30 : decode (mc mX7_piece) 30 = .ok (.aload_n 0, 1) := by decide +kernel
theorem dX7_piece_31 : decode (mc mX7_piece) 31 = .ok (.iload_n 1, 1) := by decide +kernel
theorem dX7_piece_32 : decode (mc mX7_piece) 32 = .ok (.invokevirtual 154, 3) := by decide +kernel
theorem dX7_piece_35 : decode (mc mX7_piece) 35 = .ok (.aload_n 0, 1) := by decide +kernel
theorem dX7_piece_36 : decode (mc mX7_piece) 36 = .ok (.getfield 25, 3) := by decide +kernel
theorem dX7_piece_39 : decode (mc mX7_piece) 39 = .ok (.iconst 0, 1) := by decide +kernel
theorem dX7_piece_40 : decode (mc mX7_piece) 40 = .ok (.iaload, 1) := by decide +kernel
theorem dX7_piece_41 : decode (mc mX7_piece) 41 = .ok (.ldc 121, 2) := by decide +kernel
theorem dX7_piece_43 : decode (mc mX7_piece) 43 = .ok (.if_icmp .eq 13, 3) := by decide +kernel
theorem dX7_piece_46 : decode (mc mX7_piece) 46 = .ok (.iload_n 2, 1) := by decide +kernel
theorem dX7_piece_47 : decode (mc mX7_piece) 47 = .ok (.aload_n 0, 1) := by decide +kernel
theorem dX7_piece_48 : decode (mc mX7_piece) 48 = .ok (.getfield 28, 3) := by decide +kernel
theorem dX7_piece_51 : decode (mc mX7_piece) 51 = .ok (.iconst 0, 1) := by decide +kernel
theorem dX7_piece_52 : decode (mc mX7_piece) 52 = .ok (.iaload, 1) := by decide +kernel
theorem dX7_piece_53 : decode (mc mX7_piece) 53 = .ok (.if_icmp .lt 6, 3) := by decide +kernel
theorem dX7_piece_56 : decode (mc mX7_piece) 56 = .ok (.ldc 121, 2) := by decide +kernel
theorem dX7_piece_58 : decode (mc mX7_piece) 58 = .ok (.ireturn, 1) := by decide +kernel
theorem dX7_piece_59 : decode (mc mX7_piece) 59 = .ok (.iconst 0, 1) := by decide +kernel
theorem dX7_piece_60 : decode (mc mX7_piece) 60 = .ok (.istore_n 3, 1) := by decide +kernel
theorem dX7_piece_61 : decode (mc mX7_piece) 61 = .ok (.iconst 0, 1) := by decide +kernel
theorem dX7_piece_62 : decode (mc mX7_piece) 62 = .ok (.istore 4, 2) := by decide +kernel
theorem dX7_piece_64 : decode (mc mX7_piece) 64 = .ok (.iload 4, 2) := by decide +kernel
theorem dX7_piece_66 : decode (mc mX7_piece) 66 = .ok (.iload_n 2, 1) := by decide +kernel
theorem dX7_piece_67 : decode (mc mX7_piece) 67 = .ok (.if_icmp .ge 23, 3) := by decide +kernel
theorem dX7_piece_70 : decode (mc mX7_piece) 70 = .ok (.iload_n 3, 1) := by decide +kernel
theorem dX7_piece_71 : decode (mc mX7_piece) 71 = .ok (.aload_n 0, 1) := by decide +kernel
theorem dX7_piece_72 : decode (mc mX7_piece) 72 = .ok (.aload_n 0, 1) := by decide +kernel
theorem dX7_piece_73 : decode (mc mX7_piece) 73 = .ok (.getfield 31, 3) := by decide +kernel
theorem dX7_piece_76 : decode (mc mX7_piece) 76 = .ok (.iload_n 3, 1) := by decide +kernel
theorem dX7_piece_77 : decode (mc mX7_piece) 77 = .ok (.iaload, 1) := by decide +kernel
theorem dX7_piece_78 : decode (mc mX7_piece) 78 = .ok (.iconst 1, 1) := by decide +kernel
theorem dX7_piece_79 : decode (mc mX7_piece) 79 = .ok (.invokevirtual 49, 3) := by decide +kernel
theorem dX7_piece_82 : decode (mc mX7_piece) 82 = .ok (.iadd, 1) := by decide +kernel
theorem dX7_piece_83 : decode (mc mX7_piece) 83 = .ok (.istore_n 3, 1) := by decide +kernel
theorem dX7_piece_84 : decode (mc mX7_piece) 84 = .ok (.iinc 4 1, 3) := by decide +kernel
theorem dX7_piece_87 : decode (mc mX7_piece) 87 = .ok (.goto (-23), 3) := by decide +kernel
theorem dX7_piece_90 : decode (mc mX7_piece) 90 = .ok (.aload_n 0, 1) := by decide +kernel
theorem dX7_piece_91 : decode (mc mX7_piece) 91 = .ok (.getfield 31, 3) := by decide +kernel
theorem dX7_piece_94 : decode (mc mX7_piece) 94 = .ok (.iload_n 3, 1) := by decide +kernel
theorem dX7_piece_95 : decode (mc mX7_piece) 95 = .ok (.iaload, 1) := by decide +kernel
theorem dX7_piece_96 : decode (mc mX7_piece) 96 = .ok (.ireturn, 1) := by decide +kernel
theorem dX7_type_0 : decode (mc mX7_type) 0 = .ok (.iload_n 1, 1) := by decide +kernel
theorem dX7_type_1 : decode (mc mX7_type) 1 = .ok (.iconst 0, 1) := by decide +kernel
theorem dX7_type_2 : decode (mc mX7_type) 2 = .ok (.sipush 255, 3) := by decide +kernel
theorem dX7_type_5 : decode (mc mX7_type) 5 = .ok (.invokestatic 45, 3) := by decide +kernel
theorem dX7_type_8 : decode (mc mX7_type) 8 = .ok (.ifCond .ne 6, 3) := by decide +kernel
theorem dX7_type_11 : decode (mc mX7_type) 11 = .ok (.ldc 88, 2) := by decide +kernel
theorem dX7_type_13 : decode (mc mX7_type) 13 = .ok (.ireturn, 1) := by decide +kernel
theorem dX7_type_14 : decode (mc mX7_type) 14 = .ok (.aload_n 0, 1) := by decide +kernel
theorem dX7_type_15 : decode (mc mX7_type) 15 = .ok (.getfield 59, 3) := by decide +kernel
theorem dX7_type_18 : decode (mc mX7_type) 18 = .ok (.bipush 40, 2) := by decide +kernel
theorem dX7_type_20 : decode (mc mX7_type) 20 = .ok (.if_icmp .ne 6, 3) := by decide +kernel
theorem dX7_type_23 : decode (mc mX7_type) 23 = .ok (.ldc 79, 2) := by decide +kernel
theorem dX7_type_25 : decode (mc mX7_type) 25 = .ok (.ireturn, 1) := by decide +kernel
theorem dX7_type_26 : decode (mc mX7_type) 26 = .ok (.aload_n 0, 1) := by decide +kernel
theorem dX7_type_27 : decode (mc mX7_type) 27 = .ok (.getfield 34, 3) := by decide +kernel
theorem dX7_type_30 : decode (mc mX7_type) 30 = .ok (.aload_n 0, 1) := by decide +kernel
theorem dX7_type_31 : decode (mc mX7_type) 31 = .ok (.getfield 59, 3) := by decide +kernel
theorem dX7_type_34 : decode (mc mX7_type) 34 = .ok (.iload_n 1, 1) := by decide +kernel
theorem dX7_type_35 : decode (mc mX7_type) 35 = .ok (.iastore, 1) := by decide +kernel
theorem dX7_type_36 : decode (mc mX7_type) 36 = .ok (.aload_n 0, 1) := by decide +kernel
theorem dX7_type_37 : decode (mc mX7_type) 37 = .ok (.dup, 1) := by decide +kernel
theorem dX7_type_38 : decode (mc mX7_type) 38 = .ok (.getfield 59, 3) := by decide +kernel
theorem dX7_type_41 : decode (mc mX7_type) 41 = .ok (.iconst 1, 1) := by decide +kernel
theorem dX7_type_42 : decode (mc mX7_type) 42 = .ok (.iadd, 1) := by decide +kernel
theorem dX7_type_43 : decode (mc mX7_type) 43 = .ok (.putfield 59, 3) := by decide +kernel
theorem dX7_type_46 : decode (mc mX7_type) 46 = .ok (.aload_n 0, 1) := by decide +kernel
theorem dX7_type_47 : decode (mc mX7_type) 47 = .ok (.getfield 59, 3) := by decide +kernel
theorem dX7_type_50 : decode (mc mX7_type) 50 = .ok (.ireturn, 1) := by decide +kernel
theorem dX7_clearText_0 : decode (mc mX7_clearText) 0 = .ok (.aload_n 0, 1) := by decide +kernel
theorem dX7_clearText_1 : decode (mc mX7_clearText) 1 = .ok (.getfield 59, 3) := by decide +kernel
theorem dX7_clearText_4 : decode (mc mX7_clearText) 4 = .ok (.istore_n 1, 1) := by decide +kernel
theorem dX7_clearText_5 : decode (mc mX7_clearText) 5 = .ok (.aload_n 0, 1) := by decide +kernel
theorem dX7_clearText_6 : decode (mc mX7_clearText) 6 = .ok (.iconst 0, 1) := by decide +kernel
theorem dX7_clearText_7 : decode (mc mX7_clearText) 7 = .ok (.putfield 59, 3) := by decide +kernel
theorem dX7_clearText_10 : decode (mc mX7_clearText) 10 = .ok (.iload_n 1, 1) := by decide +kernel
theorem dX7_clearText_11 : decode (mc mX7_clearText) 11 = .ok (.ireturn, 1) := by decide +kernel
theorem dX7_textFault_0 : decode (mc mX7_textFault) 0 = .ok (.iconst 0, 1) := by decide +kernel
theorem dX7_textFault_1 : decode (mc mX7_textFault) 1 = .ok (.istore_n 1, 1) := by decide +kernel
theorem dX7_textFault_2 : decode (mc mX7_textFault) 2 = .ok (.iconst 0, 1) := by decide +kernel
theorem dX7_textFault_3 : decode (mc mX7_textFault) 3 = .ok (.istore_n 2, 1) := by decide +kernel
theorem dX7_textFault_4 : decode (mc mX7_textFault) 4 = .ok (.iload_n 2, 1) := by decide +kernel
theorem dX7_textFault_5 : decode (mc mX7_textFault) 5 = .ok (.aload_n 0, 1) := by decide +kernel
theorem dX7_textFault_6 : decode (mc mX7_textFault) 6 = .ok (.getfield 59, 3) := by decide +kernel
theorem dX7_textFault_9 : decode (mc mX7_textFault) 9 = .ok (.if_icmp .ge 58, 3) := by decide +kernel
theorem dX7_textFault_12 : decode (mc mX7_textFault) 12 = .ok (.aload_n 0, 1) := by decide +kernel
theorem dX7_textFault_13 : decode (mc mX7_textFault) 13 = .ok (.getfield 34, 3) := by decide +kernel
theorem dX7_textFault_16 : decode (mc mX7_textFault) 16 = .ok (.iload_n 2, 1) := by decide +kernel
theorem dX7_textFault_17 : decode (mc mX7_textFault) 17 = .ok (.iaload, 1) := by decide +kernel
theorem dX7_textFault_18 : decode (mc mX7_textFault) 18 = .ok (.bipush 97, 2) := by decide +kernel
theorem dX7_textFault_20 : decode (mc mX7_textFault) 20 = .ok (.bipush 122, 2) := by decide +kernel
theorem dX7_textFault_22 : decode (mc mX7_textFault) 22 = .ok (.invokestatic 45, 3) := by decide +kernel
theorem dX7_textFault_25 : decode (mc mX7_textFault) 25 = .ok (.istore_n 3, 1) := by decide +kernel
theorem dX7_textFault_26 : decode (mc mX7_textFault) 26 = .ok (.iload_n 1, 1) := by decide +kernel
theorem dX7_textFault_27 : decode (mc mX7_textFault) 27 = .ok (.iload_n 3, 1) := by decide +kernel
theorem dX7_textFault_28 : decode (mc mX7_textFault) 28 = .ok (.ifCond .eq 7, 3) := by decide +kernel
theorem dX7_textFault_31 : decode (mc mX7_textFault) 31 = .ok (.iconst 1, 1) := by decide +kernel
theorem dX7_textFault_32 : decode (mc mX7_textFault) 32 = .ok (.goto 4, 3) := by decide +kernel
theorem dX7_textFault_35 : decode (mc mX7_textFault) 35 = .ok (.iconst 0, 1) := by decide +kernel
theorem dX7_textFault_36 : decode (mc mX7_textFault) 36 = .ok (.iadd, 1) := by decide +kernel
theorem dX7_textFault_37 : decode (mc mX7_textFault) 37 = .ok (.istore_n 1, 1) := by decide +kernel
theorem dX7_textFault_38 : decode (mc mX7_textFault) 38 = .ok (.iload_n 1, 1) := by decide +kernel
theorem dX7_textFault_39 : decode (mc mX7_textFault) 39 = .ok (.bipush 10, 2) := by decide +kernel
theorem dX7_textFault_41 : decode (mc mX7_textFault) 41 = .ok (.if_icmp .gt 18, 3) := by decide +kernel
theorem dX7_textFault_44 : decode (mc mX7_textFault) 44 = .ok (.iload_n 3, 1) := by decide +kernel
theorem dX7_textFault_45 : decode (mc mX7_textFault) 45 = .ok (.ifCond .ne 16, 3) := by decide +kernel
theorem dX7_textFault_48 : decode (mc mX7_textFault) 48 = .ok (.aload_n 0, 1) := by decide +kernel
theorem dX7_textFault_49 : decode (mc mX7_textFault) 49 = .ok (.getfield 34, 3) := by decide +kernel
theorem dX7_textFault_52 : decode (mc mX7_textFault) 52 = .ok (.iload_n 2, 1) := by decide +kernel
theorem dX7_textFault_53 : decode (mc mX7_textFault) 53 = .ok (.iaload, 1) := by decide +kernel
theorem dX7_textFault_54 : decode (mc mX7_textFault) 54 = .ok (.bipush 32, 2) := by decide +kernel
theorem dX7_textFault_56 : decode (mc mX7_textFault) 56 = .ok (.if_icmp .eq 5, 3) := by decide +kernel
theorem dX7_textFault_59 : decode (mc mX7_textFault) 59 = .ok (.iload_n 2, 1) := by decide +kernel
theorem dX7_textFault_60 : decode (mc mX7_textFault) 60 = .ok (.ireturn, 1) := by decide +kernel
theorem dX7_textFault_61 : decode (mc mX7_textFault) 61 = .ok (.iinc 2 1, 3) := by decide +kernel
theorem dX7_textFault_64 : decode (mc mX7_textFault) 64 = .ok (.goto (-60), 3) := by decide +kernel
theorem dX7_textFault_67 : decode (mc mX7_textFault) 67 = .ok (.iload_n 1, 1) := by decide +kernel
theorem dX7_textFault_68 : decode (mc mX7_textFault) 68 = .ok (.ifCond .ne 10, 3) := by decide +kernel
theorem dX7_textFault_71 : decode (mc mX7_textFault) 71 = .ok (.aload_n 0, 1) := by decide +kernel
theorem dX7_textFault_72 : decode (mc mX7_textFault) 72 = .ok (.getfield 59, 3) := by decide +kernel
theorem dX7_textFault_75 : decode (mc mX7_textFault) 75 = .ok (.goto 5, 3) := by decide +kernel
theorem dX7_textFault_78 : decode (mc mX7_textFault) 78 = .ok (.ldc 121, 2) := by decide +kernel
theorem dX7_textFault_80 : decode (mc mX7_textFault) 80 = .ok (.ireturn, 1) := by decide +kernel
theorem dX7_undo_0 : decode (mc mX7_undo) 0 = .ok (.aload_n 0, 1) := by decide +kernel
theorem dX7_undo_1 : decode (mc mX7_undo) 1 = .ok (.getfield 37, 3) := by decide +kernel
theorem dX7_undo_4 : decode (mc mX7_undo) 4 = .ok (.ifCond .ne 6, 3) := by decide +kernel
theorem dX7_undo_7 : decode (mc mX7_undo) 7 = .ok (.ldc 128, 2) := by decide +kernel
theorem dX7_undo_9 : decode (mc mX7_undo) 9 = .ok (.ireturn, 1) := by decide +kernel
theorem dX7_undo_10 : decode (mc mX7_undo) 10 = .ok (.aload_n 0, 1) := by decide +kernel
theorem dX7_undo_11 : decode (mc mX7_undo) 11 = .ok (.sipush 654, 3) := by decide +kernel
theorem dX7_undo_14 : decode (mc mX7_undo) 14 = .ok (.aload_n 0, 1) := by decide +kernel
theorem dX7_undo_15 : decode (mc mX7_undo) 15 = .ok (.getfield 37, 3) := by decide +kernel
theorem dX7_undo_18 : decode (mc mX7_undo) 18 = .ok (.imul, 1) := by decide +kernel
theorem dX7_undo_19 : decode (mc mX7_undo) 19 = .ok (.iconst 0, 1) := by decide +kernel
theorem dX7_undo_20 : decode (mc mX7_undo) 20 = .ok (.invokevirtual 41, 3) := by decide +kernel
theorem dX7_undo_23 : decode (mc mX7_undo) 23 = .ok (.aload_n 0, 1) := by decide +kernel
theorem dX7_undo_24 : decode (mc mX7_undo) 24 = .ok (.dup, 1) := by decide +kernel
theorem dX7_undo_25 : decode (mc mX7_undo) 25 = .ok (.getfield 37, 3) := by decide +kernel
theorem dX7_undo_28 : decode (mc mX7_undo) 28 = .ok (.iconst 1, 1) := by decide +kernel
theorem dX7_undo_29 : decode (mc mX7_undo) 29 = .ok (.isub, 1) := by decide +kernel
theorem dX7_undo_30 : decode (mc mX7_undo) 30 = .ok (.putfield 37, 3) := by decide +kernel
theorem dX7_undo_33 : decode (mc mX7_undo) 33 = .ok (.aload_n 0, 1) := by decide +kernel
theorem dX7_undo_34 : decode (mc mX7_undo) 34 = .ok (.getfield 37, 3) := by decide +kernel
theorem dX7_undo_37 : decode (mc mX7_undo) 37 = .ok (.ireturn, 1) := by decide +kernel
theorem dX7_adds_0 : decode (mc mX7_adds) 0 = .ok (.aload_n 0, 1) := by decide +kernel
theorem dX7_adds_1 : decode (mc mX7_adds) 1 = .ok (.ldc2_w 157, 3) := by decide +kernel
theorem dX7_adds_4 : decode (mc mX7_adds) 4 = .ok (.aload_n 0, 1) := by decide +kernel
theorem dX7_adds_5 : decode (mc mX7_adds) 5 = .ok (.getfield 159, 3) := by decide +kernel
theorem dX7_adds_8 : decode (mc mX7_adds) 8 = .ok (.lmul, 1) := by decide +kernel
theorem dX7_adds_9 : decode (mc mX7_adds) 9 = .ok (.lload_n 1, 1) := by decide +kernel
theorem dX7_adds_10 : decode (mc mX7_adds) 10 = .ok (.ladd, 1) := by decide +kernel
theorem dX7_adds_11 : decode (mc mX7_adds) 11 = .ok (.putfield 159, 3) := by decide +kernel
theorem dX7_adds_14 : decode (mc mX7_adds) 14 = .ok (.return_, 1) := by decide +kernel
theorem dX7_digest_0 : decode (mc mX7_digest) 0 = .ok (.aload_n 0, 1) := by decide +kernel
theorem dX7_digest_1 : decode (mc mX7_digest) 1 = .ok (.ldc2_w 163, 3) := by decide +kernel
theorem dX7_digest_4 : decode (mc mX7_digest) 4 = .ok (.putfield 159, 3) := by decide +kernel
theorem dX7_digest_7 : decode (mc mX7_digest) 7 = .ok (.iconst 0, 1) := by decide +kernel
theorem dX7_digest_8 : decode (mc mX7_digest) 8 = .ok (.istore_n 1, 1) := by decide +kernel
theorem dX7_digest_9 : decode (mc mX7_digest) 9 = .ok (.iload_n 1, 1) := by decide +kernel
theorem dX7_digest_10 : decode (mc mX7_digest) 10 = .ok (.bipush 13, 2) := by decide +kernel
theorem dX7_digest_12 : decode (mc mX7_digest) 12 = .ok (.if_icmp .ge 19, 3) := by decide +kernel
theorem dX7_digest_15 : decode (mc mX7_digest) 15 = .ok (.aload_n 0, 1) := by decide +kernel
theorem dX7_digest_16 : decode (mc mX7_digest) 16 = .ok (.aload_n 0, 1) := by decide +kernel
theorem dX7_digest_17 : decode (mc mX7_digest) 17 = .ok (.iload_n 1, 1) := by decide +kernel
theorem dX7_digest_18 : decode (mc mX7_digest) 18 = .ok (.invokevirtual 115, 3) := by decide +kernel
theorem dX7_digest_21 : decode (mc mX7_digest) 21 = .ok (.i2l, 1) := by decide +kernel
theorem dX7_digest_22 : decode (mc mX7_digest) 22 = .ok (.invokevirtual 165, 3) := by decide +kernel
theorem dX7_digest_25 : decode (mc mX7_digest) 25 = .ok (.iinc 1 1, 3) := by decide +kernel
theorem dX7_digest_28 : decode (mc mX7_digest) 28 = .ok (.goto (-19), 3) := by decide +kernel
theorem dX7_digest_31 : decode (mc mX7_digest) 31 = .ok (.iconst 0, 1) := by decide +kernel
theorem dX7_digest_32 : decode (mc mX7_digest) 32 = .ok (.istore_n 1, 1) := by decide +kernel
theorem dX7_digest_33 : decode (mc mX7_digest) 33 = .ok (.iload_n 1, 1) := by decide +kernel
theorem dX7_digest_34 : decode (mc mX7_digest) 34 = .ok (.aload_n 0, 1) := by decide +kernel
theorem dX7_digest_35 : decode (mc mX7_digest) 35 = .ok (.getfield 7, 3) := by decide +kernel
theorem dX7_digest_38 : decode (mc mX7_digest) 38 = .ok (.iconst 0, 1) := by decide +kernel
theorem dX7_digest_39 : decode (mc mX7_digest) 39 = .ok (.iaload, 1) := by decide +kernel
theorem dX7_digest_40 : decode (mc mX7_digest) 40 = .ok (.if_icmp .ge 33, 3) := by decide +kernel
theorem dX7_digest_43 : decode (mc mX7_digest) 43 = .ok (.iconst 0, 1) := by decide +kernel
theorem dX7_digest_44 : decode (mc mX7_digest) 44 = .ok (.istore_n 2, 1) := by decide +kernel
theorem dX7_digest_45 : decode (mc mX7_digest) 45 = .ok (.iload_n 2, 1) := by decide +kernel
theorem dX7_digest_46 : decode (mc mX7_digest) 46 = .ok (.iconst 5, 1) := by decide +kernel
theorem dX7_digest_47 : decode (mc mX7_digest) 47 = .ok (.if_icmp .ge 20, 3) := by decide +kernel
theorem dX7_digest_50 : decode (mc mX7_digest) 50 = .ok (.aload_n 0, 1) := by decide +kernel
theorem dX7_digest_51 : decode (mc mX7_digest) 51 = .ok (.aload_n 0, 1) := by decide +kernel
theorem dX7_digest_52 : decode (mc mX7_digest) 52 = .ok (.iload_n 1, 1) := by decide +kernel
theorem dX7_digest_53 : decode (mc mX7_digest) 53 = .ok (.iload_n 2, 1) := by decide +kernel
theorem dX7_digest_54 : decode (mc mX7_digest) 54 = .ok (.invokevirtual 118, 3) := by decide +kernel
theorem dX7_digest_57 : decode (mc mX7_digest) 57 = .ok (.i2l, 1) := by decide +kernel
theorem dX7_digest_58 : decode (mc mX7_digest) 58 = .ok (.invokevirtual 165, 3) := by decide +kernel
theorem dX7_digest_61 : decode (mc mX7_digest) 61 = .ok (.iinc 2 1, 3) := by decide +kernel
theorem dX7_digest_64 : decode (mc mX7_digest) 64 = .ok (.goto (-19), 3) := by decide +kernel
theorem dX7_digest_67 : decode (mc mX7_digest) 67 = .ok (.iinc 1 1, 3) := by decide +kernel
theorem dX7_digest_70 : decode (mc mX7_digest) 70 = .ok (.goto (-37), 3) := by decide +kernel
theorem dX7_digest_73 : decode (mc mX7_digest) 73 = .ok (.iconst 0, 1) := by decide +kernel
theorem dX7_digest_74 : decode (mc mX7_digest) 74 = .ok (.istore_n 1, 1) := by decide +kernel
theorem dX7_digest_75 : decode (mc mX7_digest) 75 = .ok (.iload_n 1, 1) := by decide +kernel
theorem dX7_digest_76 : decode (mc mX7_digest) 76 = .ok (.aload_n 0, 1) := by decide +kernel
theorem dX7_digest_77 : decode (mc mX7_digest) 77 = .ok (.getfield 7, 3) := by decide +kernel
theorem dX7_digest_80 : decode (mc mX7_digest) 80 = .ok (.iconst 1, 1) := by decide +kernel
theorem dX7_digest_81 : decode (mc mX7_digest) 81 = .ok (.iaload, 1) := by decide +kernel
theorem dX7_digest_82 : decode (mc mX7_digest) 82 = .ok (.if_icmp .ge 66, 3) := by decide +kernel
theorem dX7_digest_85 : decode (mc mX7_digest) 85 = .ok (.iconst 0, 1) := by decide +kernel
theorem dX7_digest_86 : decode (mc mX7_digest) 86 = .ok (.istore_n 2, 1) := by decide +kernel
theorem dX7_digest_87 : decode (mc mX7_digest) 87 = .ok (.iload_n 2, 1) := by decide +kernel
theorem dX7_digest_88 : decode (mc mX7_digest) 88 = .ok (.bipush 7, 2) := by decide +kernel
theorem dX7_digest_90 : decode (mc mX7_digest) 90 = .ok (.if_icmp .ge 20, 3) := by decide +kernel
theorem dX7_digest_93 : decode (mc mX7_digest) 93 = .ok (.aload_n 0, 1) := by decide +kernel
theorem dX7_digest_94 : decode (mc mX7_digest) 94 = .ok (.aload_n 0, 1) := by decide +kernel
theorem dX7_digest_95 : decode (mc mX7_digest) 95 = .ok (.iload_n 1, 1) := by decide +kernel
theorem dX7_digest_96 : decode (mc mX7_digest) 96 = .ok (.iload_n 2, 1) := by decide +kernel
theorem dX7_digest_97 : decode (mc mX7_digest) 97 = .ok (.invokevirtual 169, 3) := by decide +kernel
theorem dX7_digest_100 : decode (mc mX7_digest) 100 = .ok (.i2l, 1) := by decide +kernel
theorem dX7_digest_101 : decode (mc mX7_digest) 101 = .ok (.invokevirtual 165, 3) := by decide +kernel
theorem dX7_digest_104 : decode (mc mX7_digest) 104 = .ok (.iinc 2 1, 3) := by decide +kernel
theorem dX7_digest_107 : decode (mc mX7_digest) 107 = .ok (.goto (-20), 3) := by decide +kernel
theorem dX7_digest_110 : decode (mc mX7_digest) 110 = .ok (.iconst 0, 1) := by decide +kernel
theorem dX7_digest_111 : decode (mc mX7_digest) 111 = .ok (.istore_n 2, 1) := by decide +kernel
theorem dX7_digest_112 : decode (mc mX7_digest) 112 = .ok (.iload_n 2, 1) := by decide +kernel
theorem dX7_digest_113 : decode (mc mX7_digest) 113 = .ok (.aload_n 0, 1) := by decide +kernel
theorem dX7_digest_114 : decode (mc mX7_digest) 114 = .ok (.iload_n 1, 1) := by decide +kernel
theorem dX7_digest_115 : decode (mc mX7_digest) 115 = .ok (.iconst 1, 1) := by decide +kernel
theorem dX7_digest_116 : decode (mc mX7_digest) 116 = .ok (.invokevirtual 49, 3) := by decide +kernel
theorem dX7_digest_119 : decode (mc mX7_digest) 119 = .ok (.if_icmp .ge 23, 3) := by decide +kernel
theorem dX7_digest_122 : decode (mc mX7_digest) 122 = .ok (.aload_n 0, 1) := by decide +kernel
theorem dX7_digest_123 : decode (mc mX7_digest) 123 = .ok (.aload_n 0, 1) := by decide +kernel
theorem dX7_digest_124 : decode (mc mX7_digest) 124 = .ok (.iload_n 1, 1) := by decide +kernel
theorem dX7_digest_125 : decode (mc mX7_digest) 125 = .ok (.bipush 6, 2) := by decide +kernel
theorem dX7_digest_127 : decode (mc mX7_digest) 127 = .ok (.iload_n 2, 1) := by decide +kernel
theorem dX7_digest_128 : decode (mc mX7_digest) 128 = .ok (.iadd, 1) := by decide +kernel
theorem dX7_digest_129 : decode (mc mX7_digest) 129 = .ok (.invokevirtual 49, 3) := by decide +kernel
theorem dX7_digest_132 : decode (mc mX7_digest) 132 = .ok (.i2l, 1) := by decide +kernel
theorem dX7_digest_133 : decode (mc mX7_digest) 133 = .ok (.invokevirtual 165, 3) := by decide +kernel
theorem dX7_digest_136 : decode (mc mX7_digest) 136 = .ok (.iinc 2 1, 3) := by decide +kernel
theorem dX7_digest_139 : decode (mc mX7_digest) 139 = .ok (.goto (-27), 3) := by decide +kernel
theorem dX7_digest_142 : decode (mc mX7_digest) 142 = .ok (.iinc 1 1, 3) := by decide +kernel
theorem dX7_digest_145 : decode (mc mX7_digest) 145 = .ok (.goto (-70), 3) := by decide +kernel
theorem dX7_digest_148 : decode (mc mX7_digest) 148 = .ok (.iconst 0, 1) := by decide +kernel
theorem dX7_digest_149 : decode (mc mX7_digest) 149 = .ok (.istore_n 1, 1) := by decide +kernel
theorem dX7_digest_150 : decode (mc mX7_digest) 150 = .ok (.iload_n 1, 1) := by decide +kernel
theorem dX7_digest_151 : decode (mc mX7_digest) 151 = .ok (.aload_n 0, 1) := by decide +kernel
theorem dX7_digest_152 : decode (mc mX7_digest) 152 = .ok (.getfield 7, 3) := by decide +kernel
theorem dX7_digest_155 : decode (mc mX7_digest) 155 = .ok (.iconst 2, 1) := by decide +kernel
theorem dX7_digest_156 : decode (mc mX7_digest) 156 = .ok (.iaload, 1) := by decide +kernel
theorem dX7_digest_157 : decode (mc mX7_digest) 157 = .ok (.if_icmp .ge 34, 3) := by decide +kernel
theorem dX7_digest_160 : decode (mc mX7_digest) 160 = .ok (.iconst 0, 1) := by decide +kernel
theorem dX7_digest_161 : decode (mc mX7_digest) 161 = .ok (.istore_n 2, 1) := by decide +kernel
theorem dX7_digest_162 : decode (mc mX7_digest) 162 = .ok (.iload_n 2, 1) := by decide +kernel
theorem dX7_digest_163 : decode (mc mX7_digest) 163 = .ok (.bipush 13, 2) := by decide +kernel
theorem dX7_digest_165 : decode (mc mX7_digest) 165 = .ok (.if_icmp .ge 20, 3) := by decide +kernel
theorem dX7_digest_168 : decode (mc mX7_digest) 168 = .ok (.aload_n 0, 1) := by decide +kernel
theorem dX7_digest_169 : decode (mc mX7_digest) 169 = .ok (.aload_n 0, 1) := by decide +kernel
theorem dX7_digest_170 : decode (mc mX7_digest) 170 = .ok (.iload_n 1, 1) := by decide +kernel
theorem dX7_digest_171 : decode (mc mX7_digest) 171 = .ok (.iload_n 2, 1) := by decide +kernel
theorem dX7_digest_172 : decode (mc mX7_digest) 172 = .ok (.invokevirtual 100, 3) := by decide +kernel
theorem dX7_digest_175 : decode (mc mX7_digest) 175 = .ok (.i2l, 1) := by decide +kernel
theorem dX7_digest_176 : decode (mc mX7_digest) 176 = .ok (.invokevirtual 165, 3) := by decide +kernel
theorem dX7_digest_179 : decode (mc mX7_digest) 179 = .ok (.iinc 2 1, 3) := by decide +kernel
theorem dX7_digest_182 : decode (mc mX7_digest) 182 = .ok (.goto (-20), 3) := by decide +kernel
theorem dX7_digest_185 : decode (mc mX7_digest) 185 = .ok (.iinc 1 1, 3) := by decide +kernel
theorem dX7_digest_188 : decode (mc mX7_digest) 188 = .ok (.goto (-38), 3) := by decide +kernel
theorem dX7_digest_191 : decode (mc mX7_digest) 191 = .ok (.aload_n 0, 1) := by decide +kernel
theorem dX7_digest_192 : decode (mc mX7_digest) 192 = .ok (.getfield 159, 3) := by decide +kernel
theorem dX7_digest_195 : decode (mc mX7_digest) 195 = .ok (.lreturn, 1) := by decide +kernel
theorem dL_law_0 : decode (mc mL_law) 0 = .ok (.new 7, 3) := by decide +kernel
theorem dL_law_3 : decode (mc mL_law) 3 = .ok (.dup, 1) := by decide +kernel
theorem dL_law_4 : decode (mc mL_law) 4 = .ok (.invokespecial 9, 3) := by decide +kernel
theorem dL_law_7 : decode (mc mL_law) 7 = .ok (.astore_n 1, 1) := by decide +kernel
theorem dL_law_8 : decode (mc mL_law) 8 = .ok (.new 10, 3) := by decide +kernel
theorem dL_law_11 : decode (mc mL_law) 11 = .ok (.dup, 1) := by decide +kernel
theorem dL_law_12 : decode (mc mL_law) 12 = .ok (.invokespecial 12, 3) := by decide +kernel
theorem dL_law_15 : decode (mc mL_law) 15 = .ok (.astore_n 2, 1) := by decide +kernel
theorem dL_law_16 : decode (mc mL_law) 16 = .ok (.iconst 0, 1) := by decide +kernel
theorem dL_law_17 : decode (mc mL_law) 17 = .ok (.istore_n 3, 1) := by decide +kernel
theorem dL_law_18 : decode (mc mL_law) 18 = .ok (.iload_n 3, 1) := by decide +kernel
theorem dL_law_19 : decode (mc mL_law) 19 = .ok (.aload_n 0, 1) := by decide +kernel
theorem dL_law_20 : decode (mc mL_law) 20 = .ok (.arraylength, 1) := by decide +kernel
theorem dL_law_21 : decode (mc mL_law) 21 = .ok (.iconst 4, 1) := by decide +kernel
theorem dL_law_22 : decode (mc mL_law) 22 = .ok (.isub, 1) := by decide +kernel
theorem dL_law_23 : decode (mc mL_law) 23 = .ok (.if_icmp .gt 737, 3) := by decide +kernel
theorem dL_law_26 : decode (mc mL_law) 26 = .ok (.aload_n 0, 1) := by decide +kernel
theorem dL_law_27 : decode (mc mL_law) 27 = .ok (.iload_n 3, 1) := by decide +kernel
theorem dL_law_28 : decode (mc mL_law) 28 = .ok (.iaload, 1) := by decide +kernel
theorem dL_law_29 : decode (mc mL_law) 29 = .ok (.bipush 31, 2) := by decide +kernel
theorem dL_law_31 : decode (mc mL_law) 31 = .ok (.iand, 1) := by decide +kernel
theorem dL_law_32 : decode (mc mL_law) 32 = .ok (.tableswitch 722 0 24 #[116, 129, 162, 195, 218, 251, 294, 327, 360, 393, 406, 419, 442, 465, 488, 521, 544, 567, 590, 613, 646, 669, 682, 695, 708], 116) := by decide +kernel
theorem dL_law_148 : decode (mc mL_law) 148 = .ok (.aload_n 1, 1) := by decide +kernel
theorem dL_law_149 : decode (mc mL_law) 149 = .ok (.invokevirtual 13, 3) := by decide +kernel
theorem dL_law_152 : decode (mc mL_law) 152 = .ok (.aload_n 2, 1) := by decide +kernel
theorem dL_law_153 : decode (mc mL_law) 153 = .ok (.invokevirtual 17, 3) := by decide +kernel
theorem dL_law_156 : decode (mc mL_law) 156 = .ok (.if_icmp .eq 598, 3) := by decide +kernel
theorem dL_law_159 : decode (mc mL_law) 159 = .ok (.iconst 0, 1) := by decide +kernel
theorem dL_law_160 : decode (mc mL_law) 160 = .ok (.ireturn, 1) := by decide +kernel
theorem dL_law_161 : decode (mc mL_law) 161 = .ok (.aload_n 1, 1) := by decide +kernel
theorem dL_law_162 : decode (mc mL_law) 162 = .ok (.aload_n 0, 1) := by decide +kernel
theorem dL_law_163 : decode (mc mL_law) 163 = .ok (.iload_n 3, 1) := by decide +kernel
theorem dL_law_164 : decode (mc mL_law) 164 = .ok (.iconst 1, 1) := by decide +kernel
theorem dL_law_165 : decode (mc mL_law) 165 = .ok (.iadd, 1) := by decide +kernel
theorem dL_law_166 : decode (mc mL_law) 166 = .ok (.iaload, 1) := by decide +kernel
theorem dL_law_167 : decode (mc mL_law) 167 = .ok (.aload_n 0, 1) := by decide +kernel
theorem dL_law_168 : decode (mc mL_law) 168 = .ok (.iload_n 3, 1) := by decide +kernel
theorem dL_law_169 : decode (mc mL_law) 169 = .ok (.iconst 2, 1) := by decide +kernel
theorem dL_law_170 : decode (mc mL_law) 170 = .ok (.iadd, 1) := by decide +kernel
theorem dL_law_171 : decode (mc mL_law) 171 = .ok (.iaload, 1) := by decide +kernel
theorem dL_law_172 : decode (mc mL_law) 172 = .ok (.invokevirtual 18, 3) := by decide +kernel
theorem dL_law_175 : decode (mc mL_law) 175 = .ok (.aload_n 2, 1) := by decide +kernel
theorem dL_law_176 : decode (mc mL_law) 176 = .ok (.aload_n 0, 1) := by decide +kernel
theorem dL_law_177 : decode (mc mL_law) 177 = .ok (.iload_n 3, 1) := by decide +kernel
theorem dL_law_178 : decode (mc mL_law) 178 = .ok (.iconst 1, 1) := by decide +kernel
theorem dL_law_179 : decode (mc mL_law) 179 = .ok (.iadd, 1) := by decide +kernel
theorem dL_law_180 : decode (mc mL_law) 180 = .ok (.iaload, 1) := by decide +kernel
theorem dL_law_181 : decode (mc mL_law) 181 = .ok (.aload_n 0, 1) := by decide +kernel
theorem dL_law_182 : decode (mc mL_law) 182 = .ok (.iload_n 3, 1) := by decide +kernel
theorem dL_law_183 : decode (mc mL_law) 183 = .ok (.iconst 2, 1) := by decide +kernel
theorem dL_law_184 : decode (mc mL_law) 184 = .ok (.iadd, 1) := by decide +kernel
theorem dL_law_185 : decode (mc mL_law) 185 = .ok (.iaload, 1) := by decide +kernel
theorem dL_law_186 : decode (mc mL_law) 186 = .ok (.invokevirtual 22, 3) := by decide +kernel
theorem dL_law_189 : decode (mc mL_law) 189 = .ok (.if_icmp .eq 565, 3) := by decide +kernel
theorem dL_law_192 : decode (mc mL_law) 192 = .ok (.iconst 0, 1) := by decide +kernel
theorem dL_law_193 : decode (mc mL_law) 193 = .ok (.ireturn, 1) := by decide +kernel
theorem dL_law_194 : decode (mc mL_law) 194 = .ok (.aload_n 1, 1) := by decide +kernel
theorem dL_law_195 : decode (mc mL_law) 195 = .ok (.aload_n 0, 1) := by decide +kernel
theorem dL_law_196 : decode (mc mL_law) 196 = .ok (.iload_n 3, 1) := by decide +kernel
theorem dL_law_197 : decode (mc mL_law) 197 = .ok (.iconst 1, 1) := by decide +kernel
theorem dL_law_198 : decode (mc mL_law) 198 = .ok (.iadd, 1) := by decide +kernel
theorem dL_law_199 : decode (mc mL_law) 199 = .ok (.iaload, 1) := by decide +kernel
theorem dL_law_200 : decode (mc mL_law) 200 = .ok (.aload_n 0, 1) := by decide +kernel
theorem dL_law_201 : decode (mc mL_law) 201 = .ok (.iload_n 3, 1) := by decide +kernel
theorem dL_law_202 : decode (mc mL_law) 202 = .ok (.iconst 2, 1) := by decide +kernel
theorem dL_law_203 : decode (mc mL_law) 203 = .ok (.iadd, 1) := by decide +kernel
theorem dL_law_204 : decode (mc mL_law) 204 = .ok (.iaload, 1) := by decide +kernel
theorem dL_law_205 : decode (mc mL_law) 205 = .ok (.invokevirtual 23, 3) := by decide +kernel
theorem dL_law_208 : decode (mc mL_law) 208 = .ok (.aload_n 2, 1) := by decide +kernel
theorem dL_law_209 : decode (mc mL_law) 209 = .ok (.aload_n 0, 1) := by decide +kernel
theorem dL_law_210 : decode (mc mL_law) 210 = .ok (.iload_n 3, 1) := by decide +kernel
theorem dL_law_211 : decode (mc mL_law) 211 = .ok (.iconst 1, 1) := by decide +kernel
theorem dL_law_212 : decode (mc mL_law) 212 = .ok (.iadd, 1) := by decide +kernel
theorem dL_law_213 : decode (mc mL_law) 213 = .ok (.iaload, 1) := by decide +kernel
theorem dL_law_214 : decode (mc mL_law) 214 = .ok (.aload_n 0, 1) := by decide +kernel
theorem dL_law_215 : decode (mc mL_law) 215 = .ok (.iload_n 3, 1) := by decide +kernel
theorem dL_law_216 : decode (mc mL_law) 216 = .ok (.iconst 2, 1) := by decide +kernel
theorem dL_law_217 : decode (mc mL_law) 217 = .ok (.iadd, 1) := by decide +kernel
theorem dL_law_218 : decode (mc mL_law) 218 = .ok (.iaload, 1) := by decide +kernel
theorem dL_law_219 : decode (mc mL_law) 219 = .ok (.invokevirtual 26, 3) := by decide +kernel
theorem dL_law_222 : decode (mc mL_law) 222 = .ok (.if_icmp .eq 532, 3) := by decide +kernel
theorem dL_law_225 : decode (mc mL_law) 225 = .ok (.iconst 0, 1) := by decide +kernel
theorem dL_law_226 : decode (mc mL_law) 226 = .ok (.ireturn, 1) := by decide +kernel
theorem dL_law_227 : decode (mc mL_law) 227 = .ok (.aload_n 1, 1) := by decide +kernel
theorem dL_law_228 : decode (mc mL_law) 228 = .ok (.aload_n 0, 1) := by decide +kernel
theorem dL_law_229 : decode (mc mL_law) 229 = .ok (.iload_n 3, 1) := by decide +kernel
theorem dL_law_230 : decode (mc mL_law) 230 = .ok (.iconst 1, 1) := by decide +kernel
theorem dL_law_231 : decode (mc mL_law) 231 = .ok (.iadd, 1) := by decide +kernel
theorem dL_law_232 : decode (mc mL_law) 232 = .ok (.iaload, 1) := by decide +kernel
theorem dL_law_233 : decode (mc mL_law) 233 = .ok (.invokevirtual 27, 3) := by decide +kernel
theorem dL_law_236 : decode (mc mL_law) 236 = .ok (.aload_n 2, 1) := by decide +kernel
theorem dL_law_237 : decode (mc mL_law) 237 = .ok (.aload_n 0, 1) := by decide +kernel
theorem dL_law_238 : decode (mc mL_law) 238 = .ok (.iload_n 3, 1) := by decide +kernel
theorem dL_law_239 : decode (mc mL_law) 239 = .ok (.iconst 1, 1) := by decide +kernel
theorem dL_law_240 : decode (mc mL_law) 240 = .ok (.iadd, 1) := by decide +kernel
theorem dL_law_241 : decode (mc mL_law) 241 = .ok (.iaload, 1) := by decide +kernel
theorem dL_law_242 : decode (mc mL_law) 242 = .ok (.invokevirtual 31, 3) := by decide +kernel
theorem dL_law_245 : decode (mc mL_law) 245 = .ok (.if_icmp .eq 509, 3) := by decide +kernel
theorem dL_law_248 : decode (mc mL_law) 248 = .ok (.iconst 0, 1) := by decide +kernel
theorem dL_law_249 : decode (mc mL_law) 249 = .ok (.ireturn, 1) := by decide +kernel
theorem dL_law_250 : decode (mc mL_law) 250 = .ok (.aload_n 1, 1) := by decide +kernel
theorem dL_law_251 : decode (mc mL_law) 251 = .ok (.aload_n 0, 1) := by decide +kernel
theorem dL_law_252 : decode (mc mL_law) 252 = .ok (.iload_n 3, 1) := by decide +kernel
theorem dL_law_253 : decode (mc mL_law) 253 = .ok (.iconst 1, 1) := by decide +kernel
theorem dL_law_254 : decode (mc mL_law) 254 = .ok (.iadd, 1) := by decide +kernel
theorem dL_law_255 : decode (mc mL_law) 255 = .ok (.iaload, 1) := by decide +kernel
theorem dL_law_256 : decode (mc mL_law) 256 = .ok (.aload_n 0, 1) := by decide +kernel
theorem dL_law_257 : decode (mc mL_law) 257 = .ok (.iload_n 3, 1) := by decide +kernel
theorem dL_law_258 : decode (mc mL_law) 258 = .ok (.iconst 2, 1) := by decide +kernel
theorem dL_law_259 : decode (mc mL_law) 259 = .ok (.iadd, 1) := by decide +kernel
theorem dL_law_260 : decode (mc mL_law) 260 = .ok (.iaload, 1) := by decide +kernel
theorem dL_law_261 : decode (mc mL_law) 261 = .ok (.invokevirtual 32, 3) := by decide +kernel
theorem dL_law_264 : decode (mc mL_law) 264 = .ok (.aload_n 2, 1) := by decide +kernel
theorem dL_law_265 : decode (mc mL_law) 265 = .ok (.aload_n 0, 1) := by decide +kernel
theorem dL_law_266 : decode (mc mL_law) 266 = .ok (.iload_n 3, 1) := by decide +kernel
theorem dL_law_267 : decode (mc mL_law) 267 = .ok (.iconst 1, 1) := by decide +kernel
theorem dL_law_268 : decode (mc mL_law) 268 = .ok (.iadd, 1) := by decide +kernel
theorem dL_law_269 : decode (mc mL_law) 269 = .ok (.iaload, 1) := by decide +kernel
theorem dL_law_270 : decode (mc mL_law) 270 = .ok (.aload_n 0, 1) := by decide +kernel
theorem dL_law_271 : decode (mc mL_law) 271 = .ok (.iload_n 3, 1) := by decide +kernel
theorem dL_law_272 : decode (mc mL_law) 272 = .ok (.iconst 2, 1) := by decide +kernel
theorem dL_law_273 : decode (mc mL_law) 273 = .ok (.iadd, 1) := by decide +kernel
theorem dL_law_274 : decode (mc mL_law) 274 = .ok (.iaload, 1) := by decide +kernel
theorem dL_law_275 : decode (mc mL_law) 275 = .ok (.invokevirtual 35, 3) := by decide +kernel
theorem dL_law_278 : decode (mc mL_law) 278 = .ok (.if_icmp .eq 476, 3) := by decide +kernel
theorem dL_law_281 : decode (mc mL_law) 281 = .ok (.iconst 0, 1) := by decide +kernel
theorem dL_law_282 : decode (mc mL_law) 282 = .ok (.ireturn, 1) := by decide +kernel
theorem dL_law_283 : decode (mc mL_law) 283 = .ok (.aload_n 1, 1) := by decide +kernel
theorem dL_law_284 : decode (mc mL_law) 284 = .ok (.aload_n 0, 1) := by decide +kernel
theorem dL_law_285 : decode (mc mL_law) 285 = .ok (.iload_n 3, 1) := by decide +kernel
theorem dL_law_286 : decode (mc mL_law) 286 = .ok (.iconst 1, 1) := by decide +kernel
theorem dL_law_287 : decode (mc mL_law) 287 = .ok (.iadd, 1) := by decide +kernel
theorem dL_law_288 : decode (mc mL_law) 288 = .ok (.iaload, 1) := by decide +kernel
theorem dL_law_289 : decode (mc mL_law) 289 = .ok (.aload_n 0, 1) := by decide +kernel
theorem dL_law_290 : decode (mc mL_law) 290 = .ok (.iload_n 3, 1) := by decide +kernel
theorem dL_law_291 : decode (mc mL_law) 291 = .ok (.iconst 2, 1) := by decide +kernel
theorem dL_law_292 : decode (mc mL_law) 292 = .ok (.iadd, 1) := by decide +kernel
theorem dL_law_293 : decode (mc mL_law) 293 = .ok (.iaload, 1) := by decide +kernel
theorem dL_law_294 : decode (mc mL_law) 294 = .ok (.aload_n 0, 1) := by decide +kernel
theorem dL_law_295 : decode (mc mL_law) 295 = .ok (.iload_n 3, 1) := by decide +kernel
theorem dL_law_296 : decode (mc mL_law) 296 = .ok (.iconst 3, 1) := by decide +kernel
theorem dL_law_297 : decode (mc mL_law) 297 = .ok (.iadd, 1) := by decide +kernel
theorem dL_law_298 : decode (mc mL_law) 298 = .ok (.iaload, 1) := by decide +kernel
theorem dL_law_299 : decode (mc mL_law) 299 = .ok (.invokevirtual 36, 3) := by decide +kernel
theorem dL_law_302 : decode (mc mL_law) 302 = .ok (.aload_n 2, 1) := by decide +kernel
theorem dL_law_303 : decode (mc mL_law) 303 = .ok (.aload_n 0, 1) := by decide +kernel
theorem dL_law_304 : decode (mc mL_law) 304 = .ok (.iload_n 3, 1) := by decide +kernel
theorem dL_law_305 : decode (mc mL_law) 305 = .ok (.iconst 1, 1) := by decide +kernel
theorem dL_law_306 : decode (mc mL_law) 306 = .ok (.iadd, 1) := by decide +kernel
theorem dL_law_307 : decode (mc mL_law) 307 = .ok (.iaload, 1) := by decide +kernel
theorem dL_law_308 : decode (mc mL_law) 308 = .ok (.aload_n 0, 1) := by decide +kernel
theorem dL_law_309 : decode (mc mL_law) 309 = .ok (.iload_n 3, 1) := by decide +kernel
theorem dL_law_310 : decode (mc mL_law) 310 = .ok (.iconst 2, 1) := by decide +kernel
theorem dL_law_311 : decode (mc mL_law) 311 = .ok (.iadd, 1) := by decide +kernel
theorem dL_law_312 : decode (mc mL_law) 312 = .ok (.iaload, 1) := by decide +kernel
theorem dL_law_313 : decode (mc mL_law) 313 = .ok (.aload_n 0, 1) := by decide +kernel
theorem dL_law_314 : decode (mc mL_law) 314 = .ok (.iload_n 3, 1) := by decide +kernel
theorem dL_law_315 : decode (mc mL_law) 315 = .ok (.iconst 3, 1) := by decide +kernel
theorem dL_law_316 : decode (mc mL_law) 316 = .ok (.iadd, 1) := by decide +kernel
theorem dL_law_317 : decode (mc mL_law) 317 = .ok (.iaload, 1) := by decide +kernel
theorem dL_law_318 : decode (mc mL_law) 318 = .ok (.invokevirtual 40, 3) := by decide +kernel
theorem dL_law_321 : decode (mc mL_law) 321 = .ok (.if_icmp .eq 433, 3) := by decide +kernel
theorem dL_law_324 : decode (mc mL_law) 324 = .ok (.iconst 0, 1) := by decide +kernel
theorem dL_law_325 : decode (mc mL_law) 325 = .ok (.ireturn, 1) := by decide +kernel
theorem dL_law_326 : decode (mc mL_law) 326 = .ok (.aload_n 1, 1) := by decide +kernel
theorem dL_law_327 : decode (mc mL_law) 327 = .ok (.aload_n 0, 1) := by decide +kernel
theorem dL_law_328 : decode (mc mL_law) 328 = .ok (.iload_n 3, 1) := by decide +kernel
theorem dL_law_329 : decode (mc mL_law) 329 = .ok (.iconst 1, 1) := by decide +kernel
theorem dL_law_330 : decode (mc mL_law) 330 = .ok (.iadd, 1) := by decide +kernel
theorem dL_law_331 : decode (mc mL_law) 331 = .ok (.iaload, 1) := by decide +kernel
theorem dL_law_332 : decode (mc mL_law) 332 = .ok (.aload_n 0, 1) := by decide +kernel
theorem dL_law_333 : decode (mc mL_law) 333 = .ok (.iload_n 3, 1) := by decide +kernel
theorem dL_law_334 : decode (mc mL_law) 334 = .ok (.iconst 2, 1) := by decide +kernel
theorem dL_law_335 : decode (mc mL_law) 335 = .ok (.iadd, 1) := by decide +kernel
theorem dL_law_336 : decode (mc mL_law) 336 = .ok (.iaload, 1) := by decide +kernel
theorem dL_law_337 : decode (mc mL_law) 337 = .ok (.invokevirtual 41, 3) := by decide +kernel
theorem dL_law_340 : decode (mc mL_law) 340 = .ok (.aload_n 2, 1) := by decide +kernel
theorem dL_law_341 : decode (mc mL_law) 341 = .ok (.aload_n 0, 1) := by decide +kernel
theorem dL_law_342 : decode (mc mL_law) 342 = .ok (.iload_n 3, 1) := by decide +kernel
theorem dL_law_343 : decode (mc mL_law) 343 = .ok (.iconst 1, 1) := by decide +kernel
theorem dL_law_344 : decode (mc mL_law) 344 = .ok (.iadd, 1) := by decide +kernel
theorem dL_law_345 : decode (mc mL_law) 345 = .ok (.iaload, 1) := by decide +kernel
theorem dL_law_346 : decode (mc mL_law) 346 = .ok (.aload_n 0, 1) := by decide +kernel
theorem dL_law_347 : decode (mc mL_law) 347 = .ok (.iload_n 3, 1) := by decide +kernel
theorem dL_law_348 : decode (mc mL_law) 348 = .ok (.iconst 2, 1) := by decide +kernel
theorem dL_law_349 : decode (mc mL_law) 349 = .ok (.iadd, 1) := by decide +kernel
theorem dL_law_350 : decode (mc mL_law) 350 = .ok (.iaload, 1) := by decide +kernel
theorem dL_law_351 : decode (mc mL_law) 351 = .ok (.invokevirtual 44, 3) := by decide +kernel
theorem dL_law_354 : decode (mc mL_law) 354 = .ok (.if_icmp .eq 400, 3) := by decide +kernel
theorem dL_law_357 : decode (mc mL_law) 357 = .ok (.iconst 0, 1) := by decide +kernel
theorem dL_law_358 : decode (mc mL_law) 358 = .ok (.ireturn, 1) := by decide +kernel
theorem dL_law_359 : decode (mc mL_law) 359 = .ok (.aload_n 1, 1) := by decide +kernel
theorem dL_law_360 : decode (mc mL_law) 360 = .ok (.aload_n 0, 1) := by decide +kernel
theorem dL_law_361 : decode (mc mL_law) 361 = .ok (.iload_n 3, 1) := by decide +kernel
theorem dL_law_362 : decode (mc mL_law) 362 = .ok (.iconst 1, 1) := by decide +kernel
theorem dL_law_363 : decode (mc mL_law) 363 = .ok (.iadd, 1) := by decide +kernel
theorem dL_law_364 : decode (mc mL_law) 364 = .ok (.iaload, 1) := by decide +kernel
theorem dL_law_365 : decode (mc mL_law) 365 = .ok (.aload_n 0, 1) := by decide +kernel
theorem dL_law_366 : decode (mc mL_law) 366 = .ok (.iload_n 3, 1) := by decide +kernel
theorem dL_law_367 : decode (mc mL_law) 367 = .ok (.iconst 2, 1) := by decide +kernel
theorem dL_law_368 : decode (mc mL_law) 368 = .ok (.iadd, 1) := by decide +kernel
theorem dL_law_369 : decode (mc mL_law) 369 = .ok (.iaload, 1) := by decide +kernel
theorem dL_law_370 : decode (mc mL_law) 370 = .ok (.invokevirtual 45, 3) := by decide +kernel
theorem dL_law_373 : decode (mc mL_law) 373 = .ok (.aload_n 2, 1) := by decide +kernel
theorem dL_law_374 : decode (mc mL_law) 374 = .ok (.aload_n 0, 1) := by decide +kernel
theorem dL_law_375 : decode (mc mL_law) 375 = .ok (.iload_n 3, 1) := by decide +kernel
theorem dL_law_376 : decode (mc mL_law) 376 = .ok (.iconst 1, 1) := by decide +kernel
theorem dL_law_377 : decode (mc mL_law) 377 = .ok (.iadd, 1) := by decide +kernel
theorem dL_law_378 : decode (mc mL_law) 378 = .ok (.iaload, 1) := by decide +kernel
theorem dL_law_379 : decode (mc mL_law) 379 = .ok (.aload_n 0, 1) := by decide +kernel
theorem dL_law_380 : decode (mc mL_law) 380 = .ok (.iload_n 3, 1) := by decide +kernel
theorem dL_law_381 : decode (mc mL_law) 381 = .ok (.iconst 2, 1) := by decide +kernel
theorem dL_law_382 : decode (mc mL_law) 382 = .ok (.iadd, 1) := by decide +kernel
theorem dL_law_383 : decode (mc mL_law) 383 = .ok (.iaload, 1) := by decide +kernel
theorem dL_law_384 : decode (mc mL_law) 384 = .ok (.invokevirtual 48, 3) := by decide +kernel
theorem dL_law_387 : decode (mc mL_law) 387 = .ok (.if_icmp .eq 367, 3) := by decide +kernel
theorem dL_law_390 : decode (mc mL_law) 390 = .ok (.iconst 0, 1) := by decide +kernel
theorem dL_law_391 : decode (mc mL_law) 391 = .ok (.ireturn, 1) := by decide +kernel
theorem dL_law_392 : decode (mc mL_law) 392 = .ok (.aload_n 1, 1) := by decide +kernel
theorem dL_law_393 : decode (mc mL_law) 393 = .ok (.aload_n 0, 1) := by decide +kernel
theorem dL_law_394 : decode (mc mL_law) 394 = .ok (.iload_n 3, 1) := by decide +kernel
theorem dL_law_395 : decode (mc mL_law) 395 = .ok (.iconst 1, 1) := by decide +kernel
theorem dL_law_396 : decode (mc mL_law) 396 = .ok (.iadd, 1) := by decide +kernel
theorem dL_law_397 : decode (mc mL_law) 397 = .ok (.iaload, 1) := by decide +kernel
theorem dL_law_398 : decode (mc mL_law) 398 = .ok (.aload_n 0, 1) := by decide +kernel
theorem dL_law_399 : decode (mc mL_law) 399 = .ok (.iload_n 3, 1) := by decide +kernel
theorem dL_law_400 : decode (mc mL_law) 400 = .ok (.iconst 2, 1) := by decide +kernel
theorem dL_law_401 : decode (mc mL_law) 401 = .ok (.iadd, 1) := by decide +kernel
theorem dL_law_402 : decode (mc mL_law) 402 = .ok (.iaload, 1) := by decide +kernel
theorem dL_law_403 : decode (mc mL_law) 403 = .ok (.invokevirtual 49, 3) := by decide +kernel
theorem dL_law_406 : decode (mc mL_law) 406 = .ok (.aload_n 2, 1) := by decide +kernel
theorem dL_law_407 : decode (mc mL_law) 407 = .ok (.aload_n 0, 1) := by decide +kernel
theorem dL_law_408 : decode (mc mL_law) 408 = .ok (.iload_n 3, 1) := by decide +kernel
theorem dL_law_409 : decode (mc mL_law) 409 = .ok (.iconst 1, 1) := by decide +kernel
theorem dL_law_410 : decode (mc mL_law) 410 = .ok (.iadd, 1) := by decide +kernel
theorem dL_law_411 : decode (mc mL_law) 411 = .ok (.iaload, 1) := by decide +kernel
theorem dL_law_412 : decode (mc mL_law) 412 = .ok (.aload_n 0, 1) := by decide +kernel
theorem dL_law_413 : decode (mc mL_law) 413 = .ok (.iload_n 3, 1) := by decide +kernel
theorem dL_law_414 : decode (mc mL_law) 414 = .ok (.iconst 2, 1) := by decide +kernel
theorem dL_law_415 : decode (mc mL_law) 415 = .ok (.iadd, 1) := by decide +kernel
theorem dL_law_416 : decode (mc mL_law) 416 = .ok (.iaload, 1) := by decide +kernel
theorem dL_law_417 : decode (mc mL_law) 417 = .ok (.invokevirtual 52, 3) := by decide +kernel
theorem dL_law_420 : decode (mc mL_law) 420 = .ok (.if_icmp .eq 334, 3) := by decide +kernel
theorem dL_law_423 : decode (mc mL_law) 423 = .ok (.iconst 0, 1) := by decide +kernel
theorem dL_law_424 : decode (mc mL_law) 424 = .ok (.ireturn, 1) := by decide +kernel
theorem dL_law_425 : decode (mc mL_law) 425 = .ok (.aload_n 1, 1) := by decide +kernel
theorem dL_law_426 : decode (mc mL_law) 426 = .ok (.invokevirtual 53, 3) := by decide +kernel
theorem dL_law_429 : decode (mc mL_law) 429 = .ok (.aload_n 2, 1) := by decide +kernel
theorem dL_law_430 : decode (mc mL_law) 430 = .ok (.invokevirtual 56, 3) := by decide +kernel
theorem dL_law_433 : decode (mc mL_law) 433 = .ok (.if_icmp .eq 321, 3) := by decide +kernel
theorem dL_law_436 : decode (mc mL_law) 436 = .ok (.iconst 0, 1) := by decide +kernel
theorem dL_law_437 : decode (mc mL_law) 437 = .ok (.ireturn, 1) := by decide +kernel
theorem dL_law_438 : decode (mc mL_law) 438 = .ok (.aload_n 1, 1) := by decide +kernel
theorem dL_law_439 : decode (mc mL_law) 439 = .ok (.invokevirtual 57, 3) := by decide +kernel
theorem dL_law_442 : decode (mc mL_law) 442 = .ok (.aload_n 2, 1) := by decide +kernel
theorem dL_law_443 : decode (mc mL_law) 443 = .ok (.invokevirtual 60, 3) := by decide +kernel
theorem dL_law_446 : decode (mc mL_law) 446 = .ok (.if_icmp .eq 308, 3) := by decide +kernel
theorem dL_law_449 : decode (mc mL_law) 449 = .ok (.iconst 0, 1) := by decide +kernel
theorem dL_law_450 : decode (mc mL_law) 450 = .ok (.ireturn, 1) := by decide +kernel
theorem dL_law_451 : decode (mc mL_law) 451 = .ok (.aload_n 1, 1) := by decide +kernel
theorem dL_law_452 : decode (mc mL_law) 452 = .ok (.aload_n 0, 1) := by decide +kernel
theorem dL_law_453 : decode (mc mL_law) 453 = .ok (.iload_n 3, 1) := by decide +kernel
theorem dL_law_454 : decode (mc mL_law) 454 = .ok (.iconst 1, 1) := by decide +kernel
theorem dL_law_455 : decode (mc mL_law) 455 = .ok (.iadd, 1) := by decide +kernel
theorem dL_law_456 : decode (mc mL_law) 456 = .ok (.iaload, 1) := by decide +kernel
theorem dL_law_457 : decode (mc mL_law) 457 = .ok (.invokevirtual 61, 3) := by decide +kernel
theorem dL_law_460 : decode (mc mL_law) 460 = .ok (.aload_n 2, 1) := by decide +kernel
theorem dL_law_461 : decode (mc mL_law) 461 = .ok (.aload_n 0, 1) := by decide +kernel
theorem dL_law_462 : decode (mc mL_law) 462 = .ok (.iload_n 3, 1) := by decide +kernel
theorem dL_law_463 : decode (mc mL_law) 463 = .ok (.iconst 1, 1) := by decide +kernel
theorem dL_law_464 : decode (mc mL_law) 464 = .ok (.iadd, 1) := by decide +kernel
theorem dL_law_465 : decode (mc mL_law) 465 = .ok (.iaload, 1) := by decide +kernel
theorem dL_law_466 : decode (mc mL_law) 466 = .ok (.invokevirtual 64, 3) := by decide +kernel
theorem dL_law_469 : decode (mc mL_law) 469 = .ok (.if_icmp .eq 285, 3) := by decide +kernel
theorem dL_law_472 : decode (mc mL_law) 472 = .ok (.iconst 0, 1) := by decide +kernel
theorem dL_law_473 : decode (mc mL_law) 473 = .ok (.ireturn, 1) := by decide +kernel
theorem dL_law_474 : decode (mc mL_law) 474 = .ok (.aload_n 1, 1) := by decide +kernel
theorem dL_law_475 : decode (mc mL_law) 475 = .ok (.aload_n 0, 1) := by decide +kernel
theorem dL_law_476 : decode (mc mL_law) 476 = .ok (.iload_n 3, 1) := by decide +kernel
theorem dL_law_477 : decode (mc mL_law) 477 = .ok (.iconst 1, 1) := by decide +kernel
theorem dL_law_478 : decode (mc mL_law) 478 = .ok (.iadd, 1) := by decide +kernel
theorem dL_law_479 : decode (mc mL_law) 479 = .ok (.iaload, 1) := by decide +kernel
theorem dL_law_480 : decode (mc mL_law) 480 = .ok (.invokevirtual 65, 3) := by decide +kernel
theorem dL_law_483 : decode (mc mL_law) 483 = .ok (.aload_n 2, 1) := by decide +kernel
theorem dL_law_484 : decode (mc mL_law) 484 = .ok (.aload_n 0, 1) := by decide +kernel
theorem dL_law_485 : decode (mc mL_law) 485 = .ok (.iload_n 3, 1) := by decide +kernel
theorem dL_law_486 : decode (mc mL_law) 486 = .ok (.iconst 1, 1) := by decide +kernel
theorem dL_law_487 : decode (mc mL_law) 487 = .ok (.iadd, 1) := by decide +kernel
theorem dL_law_488 : decode (mc mL_law) 488 = .ok (.iaload, 1) := by decide +kernel
theorem dL_law_489 : decode (mc mL_law) 489 = .ok (.invokevirtual 68, 3) := by decide +kernel
theorem dL_law_492 : decode (mc mL_law) 492 = .ok (.if_icmp .eq 262, 3) := by decide +kernel
theorem dL_law_495 : decode (mc mL_law) 495 = .ok (.iconst 0, 1) := by decide +kernel
theorem dL_law_496 : decode (mc mL_law) 496 = .ok (.ireturn, 1) := by decide +kernel
theorem dL_law_497 : decode (mc mL_law) 497 = .ok (.aload_n 1, 1) := by decide +kernel
theorem dL_law_498 : decode (mc mL_law) 498 = .ok (.aload_n 0, 1) := by decide +kernel
theorem dL_law_499 : decode (mc mL_law) 499 = .ok (.iload_n 3, 1) := by decide +kernel
theorem dL_law_500 : decode (mc mL_law) 500 = .ok (.iconst 1, 1) := by decide +kernel
theorem dL_law_501 : decode (mc mL_law) 501 = .ok (.iadd, 1) := by decide +kernel
theorem dL_law_502 : decode (mc mL_law) 502 = .ok (.iaload, 1) := by decide +kernel
theorem dL_law_503 : decode (mc mL_law) 503 = .ok (.invokevirtual 69, 3) := by decide +kernel
theorem dL_law_506 : decode (mc mL_law) 506 = .ok (.aload_n 2, 1) := by decide +kernel
theorem dL_law_507 : decode (mc mL_law) 507 = .ok (.aload_n 0, 1) := by decide +kernel
theorem dL_law_508 : decode (mc mL_law) 508 = .ok (.iload_n 3, 1) := by decide +kernel
theorem dL_law_509 : decode (mc mL_law) 509 = .ok (.iconst 1, 1) := by decide +kernel
theorem dL_law_510 : decode (mc mL_law) 510 = .ok (.iadd, 1) := by decide +kernel
theorem dL_law_511 : decode (mc mL_law) 511 = .ok (.iaload, 1) := by decide +kernel
theorem dL_law_512 : decode (mc mL_law) 512 = .ok (.invokevirtual 72, 3) := by decide +kernel
theorem dL_law_515 : decode (mc mL_law) 515 = .ok (.if_icmp .eq 239, 3) := by decide +kernel
theorem dL_law_518 : decode (mc mL_law) 518 = .ok (.iconst 0, 1) := by decide +kernel
theorem dL_law_519 : decode (mc mL_law) 519 = .ok (.ireturn, 1) := by decide +kernel
theorem dL_law_520 : decode (mc mL_law) 520 = .ok (.aload_n 1, 1) := by decide +kernel
theorem dL_law_521 : decode (mc mL_law) 521 = .ok (.aload_n 0, 1) := by decide +kernel
theorem dL_law_522 : decode (mc mL_law) 522 = .ok (.iload_n 3, 1) := by decide +kernel
theorem dL_law_523 : decode (mc mL_law) 523 = .ok (.iconst 1, 1) := by decide +kernel
theorem dL_law_524 : decode (mc mL_law) 524 = .ok (.iadd, 1) := by decide +kernel
theorem dL_law_525 : decode (mc mL_law) 525 = .ok (.iaload, 1) := by decide +kernel
theorem dL_law_526 : decode (mc mL_law) 526 = .ok (.aload_n 0, 1) := by decide +kernel
theorem dL_law_527 : decode (mc mL_law) 527 = .ok (.iload_n 3, 1) := by decide +kernel
theorem dL_law_528 : decode (mc mL_law) 528 = .ok (.iconst 2, 1) := by decide +kernel
theorem dL_law_529 : decode (mc mL_law) 529 = .ok (.iadd, 1) := by decide +kernel
theorem dL_law_530 : decode (mc mL_law) 530 = .ok (.iaload, 1) := by decide +kernel
theorem dL_law_531 : decode (mc mL_law) 531 = .ok (.invokevirtual 73, 3) := by decide +kernel
theorem dL_law_534 : decode (mc mL_law) 534 = .ok (.aload_n 2, 1) := by decide +kernel
theorem dL_law_535 : decode (mc mL_law) 535 = .ok (.aload_n 0, 1) := by decide +kernel
theorem dL_law_536 : decode (mc mL_law) 536 = .ok (.iload_n 3, 1) := by decide +kernel
theorem dL_law_537 : decode (mc mL_law) 537 = .ok (.iconst 1, 1) := by decide +kernel
theorem dL_law_538 : decode (mc mL_law) 538 = .ok (.iadd, 1) := by decide +kernel
theorem dL_law_539 : decode (mc mL_law) 539 = .ok (.iaload, 1) := by decide +kernel
theorem dL_law_540 : decode (mc mL_law) 540 = .ok (.aload_n 0, 1) := by decide +kernel
theorem dL_law_541 : decode (mc mL_law) 541 = .ok (.iload_n 3, 1) := by decide +kernel
theorem dL_law_542 : decode (mc mL_law) 542 = .ok (.iconst 2, 1) := by decide +kernel
theorem dL_law_543 : decode (mc mL_law) 543 = .ok (.iadd, 1) := by decide +kernel
theorem dL_law_544 : decode (mc mL_law) 544 = .ok (.iaload, 1) := by decide +kernel
theorem dL_law_545 : decode (mc mL_law) 545 = .ok (.invokevirtual 76, 3) := by decide +kernel
theorem dL_law_548 : decode (mc mL_law) 548 = .ok (.if_icmp .eq 206, 3) := by decide +kernel
theorem dL_law_551 : decode (mc mL_law) 551 = .ok (.iconst 0, 1) := by decide +kernel
theorem dL_law_552 : decode (mc mL_law) 552 = .ok (.ireturn, 1) := by decide +kernel
theorem dL_law_553 : decode (mc mL_law) 553 = .ok (.aload_n 1, 1) := by decide +kernel
theorem dL_law_554 : decode (mc mL_law) 554 = .ok (.aload_n 0, 1) := by decide +kernel
theorem dL_law_555 : decode (mc mL_law) 555 = .ok (.iload_n 3, 1) := by decide +kernel
theorem dL_law_556 : decode (mc mL_law) 556 = .ok (.iconst 1, 1) := by decide +kernel
theorem dL_law_557 : decode (mc mL_law) 557 = .ok (.iadd, 1) := by decide +kernel
theorem dL_law_558 : decode (mc mL_law) 558 = .ok (.iaload, 1) := by decide +kernel
theorem dL_law_559 : decode (mc mL_law) 559 = .ok (.invokevirtual 77, 3) := by decide +kernel
theorem dL_law_562 : decode (mc mL_law) 562 = .ok (.aload_n 2, 1) := by decide +kernel
theorem dL_law_563 : decode (mc mL_law) 563 = .ok (.aload_n 0, 1) := by decide +kernel
theorem dL_law_564 : decode (mc mL_law) 564 = .ok (.iload_n 3, 1) := by decide +kernel
theorem dL_law_565 : decode (mc mL_law) 565 = .ok (.iconst 1, 1) := by decide +kernel
theorem dL_law_566 : decode (mc mL_law) 566 = .ok (.iadd, 1) := by decide +kernel
theorem dL_law_567 : decode (mc mL_law) 567 = .ok (.iaload, 1) := by decide +kernel
theorem dL_law_568 : decode (mc mL_law) 568 = .ok (.invokevirtual 80, 3) := by decide +kernel
theorem dL_law_571 : decode (mc mL_law) 571 = .ok (.if_icmp .eq 183, 3) := by decide +kernel
theorem dL_law_574 : decode (mc mL_law) 574 = .ok (.iconst 0, 1) := by decide +kernel
theorem dL_law_575 : decode (mc mL_law) 575 = .ok (.ireturn, 1) := by decide +kernel
theorem dL_law_576 : decode (mc mL_law) 576 = .ok (.aload_n 1, 1) := by decide +kernel
theorem dL_law_577 : decode (mc mL_law) 577 = .ok (.aload_n 0, 1) := by decide +kernel
theorem dL_law_578 : decode (mc mL_law) 578 = .ok (.iload_n 3, 1) := by decide +kernel
theorem dL_law_579 : decode (mc mL_law) 579 = .ok (.iconst 1, 1) := by decide +kernel
theorem dL_law_580 : decode (mc mL_law) 580 = .ok (.iadd, 1) := by decide +kernel
theorem dL_law_581 : decode (mc mL_law) 581 = .ok (.iaload, 1) := by decide +kernel
theorem dL_law_582 : decode (mc mL_law) 582 = .ok (.invokevirtual 81, 3) := by decide +kernel
theorem dL_law_585 : decode (mc mL_law) 585 = .ok (.aload_n 2, 1) := by decide +kernel
theorem dL_law_586 : decode (mc mL_law) 586 = .ok (.aload_n 0, 1) := by decide +kernel
theorem dL_law_587 : decode (mc mL_law) 587 = .ok (.iload_n 3, 1) := by decide +kernel
theorem dL_law_588 : decode (mc mL_law) 588 = .ok (.iconst 1, 1) := by decide +kernel
theorem dL_law_589 : decode (mc mL_law) 589 = .ok (.iadd, 1) := by decide +kernel
theorem dL_law_590 : decode (mc mL_law) 590 = .ok (.iaload, 1) := by decide +kernel
theorem dL_law_591 : decode (mc mL_law) 591 = .ok (.invokevirtual 84, 3) := by decide +kernel
theorem dL_law_594 : decode (mc mL_law) 594 = .ok (.if_icmp .eq 160, 3) := by decide +kernel
theorem dL_law_597 : decode (mc mL_law) 597 = .ok (.iconst 0, 1) := by decide +kernel
theorem dL_law_598 : decode (mc mL_law) 598 = .ok (.ireturn, 1) := by decide +kernel
theorem dL_law_599 : decode (mc mL_law) 599 = .ok (.aload_n 1, 1) := by decide +kernel
theorem dL_law_600 : decode (mc mL_law) 600 = .ok (.aload_n 0, 1) := by decide +kernel
theorem dL_law_601 : decode (mc mL_law) 601 = .ok (.iload_n 3, 1) := by decide +kernel
theorem dL_law_602 : decode (mc mL_law) 602 = .ok (.iconst 1, 1) := by decide +kernel
theorem dL_law_603 : decode (mc mL_law) 603 = .ok (.iadd, 1) := by decide +kernel
theorem dL_law_604 : decode (mc mL_law) 604 = .ok (.iaload, 1) := by decide +kernel
theorem dL_law_605 : decode (mc mL_law) 605 = .ok (.invokevirtual 85, 3) := by decide +kernel
theorem dL_law_608 : decode (mc mL_law) 608 = .ok (.aload_n 2, 1) := by decide +kernel
theorem dL_law_609 : decode (mc mL_law) 609 = .ok (.aload_n 0, 1) := by decide +kernel
theorem dL_law_610 : decode (mc mL_law) 610 = .ok (.iload_n 3, 1) := by decide +kernel
theorem dL_law_611 : decode (mc mL_law) 611 = .ok (.iconst 1, 1) := by decide +kernel
theorem dL_law_612 : decode (mc mL_law) 612 = .ok (.iadd, 1) := by decide +kernel
theorem dL_law_613 : decode (mc mL_law) 613 = .ok (.iaload, 1) := by decide +kernel
theorem dL_law_614 : decode (mc mL_law) 614 = .ok (.invokevirtual 88, 3) := by decide +kernel
theorem dL_law_617 : decode (mc mL_law) 617 = .ok (.if_icmp .eq 137, 3) := by decide +kernel
theorem dL_law_620 : decode (mc mL_law) 620 = .ok (.iconst 0, 1) := by decide +kernel
theorem dL_law_621 : decode (mc mL_law) 621 = .ok (.ireturn, 1) := by decide +kernel
theorem dL_law_622 : decode (mc mL_law) 622 = .ok (.aload_n 1, 1) := by decide +kernel
theorem dL_law_623 : decode (mc mL_law) 623 = .ok (.aload_n 0, 1) := by decide +kernel
theorem dL_law_624 : decode (mc mL_law) 624 = .ok (.iload_n 3, 1) := by decide +kernel
theorem dL_law_625 : decode (mc mL_law) 625 = .ok (.iconst 1, 1) := by decide +kernel
theorem dL_law_626 : decode (mc mL_law) 626 = .ok (.iadd, 1) := by decide +kernel
theorem dL_law_627 : decode (mc mL_law) 627 = .ok (.iaload, 1) := by decide +kernel
theorem dL_law_628 : decode (mc mL_law) 628 = .ok (.invokevirtual 89, 3) := by decide +kernel
theorem dL_law_631 : decode (mc mL_law) 631 = .ok (.aload_n 2, 1) := by decide +kernel
theorem dL_law_632 : decode (mc mL_law) 632 = .ok (.aload_n 0, 1) := by decide +kernel
theorem dL_law_633 : decode (mc mL_law) 633 = .ok (.iload_n 3, 1) := by decide +kernel
theorem dL_law_634 : decode (mc mL_law) 634 = .ok (.iconst 1, 1) := by decide +kernel
theorem dL_law_635 : decode (mc mL_law) 635 = .ok (.iadd, 1) := by decide +kernel
theorem dL_law_636 : decode (mc mL_law) 636 = .ok (.iaload, 1) := by decide +kernel
theorem dL_law_637 : decode (mc mL_law) 637 = .ok (.invokevirtual 92, 3) := by decide +kernel
theorem dL_law_640 : decode (mc mL_law) 640 = .ok (.if_icmp .eq 114, 3) := by decide +kernel
theorem dL_law_643 : decode (mc mL_law) 643 = .ok (.iconst 0, 1) := by decide +kernel
theorem dL_law_644 : decode (mc mL_law) 644 = .ok (.ireturn, 1) := by decide +kernel
theorem dL_law_645 : decode (mc mL_law) 645 = .ok (.aload_n 1, 1) := by decide +kernel
theorem dL_law_646 : decode (mc mL_law) 646 = .ok (.aload_n 0, 1) := by decide +kernel
theorem dL_law_647 : decode (mc mL_law) 647 = .ok (.iload_n 3, 1) := by decide +kernel
theorem dL_law_648 : decode (mc mL_law) 648 = .ok (.iconst 1, 1) := by decide +kernel
theorem dL_law_649 : decode (mc mL_law) 649 = .ok (.iadd, 1) := by decide +kernel
theorem dL_law_650 : decode (mc mL_law) 650 = .ok (.iaload, 1) := by decide +kernel
theorem dL_law_651 : decode (mc mL_law) 651 = .ok (.aload_n 0, 1) := by decide +kernel
theorem dL_law_652 : decode (mc mL_law) 652 = .ok (.iload_n 3, 1) := by decide +kernel
theorem dL_law_653 : decode (mc mL_law) 653 = .ok (.iconst 2, 1) := by decide +kernel
theorem dL_law_654 : decode (mc mL_law) 654 = .ok (.iadd, 1) := by decide +kernel
theorem dL_law_655 : decode (mc mL_law) 655 = .ok (.iaload, 1) := by decide +kernel
theorem dL_law_656 : decode (mc mL_law) 656 = .ok (.invokevirtual 93, 3) := by decide +kernel
theorem dL_law_659 : decode (mc mL_law) 659 = .ok (.aload_n 2, 1) := by decide +kernel
theorem dL_law_660 : decode (mc mL_law) 660 = .ok (.aload_n 0, 1) := by decide +kernel
theorem dL_law_661 : decode (mc mL_law) 661 = .ok (.iload_n 3, 1) := by decide +kernel
theorem dL_law_662 : decode (mc mL_law) 662 = .ok (.iconst 1, 1) := by decide +kernel
theorem dL_law_663 : decode (mc mL_law) 663 = .ok (.iadd, 1) := by decide +kernel
theorem dL_law_664 : decode (mc mL_law) 664 = .ok (.iaload, 1) := by decide +kernel
theorem dL_law_665 : decode (mc mL_law) 665 = .ok (.aload_n 0, 1) := by decide +kernel
theorem dL_law_666 : decode (mc mL_law) 666 = .ok (.iload_n 3, 1) := by decide +kernel
theorem dL_law_667 : decode (mc mL_law) 667 = .ok (.iconst 2, 1) := by decide +kernel
theorem dL_law_668 : decode (mc mL_law) 668 = .ok (.iadd, 1) := by decide +kernel
theorem dL_law_669 : decode (mc mL_law) 669 = .ok (.iaload, 1) := by decide +kernel
theorem dL_law_670 : decode (mc mL_law) 670 = .ok (.invokevirtual 96, 3) := by decide +kernel
theorem dL_law_673 : decode (mc mL_law) 673 = .ok (.if_icmp .eq 81, 3) := by decide +kernel
theorem dL_law_676 : decode (mc mL_law) 676 = .ok (.iconst 0, 1) := by decide +kernel
theorem dL_law_677 : decode (mc mL_law) 677 = .ok (.ireturn, 1) := by decide +kernel
theorem dL_law_678 : decode (mc mL_law) 678 = .ok (.aload_n 1, 1) := by decide +kernel
theorem dL_law_679 : decode (mc mL_law) 679 = .ok (.aload_n 0, 1) := by decide +kernel
theorem dL_law_680 : decode (mc mL_law) 680 = .ok (.iload_n 3, 1) := by decide +kernel
theorem dL_law_681 : decode (mc mL_law) 681 = .ok (.iconst 1, 1) := by decide +kernel
theorem dL_law_682 : decode (mc mL_law) 682 = .ok (.iadd, 1) := by decide +kernel
theorem dL_law_683 : decode (mc mL_law) 683 = .ok (.iaload, 1) := by decide +kernel
theorem dL_law_684 : decode (mc mL_law) 684 = .ok (.invokevirtual 97, 3) := by decide +kernel
theorem dL_law_687 : decode (mc mL_law) 687 = .ok (.aload_n 2, 1) := by decide +kernel
theorem dL_law_688 : decode (mc mL_law) 688 = .ok (.aload_n 0, 1) := by decide +kernel
theorem dL_law_689 : decode (mc mL_law) 689 = .ok (.iload_n 3, 1) := by decide +kernel
theorem dL_law_690 : decode (mc mL_law) 690 = .ok (.iconst 1, 1) := by decide +kernel
theorem dL_law_691 : decode (mc mL_law) 691 = .ok (.iadd, 1) := by decide +kernel
theorem dL_law_692 : decode (mc mL_law) 692 = .ok (.iaload, 1) := by decide +kernel
theorem dL_law_693 : decode (mc mL_law) 693 = .ok (.invokevirtual 100, 3) := by decide +kernel
theorem dL_law_696 : decode (mc mL_law) 696 = .ok (.if_icmp .eq 58, 3) := by decide +kernel
theorem dL_law_699 : decode (mc mL_law) 699 = .ok (.iconst 0, 1) := by decide +kernel
theorem dL_law_700 : decode (mc mL_law) 700 = .ok (.ireturn, 1) := by decide +kernel
theorem dL_law_701 : decode (mc mL_law) 701 = .ok (.aload_n 1, 1) := by decide +kernel
theorem dL_law_702 : decode (mc mL_law) 702 = .ok (.invokevirtual 101, 3) := by decide +kernel
theorem dL_law_705 : decode (mc mL_law) 705 = .ok (.aload_n 2, 1) := by decide +kernel
theorem dL_law_706 : decode (mc mL_law) 706 = .ok (.invokevirtual 104, 3) := by decide +kernel
theorem dL_law_709 : decode (mc mL_law) 709 = .ok (.if_icmp .eq 45, 3) := by decide +kernel
theorem dL_law_712 : decode (mc mL_law) 712 = .ok (.iconst 0, 1) := by decide +kernel
theorem dL_law_713 : decode (mc mL_law) 713 = .ok (.ireturn, 1) := by decide +kernel
theorem dL_law_714 : decode (mc mL_law) 714 = .ok (.aload_n 1, 1) := by decide +kernel
theorem dL_law_715 : decode (mc mL_law) 715 = .ok (.invokevirtual 105, 3) := by decide +kernel
theorem dL_law_718 : decode (mc mL_law) 718 = .ok (.aload_n 2, 1) := by decide +kernel
theorem dL_law_719 : decode (mc mL_law) 719 = .ok (.invokevirtual 108, 3) := by decide +kernel
theorem dL_law_722 : decode (mc mL_law) 722 = .ok (.if_icmp .eq 32, 3) := by decide +kernel
theorem dL_law_725 : decode (mc mL_law) 725 = .ok (.iconst 0, 1) := by decide +kernel
theorem dL_law_726 : decode (mc mL_law) 726 = .ok (.ireturn, 1) := by decide +kernel
theorem dL_law_727 : decode (mc mL_law) 727 = .ok (.aload_n 1, 1) := by decide +kernel
theorem dL_law_728 : decode (mc mL_law) 728 = .ok (.invokevirtual 109, 3) := by decide +kernel
theorem dL_law_731 : decode (mc mL_law) 731 = .ok (.aload_n 2, 1) := by decide +kernel
theorem dL_law_732 : decode (mc mL_law) 732 = .ok (.invokevirtual 112, 3) := by decide +kernel
theorem dL_law_735 : decode (mc mL_law) 735 = .ok (.if_icmp .eq 19, 3) := by decide +kernel
theorem dL_law_738 : decode (mc mL_law) 738 = .ok (.iconst 0, 1) := by decide +kernel
theorem dL_law_739 : decode (mc mL_law) 739 = .ok (.ireturn, 1) := by decide +kernel
theorem dL_law_740 : decode (mc mL_law) 740 = .ok (.aload_n 1, 1) := by decide +kernel
theorem dL_law_741 : decode (mc mL_law) 741 = .ok (.invokevirtual 113, 3) := by decide +kernel
theorem dL_law_744 : decode (mc mL_law) 744 = .ok (.aload_n 2, 1) := by decide +kernel
theorem dL_law_745 : decode (mc mL_law) 745 = .ok (.invokevirtual 117, 3) := by decide +kernel
theorem dL_law_748 : decode (mc mL_law) 748 = .ok (.lcmp, 1) := by decide +kernel
theorem dL_law_749 : decode (mc mL_law) 749 = .ok (.ifCond .eq 5, 3) := by decide +kernel
theorem dL_law_752 : decode (mc mL_law) 752 = .ok (.iconst 0, 1) := by decide +kernel
theorem dL_law_753 : decode (mc mL_law) 753 = .ok (.ireturn, 1) := by decide +kernel
theorem dL_law_754 : decode (mc mL_law) 754 = .ok (.iinc 3 4, 3) := by decide +kernel
theorem dL_law_757 : decode (mc mL_law) 757 = .ok (.goto (-739), 3) := by decide +kernel
theorem dL_law_760 : decode (mc mL_law) 760 = .ok (.iconst 1, 1) := by decide +kernel
theorem dL_law_761 : decode (mc mL_law) 761 = .ok (.ireturn, 1) := by decide +kernel
end
