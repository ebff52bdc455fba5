-- ===== PART A: goes FIRST, ahead of the names: the tables' words, and 'selects' of the private methods out of them =====
/-- a private method of a class that the tables say can be made, by its rows of tables_1 -/
def lw_okq (q : MethodName × Nat) : Prop := (q.1.cls ≠ "java/lang/invoke/MethodHandle" ∧ q.1.cls ≠ "java/lang/invoke/VarHandle") ∧ Cond.instantiable q.1.cls q.2 ∈ tables_1 ∧ Cond.privateMethod q.1 ∈ tables_1 ∧ Cond.instanceMethod q.1 ∈ tables_1
theorem lw_p0 : lw_okq (⟨"TextRegions$Layout", "arrange", "()V"⟩, 8) := ⟨⟨by decide +kernel, by decide +kernel⟩, List.mem_of_getElem? (i := 204) (by decide +kernel), List.mem_of_getElem? (i := 296) (by decide +kernel), List.mem_of_getElem? (i := 297) (by decide +kernel)⟩
theorem lw_p1 : lw_okq (⟨"TextRegions$Layout", "strip", "(I)I"⟩, 8) := ⟨⟨by decide +kernel, by decide +kernel⟩, List.mem_of_getElem? (i := 204) (by decide +kernel), List.mem_of_getElem? (i := 300) (by decide +kernel), List.mem_of_getElem? (i := 301) (by decide +kernel)⟩
theorem lw_p2 : lw_okq (⟨"TextRegions$Layout", "cornerT", "(I)I"⟩, 8) := ⟨⟨by decide +kernel, by decide +kernel⟩, List.mem_of_getElem? (i := 204) (by decide +kernel), List.mem_of_getElem? (i := 304) (by decide +kernel), List.mem_of_getElem? (i := 305) (by decide +kernel)⟩
theorem lw_p3 : lw_okq (⟨"TextRegions$Layout", "isTurned", "()Z"⟩, 8) := ⟨⟨by decide +kernel, by decide +kernel⟩, List.mem_of_getElem? (i := 204) (by decide +kernel), List.mem_of_getElem? (i := 308) (by decide +kernel), List.mem_of_getElem? (i := 309) (by decide +kernel)⟩
theorem lw_p4 : lw_okq (⟨"TextRegions$Layout", "cornerColumn", "(I)I"⟩, 8) := ⟨⟨by decide +kernel, by decide +kernel⟩, List.mem_of_getElem? (i := 204) (by decide +kernel), List.mem_of_getElem? (i := 312) (by decide +kernel), List.mem_of_getElem? (i := 313) (by decide +kernel)⟩
theorem lw_p5 : lw_okq (⟨"TextRegions$Layout", "cornerRow", "(I)I"⟩, 8) := ⟨⟨by decide +kernel, by decide +kernel⟩, List.mem_of_getElem? (i := 204) (by decide +kernel), List.mem_of_getElem? (i := 316) (by decide +kernel), List.mem_of_getElem? (i := 317) (by decide +kernel)⟩
theorem lw_p6 : lw_okq (⟨"TextRegions$Page", "lighten", "()V"⟩, 3) := ⟨⟨by decide +kernel, by decide +kernel⟩, List.mem_of_getElem? (i := 69) (by decide +kernel), List.mem_of_getElem? (i := 320) (by decide +kernel), List.mem_of_getElem? (i := 321) (by decide +kernel)⟩
theorem lw_p7 : lw_okq (⟨"TextRegions$Page", "lay", "(LTextRegions$Layout;I)V"⟩, 3) := ⟨⟨by decide +kernel, by decide +kernel⟩, List.mem_of_getElem? (i := 69) (by decide +kernel), List.mem_of_getElem? (i := 324) (by decide +kernel), List.mem_of_getElem? (i := 325) (by decide +kernel)⟩
theorem lw_p8 : lw_okq (⟨"TextRegions$Dictionary", "sampleNumber", "(III)I"⟩, 4) := ⟨⟨by decide +kernel, by decide +kernel⟩, List.mem_of_getElem? (i := 39) (by decide +kernel), List.mem_of_getElem? (i := 328) (by decide +kernel), List.mem_of_getElem? (i := 329) (by decide +kernel)⟩
theorem lw_p9 : lw_okq (⟨"TextRegions$Page", "laySample", "(IIZI)V"⟩, 3) := ⟨⟨by decide +kernel, by decide +kernel⟩, List.mem_of_getElem? (i := 69) (by decide +kernel), List.mem_of_getElem? (i := 335) (by decide +kernel), List.mem_of_getElem? (i := 336) (by decide +kernel)⟩
theorem lw_p10 : lw_okq (⟨"TextRegions$Page", "has", "(II)Z"⟩, 3) := ⟨⟨by decide +kernel, by decide +kernel⟩, List.mem_of_getElem? (i := 69) (by decide +kernel), List.mem_of_getElem? (i := 339) (by decide +kernel), List.mem_of_getElem? (i := 340) (by decide +kernel)⟩
theorem lw_p11 : lw_okq (⟨"TextRegions$Page", "countDark", "()I"⟩, 3) := ⟨⟨by decide +kernel, by decide +kernel⟩, List.mem_of_getElem? (i := 69) (by decide +kernel), List.mem_of_getElem? (i := 349) (by decide +kernel), List.mem_of_getElem? (i := 350) (by decide +kernel)⟩
theorem lw_p12 : lw_okq (⟨"TextRegions$Teller", "prepare", "(LTextRegions$Layout;)V"⟩, 2) := ⟨⟨by decide +kernel, by decide +kernel⟩, List.mem_of_getElem? (i := 143) (by decide +kernel), List.mem_of_getElem? (i := 357) (by decide +kernel), List.mem_of_getElem? (i := 358) (by decide +kernel)⟩
theorem lw_p13 : lw_okq (⟨"TextRegions$CodeNames", "weigh", "(LTextRegions$Layout;)V"⟩, 5) := ⟨⟨by decide +kernel, by decide +kernel⟩, List.mem_of_getElem? (i := 108) (by decide +kernel), List.mem_of_getElem? (i := 372) (by decide +kernel), List.mem_of_getElem? (i := 373) (by decide +kernel)⟩
theorem lw_p14 : lw_okq (⟨"TextRegions$CodeNames", "joinLeast", "(I)I"⟩, 5) := ⟨⟨by decide +kernel, by decide +kernel⟩, List.mem_of_getElem? (i := 108) (by decide +kernel), List.mem_of_getElem? (i := 376) (by decide +kernel), List.mem_of_getElem? (i := 377) (by decide +kernel)⟩
theorem lw_p15 : lw_okq (⟨"TextRegions$CodeNames", "joinsOf", "(I)I"⟩, 5) := ⟨⟨by decide +kernel, by decide +kernel⟩, List.mem_of_getElem? (i := 108) (by decide +kernel), List.mem_of_getElem? (i := 380) (by decide +kernel), List.mem_of_getElem? (i := 381) (by decide +kernel)⟩
def lw_privs_1 : List (MethodName × Nat) := [(⟨"TextRegions$Layout", "arrange", "()V"⟩, 8), (⟨"TextRegions$Layout", "strip", "(I)I"⟩, 8), (⟨"TextRegions$Layout", "cornerT", "(I)I"⟩, 8), (⟨"TextRegions$Layout", "isTurned", "()Z"⟩, 8), (⟨"TextRegions$Layout", "cornerColumn", "(I)I"⟩, 8), (⟨"TextRegions$Layout", "cornerRow", "(I)I"⟩, 8), (⟨"TextRegions$Page", "lighten", "()V"⟩, 3), (⟨"TextRegions$Page", "lay", "(LTextRegions$Layout;I)V"⟩, 3), (⟨"TextRegions$Dictionary", "sampleNumber", "(III)I"⟩, 4), (⟨"TextRegions$Page", "laySample", "(IIZI)V"⟩, 3), (⟨"TextRegions$Page", "has", "(II)Z"⟩, 3), (⟨"TextRegions$Page", "countDark", "()I"⟩, 3), (⟨"TextRegions$Teller", "prepare", "(LTextRegions$Layout;)V"⟩, 2), (⟨"TextRegions$CodeNames", "weigh", "(LTextRegions$Layout;)V"⟩, 5), (⟨"TextRegions$CodeNames", "joinLeast", "(I)I"⟩, 5), (⟨"TextRegions$CodeNames", "joinsOf", "(I)I"⟩, 5)]
theorem lw_r1 : ∀ q ∈ lw_privs_1, lw_okq q := List.forall_mem_cons.mpr ⟨lw_p0, List.forall_mem_cons.mpr ⟨lw_p1, List.forall_mem_cons.mpr ⟨lw_p2, List.forall_mem_cons.mpr ⟨lw_p3, List.forall_mem_cons.mpr ⟨lw_p4, List.forall_mem_cons.mpr ⟨lw_p5, List.forall_mem_cons.mpr ⟨lw_p6, List.forall_mem_cons.mpr ⟨lw_p7, List.forall_mem_cons.mpr ⟨lw_p8, List.forall_mem_cons.mpr ⟨lw_p9, List.forall_mem_cons.mpr ⟨lw_p10, List.forall_mem_cons.mpr ⟨lw_p11, List.forall_mem_cons.mpr ⟨lw_p12, List.forall_mem_cons.mpr ⟨lw_p13, List.forall_mem_cons.mpr ⟨lw_p14, List.forall_mem_cons.mpr ⟨lw_p15, fun _ h => absurd h List.not_mem_nil⟩⟩⟩⟩⟩⟩⟩⟩⟩⟩⟩⟩⟩⟩⟩⟩
theorem lw_p16 : lw_okq (⟨"TextRegions$CodeNames", "assignCodes", "()V"⟩, 5) := ⟨⟨by decide +kernel, by decide +kernel⟩, List.mem_of_getElem? (i := 108) (by decide +kernel), List.mem_of_getElem? (i := 384) (by decide +kernel), List.mem_of_getElem? (i := 385) (by decide +kernel)⟩
theorem lw_p17 : lw_okq (⟨"TextRegions$Teller", "tellAll", "(LTextRegions$Layout;Z)I"⟩, 2) := ⟨⟨by decide +kernel, by decide +kernel⟩, List.mem_of_getElem? (i := 143) (by decide +kernel), List.mem_of_getElem? (i := 394) (by decide +kernel), List.mem_of_getElem? (i := 395) (by decide +kernel)⟩
theorem lw_p18 : lw_okq (⟨"TextRegions$BitWriter", "start", "(Z)V"⟩, 3) := ⟨⟨by decide +kernel, by decide +kernel⟩, List.mem_of_getElem? (i := 145) (by decide +kernel), List.mem_of_getElem? (i := 398) (by decide +kernel), List.mem_of_getElem? (i := 399) (by decide +kernel)⟩
theorem lw_p19 : lw_okq (⟨"TextRegions$BitWriter", "tellNumber", "(I)V"⟩, 3) := ⟨⟨by decide +kernel, by decide +kernel⟩, List.mem_of_getElem? (i := 145) (by decide +kernel), List.mem_of_getElem? (i := 402) (by decide +kernel), List.mem_of_getElem? (i := 403) (by decide +kernel)⟩
theorem lw_p20 : lw_okq (⟨"TextRegions$BitWriter", "tellBits", "(II)V"⟩, 3) := ⟨⟨by decide +kernel, by decide +kernel⟩, List.mem_of_getElem? (i := 145) (by decide +kernel), List.mem_of_getElem? (i := 406) (by decide +kernel), List.mem_of_getElem? (i := 407) (by decide +kernel)⟩
theorem lw_p21 : lw_okq (⟨"TextRegions$ByteRow", "append", "(I)V"⟩, 2) := ⟨⟨by decide +kernel, by decide +kernel⟩, List.mem_of_getElem? (i := 89) (by decide +kernel), List.mem_of_getElem? (i := 410) (by decide +kernel), List.mem_of_getElem? (i := 411) (by decide +kernel)⟩
theorem lw_p22 : lw_okq (⟨"TextRegions$FrontNames", "putByNumber", "()V"⟩, 2) := ⟨⟨by decide +kernel, by decide +kernel⟩, List.mem_of_getElem? (i := 130) (by decide +kernel), List.mem_of_getElem? (i := 434) (by decide +kernel), List.mem_of_getElem? (i := 435) (by decide +kernel)⟩
theorem lw_p23 : lw_okq (⟨"TextRegions$Teller", "tellInstances", "(LTextRegions$Layout;)V"⟩, 2) := ⟨⟨by decide +kernel, by decide +kernel⟩, List.mem_of_getElem? (i := 143) (by decide +kernel), List.mem_of_getElem? (i := 438) (by decide +kernel), List.mem_of_getElem? (i := 439) (by decide +kernel)⟩
theorem lw_p24 : lw_okq (⟨"TextRegions$Layout", "cornerS", "(I)I"⟩, 8) := ⟨⟨by decide +kernel, by decide +kernel⟩, List.mem_of_getElem? (i := 204) (by decide +kernel), List.mem_of_getElem? (i := 442) (by decide +kernel), List.mem_of_getElem? (i := 443) (by decide +kernel)⟩
theorem lw_p25 : lw_okq (⟨"TextRegions$BitWriter", "tellSigned", "(I)V"⟩, 3) := ⟨⟨by decide +kernel, by decide +kernel⟩, List.mem_of_getElem? (i := 145) (by decide +kernel), List.mem_of_getElem? (i := 447) (by decide +kernel), List.mem_of_getElem? (i := 448) (by decide +kernel)⟩
theorem lw_p26 : lw_okq (⟨"TextRegions$FrontNames", "toFront", "(I)V"⟩, 2) := ⟨⟨by decide +kernel, by decide +kernel⟩, List.mem_of_getElem? (i := 130) (by decide +kernel), List.mem_of_getElem? (i := 467) (by decide +kernel), List.mem_of_getElem? (i := 468) (by decide +kernel)⟩
theorem lw_p27 : lw_okq (⟨"TextRegions$Dictionary", "sampleCount", "(I)I"⟩, 4) := ⟨⟨by decide +kernel, by decide +kernel⟩, List.mem_of_getElem? (i := 39) (by decide +kernel), List.mem_of_getElem? (i := 471) (by decide +kernel), List.mem_of_getElem? (i := 472) (by decide +kernel)⟩
theorem lw_p28 : lw_okq (⟨"TextRegions$Teller", "tellDiffers", "(JI)V"⟩, 2) := ⟨⟨by decide +kernel, by decide +kernel⟩, List.mem_of_getElem? (i := 143) (by decide +kernel), List.mem_of_getElem? (i := 475) (by decide +kernel), List.mem_of_getElem? (i := 476) (by decide +kernel)⟩
theorem lw_p29 : lw_okq (⟨"TextRegions$Layout", "nextS", "(I)I"⟩, 8) := ⟨⟨by decide +kernel, by decide +kernel⟩, List.mem_of_getElem? (i := 204) (by decide +kernel), List.mem_of_getElem? (i := 490) (by decide +kernel), List.mem_of_getElem? (i := 491) (by decide +kernel)⟩
theorem lw_p30 : lw_okq (⟨"TextRegions$Reader", "readAll", "(LTextRegions$Layout;)I"⟩, 2) := ⟨⟨by decide +kernel, by decide +kernel⟩, List.mem_of_getElem? (i := 173) (by decide +kernel), List.mem_of_getElem? (i := 499) (by decide +kernel), List.mem_of_getElem? (i := 500) (by decide +kernel)⟩
theorem lw_p31 : lw_okq (⟨"TextRegions$BitReader", "start", "()V"⟩, 3) := ⟨⟨by decide +kernel, by decide +kernel⟩, List.mem_of_getElem? (i := 175) (by decide +kernel), List.mem_of_getElem? (i := 503) (by decide +kernel), List.mem_of_getElem? (i := 504) (by decide +kernel)⟩
def lw_privs_2 : List (MethodName × Nat) := [(⟨"TextRegions$CodeNames", "assignCodes", "()V"⟩, 5), (⟨"TextRegions$Teller", "tellAll", "(LTextRegions$Layout;Z)I"⟩, 2), (⟨"TextRegions$BitWriter", "start", "(Z)V"⟩, 3), (⟨"TextRegions$BitWriter", "tellNumber", "(I)V"⟩, 3), (⟨"TextRegions$BitWriter", "tellBits", "(II)V"⟩, 3), (⟨"TextRegions$ByteRow", "append", "(I)V"⟩, 2), (⟨"TextRegions$FrontNames", "putByNumber", "()V"⟩, 2), (⟨"TextRegions$Teller", "tellInstances", "(LTextRegions$Layout;)V"⟩, 2), (⟨"TextRegions$Layout", "cornerS", "(I)I"⟩, 8), (⟨"TextRegions$BitWriter", "tellSigned", "(I)V"⟩, 3), (⟨"TextRegions$FrontNames", "toFront", "(I)V"⟩, 2), (⟨"TextRegions$Dictionary", "sampleCount", "(I)I"⟩, 4), (⟨"TextRegions$Teller", "tellDiffers", "(JI)V"⟩, 2), (⟨"TextRegions$Layout", "nextS", "(I)I"⟩, 8), (⟨"TextRegions$Reader", "readAll", "(LTextRegions$Layout;)I"⟩, 2), (⟨"TextRegions$BitReader", "start", "()V"⟩, 3)]
theorem lw_r2 : ∀ q ∈ lw_privs_2, lw_okq q := List.forall_mem_cons.mpr ⟨lw_p16, List.forall_mem_cons.mpr ⟨lw_p17, List.forall_mem_cons.mpr ⟨lw_p18, List.forall_mem_cons.mpr ⟨lw_p19, List.forall_mem_cons.mpr ⟨lw_p20, List.forall_mem_cons.mpr ⟨lw_p21, List.forall_mem_cons.mpr ⟨lw_p22, List.forall_mem_cons.mpr ⟨lw_p23, List.forall_mem_cons.mpr ⟨lw_p24, List.forall_mem_cons.mpr ⟨lw_p25, List.forall_mem_cons.mpr ⟨lw_p26, List.forall_mem_cons.mpr ⟨lw_p27, List.forall_mem_cons.mpr ⟨lw_p28, List.forall_mem_cons.mpr ⟨lw_p29, List.forall_mem_cons.mpr ⟨lw_p30, List.forall_mem_cons.mpr ⟨lw_p31, fun _ h => absurd h List.not_mem_nil⟩⟩⟩⟩⟩⟩⟩⟩⟩⟩⟩⟩⟩⟩⟩⟩
theorem lw_p32 : lw_okq (⟨"TextRegions$Layout", "empty", "()V"⟩, 8) := ⟨⟨by decide +kernel, by decide +kernel⟩, List.mem_of_getElem? (i := 204) (by decide +kernel), List.mem_of_getElem? (i := 507) (by decide +kernel), List.mem_of_getElem? (i := 508) (by decide +kernel)⟩
theorem lw_p33 : lw_okq (⟨"TextRegions$BitReader", "nextNumber", "()I"⟩, 3) := ⟨⟨by decide +kernel, by decide +kernel⟩, List.mem_of_getElem? (i := 175) (by decide +kernel), List.mem_of_getElem? (i := 511) (by decide +kernel), List.mem_of_getElem? (i := 512) (by decide +kernel)⟩
theorem lw_p34 : lw_okq (⟨"TextRegions$BitReader", "nextBit", "()I"⟩, 3) := ⟨⟨by decide +kernel, by decide +kernel⟩, List.mem_of_getElem? (i := 175) (by decide +kernel), List.mem_of_getElem? (i := 515) (by decide +kernel), List.mem_of_getElem? (i := 516) (by decide +kernel)⟩
theorem lw_p35 : lw_okq (⟨"TextRegions$BitReader", "refuse", "(I)V"⟩, 3) := ⟨⟨by decide +kernel, by decide +kernel⟩, List.mem_of_getElem? (i := 175) (by decide +kernel), List.mem_of_getElem? (i := 519) (by decide +kernel), List.mem_of_getElem? (i := 520) (by decide +kernel)⟩
theorem lw_p36 : lw_okq (⟨"TextRegions$BitReader", "nextBits", "(I)I"⟩, 3) := ⟨⟨by decide +kernel, by decide +kernel⟩, List.mem_of_getElem? (i := 175) (by decide +kernel), List.mem_of_getElem? (i := 526) (by decide +kernel), List.mem_of_getElem? (i := 527) (by decide +kernel)⟩
theorem lw_p37 : lw_okq (⟨"TextRegions$CodeNames", "areAllowed", "(I)Z"⟩, 5) := ⟨⟨by decide +kernel, by decide +kernel⟩, List.mem_of_getElem? (i := 108) (by decide +kernel), List.mem_of_getElem? (i := 542) (by decide +kernel), List.mem_of_getElem? (i := 543) (by decide +kernel)⟩
theorem lw_p38 : lw_okq (⟨"TextRegions$Reader", "readInstances", "(LTextRegions$Layout;I)V"⟩, 2) := ⟨⟨by decide +kernel, by decide +kernel⟩, List.mem_of_getElem? (i := 173) (by decide +kernel), List.mem_of_getElem? (i := 553) (by decide +kernel), List.mem_of_getElem? (i := 554) (by decide +kernel)⟩
theorem lw_p39 : lw_okq (⟨"TextRegions$BitReader", "isRefused", "()Z"⟩, 3) := ⟨⟨by decide +kernel, by decide +kernel⟩, List.mem_of_getElem? (i := 175) (by decide +kernel), List.mem_of_getElem? (i := 557) (by decide +kernel), List.mem_of_getElem? (i := 558) (by decide +kernel)⟩
theorem lw_p40 : lw_okq (⟨"TextRegions$BitReader", "nextSigned", "()I"⟩, 3) := ⟨⟨by decide +kernel, by decide +kernel⟩, List.mem_of_getElem? (i := 175) (by decide +kernel), List.mem_of_getElem? (i := 562) (by decide +kernel), List.mem_of_getElem? (i := 563) (by decide +kernel)⟩
theorem lw_p41 : lw_okq (⟨"TextRegions$Reader", "readPlaced", "(LTextRegions$Layout;II)V"⟩, 2) := ⟨⟨by decide +kernel, by decide +kernel⟩, List.mem_of_getElem? (i := 173) (by decide +kernel), List.mem_of_getElem? (i := 567) (by decide +kernel), List.mem_of_getElem? (i := 568) (by decide +kernel)⟩
theorem lw_p42 : lw_okq (⟨"TextRegions$CodeNames", "symbolOf", "(II)I"⟩, 5) := ⟨⟨by decide +kernel, by decide +kernel⟩, List.mem_of_getElem? (i := 108) (by decide +kernel), List.mem_of_getElem? (i := 582) (by decide +kernel), List.mem_of_getElem? (i := 583) (by decide +kernel)⟩
theorem lw_p43 : lw_okq (⟨"TextRegions$Layout", "addByCorner", "(III)Z"⟩, 8) := ⟨⟨by decide +kernel, by decide +kernel⟩, List.mem_of_getElem? (i := 204) (by decide +kernel), List.mem_of_getElem? (i := 594) (by decide +kernel), List.mem_of_getElem? (i := 595) (by decide +kernel)⟩
theorem lw_p44 : lw_okq (⟨"TextRegions$Layout", "add", "(III)I"⟩, 8) := ⟨⟨by decide +kernel, by decide +kernel⟩, List.mem_of_getElem? (i := 204) (by decide +kernel), List.mem_of_getElem? (i := 602) (by decide +kernel), List.mem_of_getElem? (i := 603) (by decide +kernel)⟩
theorem lw_p45 : lw_okq (⟨"TextRegions$Reader", "readDiffers", "(LTextRegions$Layout;)V"⟩, 2) := ⟨⟨by decide +kernel, by decide +kernel⟩, List.mem_of_getElem? (i := 173) (by decide +kernel), List.mem_of_getElem? (i := 606) (by decide +kernel), List.mem_of_getElem? (i := 607) (by decide +kernel)⟩
theorem lw_p46 : lw_okq (⟨"TextRegions$BitReader", "readEnd", "()V"⟩, 3) := ⟨⟨by decide +kernel, by decide +kernel⟩, List.mem_of_getElem? (i := 175) (by decide +kernel), List.mem_of_getElem? (i := 616) (by decide +kernel), List.mem_of_getElem? (i := 617) (by decide +kernel)⟩
theorem lw_p47 : lw_okq (⟨"TextRegions$Reader", "bitsRead", "()I"⟩, 2) := ⟨⟨by decide +kernel, by decide +kernel⟩, List.mem_of_getElem? (i := 173) (by decide +kernel), List.mem_of_getElem? (i := 620) (by decide +kernel), List.mem_of_getElem? (i := 621) (by decide +kernel)⟩
def lw_privs_3 : List (MethodName × Nat) := [(⟨"TextRegions$Layout", "empty", "()V"⟩, 8), (⟨"TextRegions$BitReader", "nextNumber", "()I"⟩, 3), (⟨"TextRegions$BitReader", "nextBit", "()I"⟩, 3), (⟨"TextRegions$BitReader", "refuse", "(I)V"⟩, 3), (⟨"TextRegions$BitReader", "nextBits", "(I)I"⟩, 3), (⟨"TextRegions$CodeNames", "areAllowed", "(I)Z"⟩, 5), (⟨"TextRegions$Reader", "readInstances", "(LTextRegions$Layout;I)V"⟩, 2), (⟨"TextRegions$BitReader", "isRefused", "()Z"⟩, 3), (⟨"TextRegions$BitReader", "nextSigned", "()I"⟩, 3), (⟨"TextRegions$Reader", "readPlaced", "(LTextRegions$Layout;II)V"⟩, 2), (⟨"TextRegions$CodeNames", "symbolOf", "(II)I"⟩, 5), (⟨"TextRegions$Layout", "addByCorner", "(III)Z"⟩, 8), (⟨"TextRegions$Layout", "add", "(III)I"⟩, 8), (⟨"TextRegions$Reader", "readDiffers", "(LTextRegions$Layout;)V"⟩, 2), (⟨"TextRegions$BitReader", "readEnd", "()V"⟩, 3), (⟨"TextRegions$Reader", "bitsRead", "()I"⟩, 2)]
theorem lw_r3 : ∀ q ∈ lw_privs_3, lw_okq q := List.forall_mem_cons.mpr ⟨lw_p32, List.forall_mem_cons.mpr ⟨lw_p33, List.forall_mem_cons.mpr ⟨lw_p34, List.forall_mem_cons.mpr ⟨lw_p35, List.forall_mem_cons.mpr ⟨lw_p36, List.forall_mem_cons.mpr ⟨lw_p37, List.forall_mem_cons.mpr ⟨lw_p38, List.forall_mem_cons.mpr ⟨lw_p39, List.forall_mem_cons.mpr ⟨lw_p40, List.forall_mem_cons.mpr ⟨lw_p41, List.forall_mem_cons.mpr ⟨lw_p42, List.forall_mem_cons.mpr ⟨lw_p43, List.forall_mem_cons.mpr ⟨lw_p44, List.forall_mem_cons.mpr ⟨lw_p45, List.forall_mem_cons.mpr ⟨lw_p46, List.forall_mem_cons.mpr ⟨lw_p47, fun _ h => absurd h List.not_mem_nil⟩⟩⟩⟩⟩⟩⟩⟩⟩⟩⟩⟩⟩⟩⟩⟩
theorem lw_p48 : lw_okq (⟨"java/lang/Throwable", "fillInStackTrace", "(I)Ljava/lang/Throwable;"⟩, 6) := ⟨⟨by decide +kernel, by decide +kernel⟩, List.mem_of_getElem? (i := 683) (by decide +kernel), List.mem_of_getElem? (i := 681) (by decide +kernel), List.mem_of_getElem? (i := 682) (by decide +kernel)⟩
theorem lw_p49 : lw_okq (⟨"TextRegions$Dictionary", "add", "(II)I"⟩, 4) := ⟨⟨by decide +kernel, by decide +kernel⟩, List.mem_of_getElem? (i := 39) (by decide +kernel), List.mem_of_getElem? (i := 729) (by decide +kernel), List.mem_of_getElem? (i := 730) (by decide +kernel)⟩
theorem lw_p50 : lw_okq (⟨"TextRegions$Dictionary", "has", "(I)Z"⟩, 4) := ⟨⟨by decide +kernel, by decide +kernel⟩, List.mem_of_getElem? (i := 39) (by decide +kernel), List.mem_of_getElem? (i := 741) (by decide +kernel), List.mem_of_getElem? (i := 742) (by decide +kernel)⟩
theorem lw_p51 : lw_okq (⟨"TextRegions$Dictionary", "hasSample", "(III)Z"⟩, 4) := ⟨⟨by decide +kernel, by decide +kernel⟩, List.mem_of_getElem? (i := 39) (by decide +kernel), List.mem_of_getElem? (i := 746) (by decide +kernel), List.mem_of_getElem? (i := 747) (by decide +kernel)⟩
theorem lw_p52 : lw_okq (⟨"TextRegions$Layout", "has", "(I)Z"⟩, 8) := ⟨⟨by decide +kernel, by decide +kernel⟩, List.mem_of_getElem? (i := 204) (by decide +kernel), List.mem_of_getElem? (i := 787) (by decide +kernel), List.mem_of_getElem? (i := 788) (by decide +kernel)⟩
theorem lw_p53 : lw_okq (⟨"TextRegions", "changeNeighbours", "()Z"⟩, 10) := ⟨⟨by decide +kernel, by decide +kernel⟩, List.mem_of_getElem? (i := 22) (by decide +kernel), List.mem_of_getElem? (i := 810) (by decide +kernel), List.mem_of_getElem? (i := 811) (by decide +kernel)⟩
theorem lw_p54 : lw_okq (⟨"TextRegions$Layout", "swapWithNext", "(I)V"⟩, 8) := ⟨⟨by decide +kernel, by decide +kernel⟩, List.mem_of_getElem? (i := 204) (by decide +kernel), List.mem_of_getElem? (i := 815) (by decide +kernel), List.mem_of_getElem? (i := 816) (by decide +kernel)⟩
theorem lw_p55 : lw_okq (⟨"TextRegionsModel", "isSample", "(III)Z"⟩, 38) := ⟨⟨by decide +kernel, by decide +kernel⟩, List.mem_of_getElem? (i := 865) (by decide +kernel), List.mem_of_getElem? (i := 1004) (by decide +kernel), List.mem_of_getElem? (i := 1005) (by decide +kernel)⟩
theorem lw_p56 : lw_okq (⟨"TextRegionsModel", "isInstance", "(I)Z"⟩, 38) := ⟨⟨by decide +kernel, by decide +kernel⟩, List.mem_of_getElem? (i := 865) (by decide +kernel), List.mem_of_getElem? (i := 1017) (by decide +kernel), List.mem_of_getElem? (i := 1018) (by decide +kernel)⟩
theorem lw_p57 : lw_okq (⟨"TextRegionsModel", "sort", "()V"⟩, 38) := ⟨⟨by decide +kernel, by decide +kernel⟩, List.mem_of_getElem? (i := 865) (by decide +kernel), List.mem_of_getElem? (i := 1029) (by decide +kernel), List.mem_of_getElem? (i := 1030) (by decide +kernel)⟩
theorem lw_p58 : lw_okq (⟨"TextRegionsModel", "stripOf", "(I)I"⟩, 38) := ⟨⟨by decide +kernel, by decide +kernel⟩, List.mem_of_getElem? (i := 865) (by decide +kernel), List.mem_of_getElem? (i := 1033) (by decide +kernel), List.mem_of_getElem? (i := 1034) (by decide +kernel)⟩
theorem lw_p59 : lw_okq (⟨"TextRegionsModel", "tOf", "(I)I"⟩, 38) := ⟨⟨by decide +kernel, by decide +kernel⟩, List.mem_of_getElem? (i := 865) (by decide +kernel), List.mem_of_getElem? (i := 1037) (by decide +kernel), List.mem_of_getElem? (i := 1038) (by decide +kernel)⟩
theorem lw_p60 : lw_okq (⟨"TextRegionsModel", "columnOf", "(I)I"⟩, 38) := ⟨⟨by decide +kernel, by decide +kernel⟩, List.mem_of_getElem? (i := 865) (by decide +kernel), List.mem_of_getElem? (i := 1041) (by decide +kernel), List.mem_of_getElem? (i := 1042) (by decide +kernel)⟩
theorem lw_p61 : lw_okq (⟨"TextRegionsModel", "rowOf", "(I)I"⟩, 38) := ⟨⟨by decide +kernel, by decide +kernel⟩, List.mem_of_getElem? (i := 865) (by decide +kernel), List.mem_of_getElem? (i := 1045) (by decide +kernel), List.mem_of_getElem? (i := 1046) (by decide +kernel)⟩
theorem lw_p62 : lw_okq (⟨"TextRegionsModel", "lay", "(I)V"⟩, 38) := ⟨⟨by decide +kernel, by decide +kernel⟩, List.mem_of_getElem? (i := 865) (by decide +kernel), List.mem_of_getElem? (i := 1049) (by decide +kernel), List.mem_of_getElem? (i := 1050) (by decide +kernel)⟩
theorem lw_p63 : lw_okq (⟨"TextRegionsModel", "tellAll", "(Z)V"⟩, 38) := ⟨⟨by decide +kernel, by decide +kernel⟩, List.mem_of_getElem? (i := 865) (by decide +kernel), List.mem_of_getElem? (i := 1061) (by decide +kernel), List.mem_of_getElem? (i := 1062) (by decide +kernel)⟩
def lw_privs_4 : List (MethodName × Nat) := [(⟨"java/lang/Throwable", "fillInStackTrace", "(I)Ljava/lang/Throwable;"⟩, 6), (⟨"TextRegions$Dictionary", "add", "(II)I"⟩, 4), (⟨"TextRegions$Dictionary", "has", "(I)Z"⟩, 4), (⟨"TextRegions$Dictionary", "hasSample", "(III)Z"⟩, 4), (⟨"TextRegions$Layout", "has", "(I)Z"⟩, 8), (⟨"TextRegions", "changeNeighbours", "()Z"⟩, 10), (⟨"TextRegions$Layout", "swapWithNext", "(I)V"⟩, 8), (⟨"TextRegionsModel", "isSample", "(III)Z"⟩, 38), (⟨"TextRegionsModel", "isInstance", "(I)Z"⟩, 38), (⟨"TextRegionsModel", "sort", "()V"⟩, 38), (⟨"TextRegionsModel", "stripOf", "(I)I"⟩, 38), (⟨"TextRegionsModel", "tOf", "(I)I"⟩, 38), (⟨"TextRegionsModel", "columnOf", "(I)I"⟩, 38), (⟨"TextRegionsModel", "rowOf", "(I)I"⟩, 38), (⟨"TextRegionsModel", "lay", "(I)V"⟩, 38), (⟨"TextRegionsModel", "tellAll", "(Z)V"⟩, 38)]
theorem lw_r4 : ∀ q ∈ lw_privs_4, lw_okq q := List.forall_mem_cons.mpr ⟨lw_p48, List.forall_mem_cons.mpr ⟨lw_p49, List.forall_mem_cons.mpr ⟨lw_p50, List.forall_mem_cons.mpr ⟨lw_p51, List.forall_mem_cons.mpr ⟨lw_p52, List.forall_mem_cons.mpr ⟨lw_p53, List.forall_mem_cons.mpr ⟨lw_p54, List.forall_mem_cons.mpr ⟨lw_p55, List.forall_mem_cons.mpr ⟨lw_p56, List.forall_mem_cons.mpr ⟨lw_p57, List.forall_mem_cons.mpr ⟨lw_p58, List.forall_mem_cons.mpr ⟨lw_p59, List.forall_mem_cons.mpr ⟨lw_p60, List.forall_mem_cons.mpr ⟨lw_p61, List.forall_mem_cons.mpr ⟨lw_p62, List.forall_mem_cons.mpr ⟨lw_p63, fun _ h => absurd h List.not_mem_nil⟩⟩⟩⟩⟩⟩⟩⟩⟩⟩⟩⟩⟩⟩⟩⟩
theorem lw_p64 : lw_okq (⟨"TextRegionsModel", "number", "(I)V"⟩, 38) := ⟨⟨by decide +kernel, by decide +kernel⟩, List.mem_of_getElem? (i := 865) (by decide +kernel), List.mem_of_getElem? (i := 1065) (by decide +kernel), List.mem_of_getElem? (i := 1066) (by decide +kernel)⟩
theorem lw_p65 : lw_okq (⟨"TextRegionsModel", "low", "(II)V"⟩, 38) := ⟨⟨by decide +kernel, by decide +kernel⟩, List.mem_of_getElem? (i := 865) (by decide +kernel), List.mem_of_getElem? (i := 1069) (by decide +kernel), List.mem_of_getElem? (i := 1070) (by decide +kernel)⟩
theorem lw_p66 : lw_okq (⟨"TextRegionsModel", "bit", "(I)V"⟩, 38) := ⟨⟨by decide +kernel, by decide +kernel⟩, List.mem_of_getElem? (i := 865) (by decide +kernel), List.mem_of_getElem? (i := 1073) (by decide +kernel), List.mem_of_getElem? (i := 1074) (by decide +kernel)⟩
theorem lw_p67 : lw_okq (⟨"TextRegionsModel", "beginRow", "()V"⟩, 38) := ⟨⟨by decide +kernel, by decide +kernel⟩, List.mem_of_getElem? (i := 865) (by decide +kernel), List.mem_of_getElem? (i := 1077) (by decide +kernel), List.mem_of_getElem? (i := 1078) (by decide +kernel)⟩
theorem lw_p68 : lw_okq (⟨"TextRegionsModel", "findLengths", "()V"⟩, 38) := ⟨⟨by decide +kernel, by decide +kernel⟩, List.mem_of_getElem? (i := 865) (by decide +kernel), List.mem_of_getElem? (i := 1081) (by decide +kernel), List.mem_of_getElem? (i := 1082) (by decide +kernel)⟩
theorem lw_p69 : lw_okq (⟨"TextRegionsModel", "leastNode", "(I)I"⟩, 38) := ⟨⟨by decide +kernel, by decide +kernel⟩, List.mem_of_getElem? (i := 865) (by decide +kernel), List.mem_of_getElem? (i := 1085) (by decide +kernel), List.mem_of_getElem? (i := 1086) (by decide +kernel)⟩
theorem lw_p70 : lw_okq (⟨"TextRegionsModel", "findCodes", "()V"⟩, 38) := ⟨⟨by decide +kernel, by decide +kernel⟩, List.mem_of_getElem? (i := 865) (by decide +kernel), List.mem_of_getElem? (i := 1089) (by decide +kernel), List.mem_of_getElem? (i := 1090) (by decide +kernel)⟩
theorem lw_p71 : lw_okq (⟨"TextRegionsModel", "sOf", "(I)I"⟩, 38) := ⟨⟨by decide +kernel, by decide +kernel⟩, List.mem_of_getElem? (i := 865) (by decide +kernel), List.mem_of_getElem? (i := 1093) (by decide +kernel), List.mem_of_getElem? (i := 1094) (by decide +kernel)⟩
theorem lw_p72 : lw_okq (⟨"TextRegionsModel", "signed", "(I)V"⟩, 38) := ⟨⟨by decide +kernel, by decide +kernel⟩, List.mem_of_getElem? (i := 865) (by decide +kernel), List.mem_of_getElem? (i := 1097) (by decide +kernel), List.mem_of_getElem? (i := 1098) (by decide +kernel)⟩
theorem lw_p73 : lw_okq (⟨"TextRegionsModel", "name", "(I)V"⟩, 38) := ⟨⟨by decide +kernel, by decide +kernel⟩, List.mem_of_getElem? (i := 865) (by decide +kernel), List.mem_of_getElem? (i := 1101) (by decide +kernel), List.mem_of_getElem? (i := 1102) (by decide +kernel)⟩
theorem lw_p74 : lw_okq (⟨"TextRegionsModel", "toFront", "(I)V"⟩, 38) := ⟨⟨by decide +kernel, by decide +kernel⟩, List.mem_of_getElem? (i := 865) (by decide +kernel), List.mem_of_getElem? (i := 1105) (by decide +kernel), List.mem_of_getElem? (i := 1106) (by decide +kernel)⟩
theorem lw_p75 : lw_okq (⟨"TextRegionsModel", "runs", "(I)V"⟩, 38) := ⟨⟨by decide +kernel, by decide +kernel⟩, List.mem_of_getElem? (i := 865) (by decide +kernel), List.mem_of_getElem? (i := 1109) (by decide +kernel), List.mem_of_getElem? (i := 1110) (by decide +kernel)⟩
theorem lw_p76 : lw_okq (⟨"TextRegionsModel", "change", "(II)V"⟩, 38) := ⟨⟨by decide +kernel, by decide +kernel⟩, List.mem_of_getElem? (i := 865) (by decide +kernel), List.mem_of_getElem? (i := 1113) (by decide +kernel), List.mem_of_getElem? (i := 1114) (by decide +kernel)⟩
theorem lw_p77 : lw_okq (⟨"TextRegionsModel", "readAll", "()V"⟩, 38) := ⟨⟨by decide +kernel, by decide +kernel⟩, List.mem_of_getElem? (i := 865) (by decide +kernel), List.mem_of_getElem? (i := 1137) (by decide +kernel), List.mem_of_getElem? (i := 1138) (by decide +kernel)⟩
theorem lw_p78 : lw_okq (⟨"TextRegionsModel", "nextNumber", "()I"⟩, 38) := ⟨⟨by decide +kernel, by decide +kernel⟩, List.mem_of_getElem? (i := 865) (by decide +kernel), List.mem_of_getElem? (i := 1141) (by decide +kernel), List.mem_of_getElem? (i := 1142) (by decide +kernel)⟩
theorem lw_p79 : lw_okq (⟨"TextRegionsModel", "next", "()I"⟩, 38) := ⟨⟨by decide +kernel, by decide +kernel⟩, List.mem_of_getElem? (i := 865) (by decide +kernel), List.mem_of_getElem? (i := 1145) (by decide +kernel), List.mem_of_getElem? (i := 1146) (by decide +kernel)⟩
def lw_privs_5 : List (MethodName × Nat) := [(⟨"TextRegionsModel", "number", "(I)V"⟩, 38), (⟨"TextRegionsModel", "low", "(II)V"⟩, 38), (⟨"TextRegionsModel", "bit", "(I)V"⟩, 38), (⟨"TextRegionsModel", "beginRow", "()V"⟩, 38), (⟨"TextRegionsModel", "findLengths", "()V"⟩, 38), (⟨"TextRegionsModel", "leastNode", "(I)I"⟩, 38), (⟨"TextRegionsModel", "findCodes", "()V"⟩, 38), (⟨"TextRegionsModel", "sOf", "(I)I"⟩, 38), (⟨"TextRegionsModel", "signed", "(I)V"⟩, 38), (⟨"TextRegionsModel", "name", "(I)V"⟩, 38), (⟨"TextRegionsModel", "toFront", "(I)V"⟩, 38), (⟨"TextRegionsModel", "runs", "(I)V"⟩, 38), (⟨"TextRegionsModel", "change", "(II)V"⟩, 38), (⟨"TextRegionsModel", "readAll", "()V"⟩, 38), (⟨"TextRegionsModel", "nextNumber", "()I"⟩, 38), (⟨"TextRegionsModel", "next", "()I"⟩, 38)]
theorem lw_r5 : ∀ q ∈ lw_privs_5, lw_okq q := List.forall_mem_cons.mpr ⟨lw_p64, List.forall_mem_cons.mpr ⟨lw_p65, List.forall_mem_cons.mpr ⟨lw_p66, List.forall_mem_cons.mpr ⟨lw_p67, List.forall_mem_cons.mpr ⟨lw_p68, List.forall_mem_cons.mpr ⟨lw_p69, List.forall_mem_cons.mpr ⟨lw_p70, List.forall_mem_cons.mpr ⟨lw_p71, List.forall_mem_cons.mpr ⟨lw_p72, List.forall_mem_cons.mpr ⟨lw_p73, List.forall_mem_cons.mpr ⟨lw_p74, List.forall_mem_cons.mpr ⟨lw_p75, List.forall_mem_cons.mpr ⟨lw_p76, List.forall_mem_cons.mpr ⟨lw_p77, List.forall_mem_cons.mpr ⟨lw_p78, List.forall_mem_cons.mpr ⟨lw_p79, fun _ h => absurd h List.not_mem_nil⟩⟩⟩⟩⟩⟩⟩⟩⟩⟩⟩⟩⟩⟩⟩⟩
theorem lw_p80 : lw_okq (⟨"TextRegionsModel", "refuse", "(I)V"⟩, 38) := ⟨⟨by decide +kernel, by decide +kernel⟩, List.mem_of_getElem? (i := 865) (by decide +kernel), List.mem_of_getElem? (i := 1149) (by decide +kernel), List.mem_of_getElem? (i := 1150) (by decide +kernel)⟩
theorem lw_p81 : lw_okq (⟨"TextRegionsModel", "nextLow", "(I)I"⟩, 38) := ⟨⟨by decide +kernel, by decide +kernel⟩, List.mem_of_getElem? (i := 865) (by decide +kernel), List.mem_of_getElem? (i := 1153) (by decide +kernel), List.mem_of_getElem? (i := 1154) (by decide +kernel)⟩
theorem lw_p82 : lw_okq (⟨"TextRegionsModel", "readCodes", "(I)V"⟩, 38) := ⟨⟨by decide +kernel, by decide +kernel⟩, List.mem_of_getElem? (i := 865) (by decide +kernel), List.mem_of_getElem? (i := 1157) (by decide +kernel), List.mem_of_getElem? (i := 1158) (by decide +kernel)⟩
theorem lw_p83 : lw_okq (⟨"TextRegionsModel", "nextSigned", "()I"⟩, 38) := ⟨⟨by decide +kernel, by decide +kernel⟩, List.mem_of_getElem? (i := 865) (by decide +kernel), List.mem_of_getElem? (i := 1162) (by decide +kernel), List.mem_of_getElem? (i := 1163) (by decide +kernel)⟩
theorem lw_p84 : lw_okq (⟨"TextRegionsModel", "readInstance", "(II)V"⟩, 38) := ⟨⟨by decide +kernel, by decide +kernel⟩, List.mem_of_getElem? (i := 865) (by decide +kernel), List.mem_of_getElem? (i := 1166) (by decide +kernel), List.mem_of_getElem? (i := 1167) (by decide +kernel)⟩
theorem lw_p85 : lw_okq (⟨"TextRegionsModel", "nextName", "()I"⟩, 38) := ⟨⟨by decide +kernel, by decide +kernel⟩, List.mem_of_getElem? (i := 865) (by decide +kernel), List.mem_of_getElem? (i := 1170) (by decide +kernel), List.mem_of_getElem? (i := 1171) (by decide +kernel)⟩
theorem lw_p86 : lw_okq (⟨"TextRegionsModel", "nextRuns", "(I)J"⟩, 38) := ⟨⟨by decide +kernel, by decide +kernel⟩, List.mem_of_getElem? (i := 865) (by decide +kernel), List.mem_of_getElem? (i := 1174) (by decide +kernel), List.mem_of_getElem? (i := 1175) (by decide +kernel)⟩
def lw_privs_6 : List (MethodName × Nat) := [(⟨"TextRegionsModel", "refuse", "(I)V"⟩, 38), (⟨"TextRegionsModel", "nextLow", "(I)I"⟩, 38), (⟨"TextRegionsModel", "readCodes", "(I)V"⟩, 38), (⟨"TextRegionsModel", "nextSigned", "()I"⟩, 38), (⟨"TextRegionsModel", "readInstance", "(II)V"⟩, 38), (⟨"TextRegionsModel", "nextName", "()I"⟩, 38), (⟨"TextRegionsModel", "nextRuns", "(I)J"⟩, 38)]
theorem lw_r6 : ∀ q ∈ lw_privs_6, lw_okq q := List.forall_mem_cons.mpr ⟨lw_p80, List.forall_mem_cons.mpr ⟨lw_p81, List.forall_mem_cons.mpr ⟨lw_p82, List.forall_mem_cons.mpr ⟨lw_p83, List.forall_mem_cons.mpr ⟨lw_p84, List.forall_mem_cons.mpr ⟨lw_p85, List.forall_mem_cons.mpr ⟨lw_p86, fun _ h => absurd h List.not_mem_nil⟩⟩⟩⟩⟩⟩⟩
def lw_privs : List (MethodName × Nat) := lw_privs_1 ++ (lw_privs_2 ++ (lw_privs_3 ++ (lw_privs_4 ++ (lw_privs_5 ++ (lw_privs_6)))))
def lw_tbl : List Cond := k2_sels lw_privs ++ tables_1
theorem lw_privs_ok : ∀ q ∈ lw_privs, lw_okq q := by
  show ∀ q ∈ lw_privs_1 ++ (lw_privs_2 ++ (lw_privs_3 ++ (lw_privs_4 ++ (lw_privs_5 ++ (lw_privs_6))))), lw_okq q
  exact List.forall_mem_append.mpr ⟨lw_r1, List.forall_mem_append.mpr ⟨lw_r2, List.forall_mem_append.mpr ⟨lw_r3, List.forall_mem_append.mpr ⟨lw_r4, List.forall_mem_append.mpr ⟨lw_r5, lw_r6⟩⟩⟩⟩⟩

/-! the good words of all: every method here takes them all -/
def BIG : List Cond := lw_tbl.filter goodWord
theorem inT {w : Cond} (k : Nat) (h : (decide (tables_1[k]? = some w) && goodWord w) = true) : w ∈ BIG := by
  rw [Bool.and_eq_true] at h
  exact List.mem_filter.mpr ⟨List.mem_append_right _ (List.mem_of_getElem? (of_decide_eq_true h.1)), h.2⟩
theorem inS {w : Cond} (k : Nat) (h : (decide ((k2_sels lw_privs)[k]? = some w) && goodWord w) = true) : w ∈ BIG := by
  rw [Bool.and_eq_true] at h
  exact List.mem_filter.mpr ⟨List.mem_append_left _ (List.mem_of_getElem? (of_decide_eq_true h.1)), h.2⟩
theorem big_good : ∀ w ∈ BIG, goodWord w = true := fun w h => (List.mem_filter.mp h).2
theorem big_lw : ∀ w ∈ BIG, w ∈ lw_tbl := fun w h => (List.mem_filter.mp h).1
theorem goodB {c9 : Cond} (h : c9 ∈ BIG) : GoodIn BIG (c9 :: BIG) := by
  intro w hw
  rcases List.mem_cons.mp hw with rfl | hw
  · exact ⟨h, good_of_word (big_good _ h)⟩
  · exact ⟨hw, good_of_word (big_good _ hw)⟩
theorem goodA {a b : List Cond} (ha : ∀ w ∈ a, w ∈ BIG) (hb : GoodIn BIG b) : GoodIn BIG (a ++ b) := by
  intro w hw
  rcases List.mem_append.mp hw with hw | hw
  · exact ⟨ha w hw, good_of_word (big_good _ (ha w hw))⟩
  · exact hb w hw
theorem m4 {a b c d : Cond} (ha : a ∈ BIG) (hb : b ∈ BIG) (hc : c ∈ BIG) (hd : d ∈ BIG) : ∀ w ∈ [a, b, c, d], w ∈ BIG := by
  intro w hw
  simp only [List.mem_cons, List.not_mem_nil, or_false] at hw
  rcases hw with rfl | rfl | rfl | rfl <;> assumption
theorem m3 {a b c : Cond} (ha : a ∈ BIG) (hb : b ∈ BIG) (hc : c ∈ BIG) : ∀ w ∈ [a, b, c], w ∈ BIG := by
  intro w hw
  simp only [List.mem_cons, List.not_mem_nil, or_false] at hw
  rcases hw with rfl | rfl | rfl <;> assumption
theorem bw_0 : (Jvm.Cond.initialized "TextRegionsLaw") ∈ BIG := inT 0 (by decide +kernel)
theorem bw_1 : (Jvm.Cond.initialized "TextRegions") ∈ BIG := inT 1 (by decide +kernel)
theorem bw_2 : (Jvm.Cond.initialized "java/lang/Math") ∈ BIG := inT 2 (by decide +kernel)
theorem bw_3 : (Jvm.Cond.initialized "TextRegions$Dictionary") ∈ BIG := inT 3 (by decide +kernel)
theorem bw_4 : (Jvm.Cond.initialized "TextRegions$Page") ∈ BIG := inT 4 (by decide +kernel)
theorem bw_5 : (Jvm.Cond.initialized "TextRegions$ByteRow") ∈ BIG := inT 5 (by decide +kernel)
theorem bw_6 : (Jvm.Cond.initialized "TextRegions$CodeNames") ∈ BIG := inT 6 (by decide +kernel)
theorem bw_7 : (Jvm.Cond.initialized "TextRegions$FrontNames") ∈ BIG := inT 7 (by decide +kernel)
theorem bw_8 : (Jvm.Cond.initialized "TextRegions$Teller") ∈ BIG := inT 8 (by decide +kernel)
theorem bw_9 : (Jvm.Cond.initialized "TextRegions$BitWriter") ∈ BIG := inT 9 (by decide +kernel)
theorem bw_10 : (Jvm.Cond.initialized "TextRegions$Reader") ∈ BIG := inT 10 (by decide +kernel)
theorem bw_11 : (Jvm.Cond.initialized "TextRegions$BitReader") ∈ BIG := inT 11 (by decide +kernel)
theorem bw_12 : (Jvm.Cond.initialized "TextRegions$Layout") ∈ BIG := inT 12 (by decide +kernel)
theorem bw_13 : (Jvm.Cond.initialized "TextRegionsModel") ∈ BIG := inT 13 (by decide +kernel)
theorem bw_14 : (Jvm.Cond.initialized "java/lang/Throwable") ∈ BIG := inT 14 (by decide +kernel)
theorem bw_15 : (Jvm.Cond.initialized "java/lang/Exception") ∈ BIG := inT 15 (by decide +kernel)
theorem bw_16 : (Jvm.Cond.initialized "java/lang/RuntimeException") ∈ BIG := inT 16 (by decide +kernel)
theorem bw_17 : (Jvm.Cond.initialized "java/lang/IllegalArgumentException") ∈ BIG := inT 17 (by decide +kernel)
theorem bw_18 : (Jvm.Cond.initialized "java/lang/UnsupportedOperationException") ∈ BIG := inT 18 (by decide +kernel)
theorem bw_19 : (Jvm.Cond.initialized "java/lang/IndexOutOfBoundsException") ∈ BIG := inT 19 (by decide +kernel)
theorem bw_20 : (Jvm.Cond.initialized "java/lang/Long") ∈ BIG := inT 20 (by decide +kernel)
theorem bw_21 : (Jvm.Cond.classLink "TextRegionsLaw" (8 : Nat) "TextRegions") ∈ BIG := inT 21 (by decide +kernel)
theorem bw_22 : (Jvm.Cond.instantiable "TextRegions" (10 : Nat)) ∈ BIG := inT 22 (by decide +kernel)
theorem bw_23 : (Jvm.Cond.methodLink "TextRegionsLaw" (60 : Nat) ({ cls := "TextRegions", name := "<init>", desc := "(III)V" } : Jvm.MethodName)) ∈ BIG := inT 23 (by decide +kernel)
theorem bw_24 : (Jvm.Cond.instanceMethod ({ cls := "TextRegions", name := "<init>", desc := "(III)V" } : Jvm.MethodName)) ∈ BIG := inT 24 (by decide +kernel)
theorem bw_25 : (Jvm.Cond.code ({ cls := "TextRegions", name := "<init>", desc := "(III)V" } : Jvm.MethodName) prog_1_method_1_code (5 : Nat) (Option.none : Option Jvm.ClassFile.FieldType)) ∈ BIG := inT 25 (by decide +kernel)
theorem bw_26 : (Jvm.Cond.methodLink "TextRegions" (1 : Nat) ({ cls := "java/lang/Object", name := "<init>", desc := "()V" } : Jvm.MethodName)) ∈ BIG := inT 26 (by decide +kernel)
theorem bw_27 : (Jvm.Cond.instanceMethod ({ cls := "java/lang/Object", name := "<init>", desc := "()V" } : Jvm.MethodName)) ∈ BIG := inT 27 (by decide +kernel)
theorem bw_28 : (Jvm.Cond.code ({ cls := "java/lang/Object", name := "<init>", desc := "()V" } : Jvm.MethodName) object_method_1_code (1 : Nat) (Option.none : Option Jvm.ClassFile.FieldType)) ∈ BIG := inT 28 (by decide +kernel)
theorem bw_29 : (Jvm.Cond.methodLink "TextRegions" (9 : Nat) ({ cls := "TextRegions", name := "nearest", desc := "(III)I" } : Jvm.MethodName)) ∈ BIG := inT 29 (by decide +kernel)
theorem bw_30 : (Jvm.Cond.static ({ cls := "TextRegions", name := "nearest", desc := "(III)I" } : Jvm.MethodName)) ∈ BIG := inT 30 (by decide +kernel)
theorem bw_31 : (Jvm.Cond.code ({ cls := "TextRegions", name := "nearest", desc := "(III)I" } : Jvm.MethodName) prog_1_method_19_code (3 : Nat) (Option.some Jvm.ClassFile.FieldType.int)) ∈ BIG := inT 31 (by decide +kernel)
theorem bw_32 : (Jvm.Cond.methodLink "TextRegions" (265 : Nat) ({ cls := "java/lang/Math", name := "min", desc := "(II)I" } : Jvm.MethodName)) ∈ BIG := inT 32 (by decide +kernel)
theorem bw_33 : (Jvm.Cond.static ({ cls := "java/lang/Math", name := "min", desc := "(II)I" } : Jvm.MethodName)) ∈ BIG := inT 33 (by decide +kernel)
theorem bw_34 : (Jvm.Cond.code ({ cls := "java/lang/Math", name := "min", desc := "(II)I" } : Jvm.MethodName) prog_19_method_69_code (2 : Nat) (Option.some Jvm.ClassFile.FieldType.int)) ∈ BIG := inT 34 (by decide +kernel)
theorem bw_35 : (Jvm.Cond.methodLink "TextRegions" (270 : Nat) ({ cls := "java/lang/Math", name := "max", desc := "(II)I" } : Jvm.MethodName)) ∈ BIG := inT 35 (by decide +kernel)
theorem bw_36 : (Jvm.Cond.static ({ cls := "java/lang/Math", name := "max", desc := "(II)I" } : Jvm.MethodName)) ∈ BIG := inT 36 (by decide +kernel)
theorem bw_37 : (Jvm.Cond.code ({ cls := "java/lang/Math", name := "max", desc := "(II)I" } : Jvm.MethodName) prog_19_method_65_code (2 : Nat) (Option.some Jvm.ClassFile.FieldType.int)) ∈ BIG := inT 37 (by decide +kernel)
theorem bw_38 : (Jvm.Cond.classLink "TextRegions" (17 : Nat) "TextRegions$Dictionary") ∈ BIG := inT 38 (by decide +kernel)
theorem bw_39 : (Jvm.Cond.instantiable "TextRegions$Dictionary" (4 : Nat)) ∈ BIG := inT 39 (by decide +kernel)
theorem bw_41 : (Jvm.Cond.instanceMethod ({ cls := "TextRegions$Dictionary", name := "<init>", desc := "()V" } : Jvm.MethodName)) ∈ BIG := inT 41 (by decide +kernel)
theorem bw_42 : (Jvm.Cond.code ({ cls := "TextRegions$Dictionary", name := "<init>", desc := "()V" } : Jvm.MethodName) prog_6_method_1_code (1 : Nat) (Option.none : Option Jvm.ClassFile.FieldType)) ∈ BIG := inT 42 (by decide +kernel)
theorem bw_43 : (Jvm.Cond.methodLink "TextRegions$Dictionary" (3 : Nat) ({ cls := "java/lang/Object", name := "<init>", desc := "()V" } : Jvm.MethodName)) ∈ BIG := inT 43 (by decide +kernel)
theorem bw_44 : (Jvm.Cond.fieldLink "TextRegions$Dictionary" (9 : Nat) "TextRegions$Dictionary" "widths" "[I") ∈ BIG := inT 44 (by decide +kernel)
theorem bw_47 : (Jvm.Cond.fieldLink "TextRegions$Dictionary" (15 : Nat) "TextRegions$Dictionary" "heights" "[I") ∈ BIG := inT 47 (by decide +kernel)
theorem bw_50 : (Jvm.Cond.fieldLink "TextRegions$Dictionary" (18 : Nat) "TextRegions$Dictionary" "samples" "[J") ∈ BIG := inT 50 (by decide +kernel)
theorem bw_53 : (Jvm.Cond.fieldLink "TextRegions$Dictionary" (22 : Nat) "TextRegions$Dictionary" "count" "I") ∈ BIG := inT 53 (by decide +kernel)
theorem bw_57 : (Jvm.Cond.laysFinal "TextRegions$Dictionary" "TextRegions$Dictionary" "widths" "[I") ∈ BIG := inT 57 (by decide +kernel)
theorem bw_59 : (Jvm.Cond.laysFinal "TextRegions$Dictionary" "TextRegions$Dictionary" "heights" "[I") ∈ BIG := inT 59 (by decide +kernel)
theorem bw_61 : (Jvm.Cond.laysFinal "TextRegions$Dictionary" "TextRegions$Dictionary" "samples" "[J") ∈ BIG := inT 61 (by decide +kernel)
theorem bw_63 : (Jvm.Cond.lays "TextRegions$Dictionary" "TextRegions$Dictionary" "count" "I") ∈ BIG := inT 63 (by decide +kernel)
theorem bw_66 : (Jvm.Cond.arrayClass Jvm.ClassFile.FieldType.int) ∈ BIG := inT 66 (by decide +kernel)
theorem bw_67 : (Jvm.Cond.arrayClass Jvm.ClassFile.FieldType.long) ∈ BIG := inT 67 (by decide +kernel)
theorem bw_68 : (Jvm.Cond.classLink "TextRegions" (24 : Nat) "TextRegions$Page") ∈ BIG := inT 68 (by decide +kernel)
theorem bw_69 : (Jvm.Cond.instantiable "TextRegions$Page" (3 : Nat)) ∈ BIG := inT 69 (by decide +kernel)
theorem bw_71 : (Jvm.Cond.instanceMethod ({ cls := "TextRegions$Page", name := "<init>", desc := "(II)V" } : Jvm.MethodName)) ∈ BIG := inT 71 (by decide +kernel)
theorem bw_72 : (Jvm.Cond.code ({ cls := "TextRegions$Page", name := "<init>", desc := "(II)V" } : Jvm.MethodName) prog_10_method_1_code (3 : Nat) (Option.none : Option Jvm.ClassFile.FieldType)) ∈ BIG := inT 72 (by decide +kernel)
theorem bw_73 : (Jvm.Cond.methodLink "TextRegions$Page" (3 : Nat) ({ cls := "java/lang/Object", name := "<init>", desc := "()V" } : Jvm.MethodName)) ∈ BIG := inT 73 (by decide +kernel)
theorem bw_74 : (Jvm.Cond.fieldLink "TextRegions$Page" (9 : Nat) "TextRegions$Page" "width" "I") ∈ BIG := inT 74 (by decide +kernel)
theorem bw_76 : (Jvm.Cond.fieldLink "TextRegions$Page" (15 : Nat) "TextRegions$Page" "height" "I") ∈ BIG := inT 76 (by decide +kernel)
theorem bw_78 : (Jvm.Cond.fieldLink "TextRegions$Page" (18 : Nat) "TextRegions$Page" "dark" "[Z") ∈ BIG := inT 78 (by decide +kernel)
theorem bw_80 : (Jvm.Cond.laysFinal "TextRegions$Page" "TextRegions$Page" "width" "I") ∈ BIG := inT 80 (by decide +kernel)
theorem bw_82 : (Jvm.Cond.laysFinal "TextRegions$Page" "TextRegions$Page" "height" "I") ∈ BIG := inT 82 (by decide +kernel)
theorem bw_84 : (Jvm.Cond.laysFinal "TextRegions$Page" "TextRegions$Page" "dark" "[Z") ∈ BIG := inT 84 (by decide +kernel)
theorem bw_87 : (Jvm.Cond.arrayClass Jvm.ClassFile.FieldType.boolean) ∈ BIG := inT 87 (by decide +kernel)
theorem bw_88 : (Jvm.Cond.classLink "TextRegions" (33 : Nat) "TextRegions$ByteRow") ∈ BIG := inT 88 (by decide +kernel)
theorem bw_89 : (Jvm.Cond.instantiable "TextRegions$ByteRow" (2 : Nat)) ∈ BIG := inT 89 (by decide +kernel)
theorem bw_91 : (Jvm.Cond.instanceMethod ({ cls := "TextRegions$ByteRow", name := "<init>", desc := "()V" } : Jvm.MethodName)) ∈ BIG := inT 91 (by decide +kernel)
theorem bw_92 : (Jvm.Cond.code ({ cls := "TextRegions$ByteRow", name := "<init>", desc := "()V" } : Jvm.MethodName) prog_4_method_1_code (1 : Nat) (Option.none : Option Jvm.ClassFile.FieldType)) ∈ BIG := inT 92 (by decide +kernel)
theorem bw_93 : (Jvm.Cond.methodLink "TextRegions$ByteRow" (3 : Nat) ({ cls := "java/lang/Object", name := "<init>", desc := "()V" } : Jvm.MethodName)) ∈ BIG := inT 93 (by decide +kernel)
theorem bw_94 : (Jvm.Cond.fieldLink "TextRegions$ByteRow" (9 : Nat) "TextRegions$ByteRow" "bytes" "[I") ∈ BIG := inT 94 (by decide +kernel)
theorem bw_98 : (Jvm.Cond.fieldLink "TextRegions$ByteRow" (15 : Nat) "TextRegions$ByteRow" "count" "I") ∈ BIG := inT 98 (by decide +kernel)
theorem bw_102 : (Jvm.Cond.laysFinal "TextRegions$ByteRow" "TextRegions$ByteRow" "bytes" "[I") ∈ BIG := inT 102 (by decide +kernel)
theorem bw_104 : (Jvm.Cond.lays "TextRegions$ByteRow" "TextRegions$ByteRow" "count" "I") ∈ BIG := inT 104 (by decide +kernel)
theorem bw_107 : (Jvm.Cond.classLink "TextRegions" (43 : Nat) "TextRegions$CodeNames") ∈ BIG := inT 107 (by decide +kernel)
theorem bw_108 : (Jvm.Cond.instantiable "TextRegions$CodeNames" (5 : Nat)) ∈ BIG := inT 108 (by decide +kernel)
theorem bw_110 : (Jvm.Cond.instanceMethod ({ cls := "TextRegions$CodeNames", name := "<init>", desc := "(LTextRegions$Dictionary;)V" } : Jvm.MethodName)) ∈ BIG := inT 110 (by decide +kernel)
theorem bw_111 : (Jvm.Cond.code ({ cls := "TextRegions$CodeNames", name := "<init>", desc := "(LTextRegions$Dictionary;)V" } : Jvm.MethodName) prog_5_method_1_code (2 : Nat) (Option.none : Option Jvm.ClassFile.FieldType)) ∈ BIG := inT 111 (by decide +kernel)
theorem bw_112 : (Jvm.Cond.methodLink "TextRegions$CodeNames" (3 : Nat) ({ cls := "java/lang/Object", name := "<init>", desc := "()V" } : Jvm.MethodName)) ∈ BIG := inT 112 (by decide +kernel)
theorem bw_113 : (Jvm.Cond.fieldLink "TextRegions$CodeNames" (24 : Nat) "TextRegions$CodeNames" "symbols" "LTextRegions$Dictionary;") ∈ BIG := inT 113 (by decide +kernel)
theorem bw_114 : (Jvm.Cond.fieldLink "TextRegions$CodeNames" (9 : Nat) "TextRegions$CodeNames" "lengths" "[I") ∈ BIG := inT 114 (by decide +kernel)
theorem bw_115 : (Jvm.Cond.fieldLink "TextRegions$CodeNames" (15 : Nat) "TextRegions$CodeNames" "codes" "[I") ∈ BIG := inT 115 (by decide +kernel)
theorem bw_116 : (Jvm.Cond.fieldLink "TextRegions$CodeNames" (18 : Nat) "TextRegions$CodeNames" "weights" "[I") ∈ BIG := inT 116 (by decide +kernel)
theorem bw_117 : (Jvm.Cond.fieldLink "TextRegions$CodeNames" (21 : Nat) "TextRegions$CodeNames" "joinedTo" "[I") ∈ BIG := inT 117 (by decide +kernel)
theorem bw_118 : (Jvm.Cond.laysFinal "TextRegions$CodeNames" "TextRegions$CodeNames" "symbols" "LTextRegions$Dictionary;") ∈ BIG := inT 118 (by decide +kernel)
theorem bw_120 : (Jvm.Cond.laysFinal "TextRegions$CodeNames" "TextRegions$CodeNames" "lengths" "[I") ∈ BIG := inT 120 (by decide +kernel)
theorem bw_122 : (Jvm.Cond.laysFinal "TextRegions$CodeNames" "TextRegions$CodeNames" "codes" "[I") ∈ BIG := inT 122 (by decide +kernel)
theorem bw_124 : (Jvm.Cond.laysFinal "TextRegions$CodeNames" "TextRegions$CodeNames" "weights" "[I") ∈ BIG := inT 124 (by decide +kernel)
theorem bw_126 : (Jvm.Cond.laysFinal "TextRegions$CodeNames" "TextRegions$CodeNames" "joinedTo" "[I") ∈ BIG := inT 126 (by decide +kernel)
theorem bw_129 : (Jvm.Cond.classLink "TextRegions" (48 : Nat) "TextRegions$FrontNames") ∈ BIG := inT 129 (by decide +kernel)
theorem bw_130 : (Jvm.Cond.instantiable "TextRegions$FrontNames" (2 : Nat)) ∈ BIG := inT 130 (by decide +kernel)
theorem bw_132 : (Jvm.Cond.instanceMethod ({ cls := "TextRegions$FrontNames", name := "<init>", desc := "(LTextRegions$Dictionary;)V" } : Jvm.MethodName)) ∈ BIG := inT 132 (by decide +kernel)
theorem bw_133 : (Jvm.Cond.code ({ cls := "TextRegions$FrontNames", name := "<init>", desc := "(LTextRegions$Dictionary;)V" } : Jvm.MethodName) prog_7_method_1_code (2 : Nat) (Option.none : Option Jvm.ClassFile.FieldType)) ∈ BIG := inT 133 (by decide +kernel)
theorem bw_134 : (Jvm.Cond.methodLink "TextRegions$FrontNames" (3 : Nat) ({ cls := "java/lang/Object", name := "<init>", desc := "()V" } : Jvm.MethodName)) ∈ BIG := inT 134 (by decide +kernel)
theorem bw_135 : (Jvm.Cond.fieldLink "TextRegions$FrontNames" (15 : Nat) "TextRegions$FrontNames" "symbols" "LTextRegions$Dictionary;") ∈ BIG := inT 135 (by decide +kernel)
theorem bw_136 : (Jvm.Cond.fieldLink "TextRegions$FrontNames" (9 : Nat) "TextRegions$FrontNames" "row" "[I") ∈ BIG := inT 136 (by decide +kernel)
theorem bw_137 : (Jvm.Cond.laysFinal "TextRegions$FrontNames" "TextRegions$FrontNames" "symbols" "LTextRegions$Dictionary;") ∈ BIG := inT 137 (by decide +kernel)
theorem bw_139 : (Jvm.Cond.laysFinal "TextRegions$FrontNames" "TextRegions$FrontNames" "row" "[I") ∈ BIG := inT 139 (by decide +kernel)
theorem bw_142 : (Jvm.Cond.classLink "TextRegions" (51 : Nat) "TextRegions$Teller") ∈ BIG := inT 142 (by decide +kernel)
theorem bw_143 : (Jvm.Cond.instantiable "TextRegions$Teller" (2 : Nat)) ∈ BIG := inT 143 (by decide +kernel)
theorem bw_144 : (Jvm.Cond.classLink "TextRegions" (53 : Nat) "TextRegions$BitWriter") ∈ BIG := inT 144 (by decide +kernel)
theorem bw_145 : (Jvm.Cond.instantiable "TextRegions$BitWriter" (3 : Nat)) ∈ BIG := inT 145 (by decide +kernel)
theorem bw_147 : (Jvm.Cond.instanceMethod ({ cls := "TextRegions$BitWriter", name := "<init>", desc := "(LTextRegions$ByteRow;)V" } : Jvm.MethodName)) ∈ BIG := inT 147 (by decide +kernel)
theorem bw_148 : (Jvm.Cond.code ({ cls := "TextRegions$BitWriter", name := "<init>", desc := "(LTextRegions$ByteRow;)V" } : Jvm.MethodName) prog_3_method_1_code (2 : Nat) (Option.none : Option Jvm.ClassFile.FieldType)) ∈ BIG := inT 148 (by decide +kernel)
theorem bw_149 : (Jvm.Cond.methodLink "TextRegions$BitWriter" (3 : Nat) ({ cls := "java/lang/Object", name := "<init>", desc := "()V" } : Jvm.MethodName)) ∈ BIG := inT 149 (by decide +kernel)
theorem bw_150 : (Jvm.Cond.fieldLink "TextRegions$BitWriter" (19 : Nat) "TextRegions$BitWriter" "row" "LTextRegions$ByteRow;") ∈ BIG := inT 150 (by decide +kernel)
theorem bw_151 : (Jvm.Cond.fieldLink "TextRegions$BitWriter" (9 : Nat) "TextRegions$BitWriter" "keeping" "Z") ∈ BIG := inT 151 (by decide +kernel)
theorem bw_152 : (Jvm.Cond.fieldLink "TextRegions$BitWriter" (15 : Nat) "TextRegions$BitWriter" "count" "I") ∈ BIG := inT 152 (by decide +kernel)
theorem bw_154 : (Jvm.Cond.laysFinal "TextRegions$BitWriter" "TextRegions$BitWriter" "row" "LTextRegions$ByteRow;") ∈ BIG := inT 154 (by decide +kernel)
theorem bw_156 : (Jvm.Cond.lays "TextRegions$BitWriter" "TextRegions$BitWriter" "keeping" "Z") ∈ BIG := inT 156 (by decide +kernel)
theorem bw_158 : (Jvm.Cond.lays "TextRegions$BitWriter" "TextRegions$BitWriter" "count" "I") ∈ BIG := inT 158 (by decide +kernel)
theorem bw_162 : (Jvm.Cond.instanceMethod ({ cls := "TextRegions$Teller", name := "<init>", desc := "(LTextRegions$Names;LTextRegions$BitWriter;)V" } : Jvm.MethodName)) ∈ BIG := inT 162 (by decide +kernel)
theorem bw_163 : (Jvm.Cond.code ({ cls := "TextRegions$Teller", name := "<init>", desc := "(LTextRegions$Names;LTextRegions$BitWriter;)V" } : Jvm.MethodName) prog_12_method_1_code (3 : Nat) (Option.none : Option Jvm.ClassFile.FieldType)) ∈ BIG := inT 163 (by decide +kernel)
theorem bw_164 : (Jvm.Cond.methodLink "TextRegions$Teller" (3 : Nat) ({ cls := "java/lang/Object", name := "<init>", desc := "()V" } : Jvm.MethodName)) ∈ BIG := inT 164 (by decide +kernel)
theorem bw_165 : (Jvm.Cond.fieldLink "TextRegions$Teller" (9 : Nat) "TextRegions$Teller" "names" "LTextRegions$Names;") ∈ BIG := inT 165 (by decide +kernel)
theorem bw_166 : (Jvm.Cond.fieldLink "TextRegions$Teller" (15 : Nat) "TextRegions$Teller" "out" "LTextRegions$BitWriter;") ∈ BIG := inT 166 (by decide +kernel)
theorem bw_167 : (Jvm.Cond.laysFinal "TextRegions$Teller" "TextRegions$Teller" "names" "LTextRegions$Names;") ∈ BIG := inT 167 (by decide +kernel)
theorem bw_169 : (Jvm.Cond.laysFinal "TextRegions$Teller" "TextRegions$Teller" "out" "LTextRegions$BitWriter;") ∈ BIG := inT 169 (by decide +kernel)
theorem bw_172 : (Jvm.Cond.classLink "TextRegions" (65 : Nat) "TextRegions$Reader") ∈ BIG := inT 172 (by decide +kernel)
theorem bw_173 : (Jvm.Cond.instantiable "TextRegions$Reader" (2 : Nat)) ∈ BIG := inT 173 (by decide +kernel)
theorem bw_174 : (Jvm.Cond.classLink "TextRegions" (67 : Nat) "TextRegions$BitReader") ∈ BIG := inT 174 (by decide +kernel)
theorem bw_175 : (Jvm.Cond.instantiable "TextRegions$BitReader" (3 : Nat)) ∈ BIG := inT 175 (by decide +kernel)
theorem bw_177 : (Jvm.Cond.instanceMethod ({ cls := "TextRegions$BitReader", name := "<init>", desc := "(LTextRegions$ByteRow;)V" } : Jvm.MethodName)) ∈ BIG := inT 177 (by decide +kernel)
theorem bw_178 : (Jvm.Cond.code ({ cls := "TextRegions$BitReader", name := "<init>", desc := "(LTextRegions$ByteRow;)V" } : Jvm.MethodName) prog_2_method_1_code (2 : Nat) (Option.none : Option Jvm.ClassFile.FieldType)) ∈ BIG := inT 178 (by decide +kernel)
theorem bw_179 : (Jvm.Cond.methodLink "TextRegions$BitReader" (3 : Nat) ({ cls := "java/lang/Object", name := "<init>", desc := "()V" } : Jvm.MethodName)) ∈ BIG := inT 179 (by decide +kernel)
theorem bw_180 : (Jvm.Cond.fieldLink "TextRegions$BitReader" (18 : Nat) "TextRegions$BitReader" "row" "LTextRegions$ByteRow;") ∈ BIG := inT 180 (by decide +kernel)
theorem bw_181 : (Jvm.Cond.fieldLink "TextRegions$BitReader" (9 : Nat) "TextRegions$BitReader" "place" "I") ∈ BIG := inT 181 (by decide +kernel)
theorem bw_183 : (Jvm.Cond.fieldLink "TextRegions$BitReader" (15 : Nat) "TextRegions$BitReader" "refusal" "I") ∈ BIG := inT 183 (by decide +kernel)
theorem bw_185 : (Jvm.Cond.laysFinal "TextRegions$BitReader" "TextRegions$BitReader" "row" "LTextRegions$ByteRow;") ∈ BIG := inT 185 (by decide +kernel)
theorem bw_187 : (Jvm.Cond.lays "TextRegions$BitReader" "TextRegions$BitReader" "place" "I") ∈ BIG := inT 187 (by decide +kernel)
theorem bw_189 : (Jvm.Cond.lays "TextRegions$BitReader" "TextRegions$BitReader" "refusal" "I") ∈ BIG := inT 189 (by decide +kernel)
theorem bw_193 : (Jvm.Cond.instanceMethod ({ cls := "TextRegions$Reader", name := "<init>", desc := "(LTextRegions$Names;LTextRegions$BitReader;)V" } : Jvm.MethodName)) ∈ BIG := inT 193 (by decide +kernel)
theorem bw_194 : (Jvm.Cond.code ({ cls := "TextRegions$Reader", name := "<init>", desc := "(LTextRegions$Names;LTextRegions$BitReader;)V" } : Jvm.MethodName) prog_11_method_1_code (3 : Nat) (Option.none : Option Jvm.ClassFile.FieldType)) ∈ BIG := inT 194 (by decide +kernel)
theorem bw_195 : (Jvm.Cond.methodLink "TextRegions$Reader" (3 : Nat) ({ cls := "java/lang/Object", name := "<init>", desc := "()V" } : Jvm.MethodName)) ∈ BIG := inT 195 (by decide +kernel)
theorem bw_196 : (Jvm.Cond.fieldLink "TextRegions$Reader" (9 : Nat) "TextRegions$Reader" "names" "LTextRegions$Names;") ∈ BIG := inT 196 (by decide +kernel)
theorem bw_197 : (Jvm.Cond.fieldLink "TextRegions$Reader" (15 : Nat) "TextRegions$Reader" "in" "LTextRegions$BitReader;") ∈ BIG := inT 197 (by decide +kernel)
theorem bw_198 : (Jvm.Cond.laysFinal "TextRegions$Reader" "TextRegions$Reader" "names" "LTextRegions$Names;") ∈ BIG := inT 198 (by decide +kernel)
theorem bw_200 : (Jvm.Cond.laysFinal "TextRegions$Reader" "TextRegions$Reader" "in" "LTextRegions$BitReader;") ∈ BIG := inT 200 (by decide +kernel)
theorem bw_203 : (Jvm.Cond.classLink "TextRegions" (77 : Nat) "TextRegions$Layout") ∈ BIG := inT 203 (by decide +kernel)
theorem bw_204 : (Jvm.Cond.instantiable "TextRegions$Layout" (8 : Nat)) ∈ BIG := inT 204 (by decide +kernel)
theorem bw_206 : (Jvm.Cond.instanceMethod ({ cls := "TextRegions$Layout", name := "<init>", desc := "(LTextRegions$Dictionary;)V" } : Jvm.MethodName)) ∈ BIG := inT 206 (by decide +kernel)
theorem bw_207 : (Jvm.Cond.code ({ cls := "TextRegions$Layout", name := "<init>", desc := "(LTextRegions$Dictionary;)V" } : Jvm.MethodName) prog_8_method_1_code (2 : Nat) (Option.none : Option Jvm.ClassFile.FieldType)) ∈ BIG := inT 207 (by decide +kernel)
theorem bw_208 : (Jvm.Cond.methodLink "TextRegions$Layout" (3 : Nat) ({ cls := "java/lang/Object", name := "<init>", desc := "()V" } : Jvm.MethodName)) ∈ BIG := inT 208 (by decide +kernel)
theorem bw_209 : (Jvm.Cond.fieldLink "TextRegions$Layout" (35 : Nat) "TextRegions$Layout" "symbols" "LTextRegions$Dictionary;") ∈ BIG := inT 209 (by decide +kernel)
theorem bw_213 : (Jvm.Cond.fieldLink "TextRegions$Layout" (9 : Nat) "TextRegions$Layout" "ways" "[I") ∈ BIG := inT 213 (by decide +kernel)
theorem bw_218 : (Jvm.Cond.fieldLink "TextRegions$Layout" (15 : Nat) "TextRegions$Layout" "symbolOf" "[I") ∈ BIG := inT 218 (by decide +kernel)
theorem bw_224 : (Jvm.Cond.fieldLink "TextRegions$Layout" (18 : Nat) "TextRegions$Layout" "xs" "[I") ∈ BIG := inT 224 (by decide +kernel)
theorem bw_227 : (Jvm.Cond.fieldLink "TextRegions$Layout" (21 : Nat) "TextRegions$Layout" "ys" "[I") ∈ BIG := inT 227 (by decide +kernel)
theorem bw_230 : (Jvm.Cond.fieldLink "TextRegions$Layout" (24 : Nat) "TextRegions$Layout" "differs" "[J") ∈ BIG := inT 230 (by decide +kernel)
theorem bw_235 : (Jvm.Cond.fieldLink "TextRegions$Layout" (28 : Nat) "TextRegions$Layout" "sequence" "[I") ∈ BIG := inT 235 (by decide +kernel)
theorem bw_238 : (Jvm.Cond.fieldLink "TextRegions$Layout" (31 : Nat) "TextRegions$Layout" "count" "I") ∈ BIG := inT 238 (by decide +kernel)
theorem bw_243 : (Jvm.Cond.laysFinal "TextRegions$Layout" "TextRegions$Layout" "symbols" "LTextRegions$Dictionary;") ∈ BIG := inT 243 (by decide +kernel)
theorem bw_245 : (Jvm.Cond.laysFinal "TextRegions$Layout" "TextRegions$Layout" "ways" "[I") ∈ BIG := inT 245 (by decide +kernel)
theorem bw_247 : (Jvm.Cond.laysFinal "TextRegions$Layout" "TextRegions$Layout" "symbolOf" "[I") ∈ BIG := inT 247 (by decide +kernel)
theorem bw_249 : (Jvm.Cond.laysFinal "TextRegions$Layout" "TextRegions$Layout" "xs" "[I") ∈ BIG := inT 249 (by decide +kernel)
theorem bw_251 : (Jvm.Cond.laysFinal "TextRegions$Layout" "TextRegions$Layout" "ys" "[I") ∈ BIG := inT 251 (by decide +kernel)
theorem bw_253 : (Jvm.Cond.laysFinal "TextRegions$Layout" "TextRegions$Layout" "differs" "[J") ∈ BIG := inT 253 (by decide +kernel)
theorem bw_255 : (Jvm.Cond.laysFinal "TextRegions$Layout" "TextRegions$Layout" "sequence" "[I") ∈ BIG := inT 255 (by decide +kernel)
theorem bw_257 : (Jvm.Cond.lays "TextRegions$Layout" "TextRegions$Layout" "count" "I") ∈ BIG := inT 257 (by decide +kernel)
theorem bw_260 : (Jvm.Cond.fieldLink "TextRegions" (13 : Nat) "TextRegions" "kind" "I") ∈ BIG := inT 260 (by decide +kernel)
theorem bw_261 : (Jvm.Cond.fieldLink "TextRegions" (20 : Nat) "TextRegions" "symbols" "LTextRegions$Dictionary;") ∈ BIG := inT 261 (by decide +kernel)
theorem bw_262 : (Jvm.Cond.fieldLink "TextRegions" (29 : Nat) "TextRegions" "page" "LTextRegions$Page;") ∈ BIG := inT 262 (by decide +kernel)
theorem bw_263 : (Jvm.Cond.fieldLink "TextRegions" (36 : Nat) "TextRegions" "toldBytes" "LTextRegions$ByteRow;") ∈ BIG := inT 263 (by decide +kernel)
theorem bw_264 : (Jvm.Cond.fieldLink "TextRegions" (40 : Nat) "TextRegions" "cameBytes" "LTextRegions$ByteRow;") ∈ BIG := inT 264 (by decide +kernel)
theorem bw_265 : (Jvm.Cond.fieldLink "TextRegions" (61 : Nat) "TextRegions" "teller" "LTextRegions$Teller;") ∈ BIG := inT 265 (by decide +kernel)
theorem bw_266 : (Jvm.Cond.fieldLink "TextRegions" (73 : Nat) "TextRegions" "reader" "LTextRegions$Reader;") ∈ BIG := inT 266 (by decide +kernel)
theorem bw_267 : (Jvm.Cond.fieldLink "TextRegions" (80 : Nat) "TextRegions" "layout" "LTextRegions$Layout;") ∈ BIG := inT 267 (by decide +kernel)
theorem bw_268 : (Jvm.Cond.fieldLink "TextRegions" (84 : Nat) "TextRegions" "spare" "LTextRegions$Layout;") ∈ BIG := inT 268 (by decide +kernel)
theorem bw_269 : (Jvm.Cond.fieldLink "TextRegions" (87 : Nat) "TextRegions" "refusedAt" "I") ∈ BIG := inT 269 (by decide +kernel)
theorem bw_270 : (Jvm.Cond.laysFinal "TextRegions" "TextRegions" "kind" "I") ∈ BIG := inT 270 (by decide +kernel)
theorem bw_272 : (Jvm.Cond.laysFinal "TextRegions" "TextRegions" "symbols" "LTextRegions$Dictionary;") ∈ BIG := inT 272 (by decide +kernel)
theorem bw_274 : (Jvm.Cond.laysFinal "TextRegions" "TextRegions" "page" "LTextRegions$Page;") ∈ BIG := inT 274 (by decide +kernel)
theorem bw_276 : (Jvm.Cond.laysFinal "TextRegions" "TextRegions" "toldBytes" "LTextRegions$ByteRow;") ∈ BIG := inT 276 (by decide +kernel)
theorem bw_278 : (Jvm.Cond.laysFinal "TextRegions" "TextRegions" "cameBytes" "LTextRegions$ByteRow;") ∈ BIG := inT 278 (by decide +kernel)
theorem bw_280 : (Jvm.Cond.laysFinal "TextRegions" "TextRegions" "teller" "LTextRegions$Teller;") ∈ BIG := inT 280 (by decide +kernel)
theorem bw_282 : (Jvm.Cond.laysFinal "TextRegions" "TextRegions" "reader" "LTextRegions$Reader;") ∈ BIG := inT 282 (by decide +kernel)
theorem bw_284 : (Jvm.Cond.lays "TextRegions" "TextRegions" "layout" "LTextRegions$Layout;") ∈ BIG := inT 284 (by decide +kernel)
theorem bw_286 : (Jvm.Cond.lays "TextRegions" "TextRegions" "spare" "LTextRegions$Layout;") ∈ BIG := inT 286 (by decide +kernel)
theorem bw_288 : (Jvm.Cond.lays "TextRegions" "TextRegions" "refusedAt" "I") ∈ BIG := inT 288 (by decide +kernel)
theorem bw_291 : (Jvm.Cond.methodLink "TextRegionsLaw" (88 : Nat) ({ cls := "TextRegions", name := "compose", desc := "()I" } : Jvm.MethodName)) ∈ BIG := inT 291 (by decide +kernel)
theorem bw_292 : (Jvm.Cond.instanceMethod ({ cls := "TextRegions", name := "compose", desc := "()I" } : Jvm.MethodName)) ∈ BIG := inT 292 (by decide +kernel)
theorem bw_293 : (Jvm.Cond.selects "TextRegions" ({ cls := "TextRegions", name := "compose", desc := "()I" } : Jvm.MethodName) ({ cls := "TextRegions", name := "compose", desc := "()I" } : Jvm.MethodName)) ∈ BIG := inT 293 (by decide +kernel)
theorem bw_294 : (Jvm.Cond.code ({ cls := "TextRegions", name := "compose", desc := "()I" } : Jvm.MethodName) prog_1_method_8_code (2 : Nat) (Option.some Jvm.ClassFile.FieldType.int)) ∈ BIG := inT 294 (by decide +kernel)
theorem bw_297 : (Jvm.Cond.instanceMethod ({ cls := "TextRegions$Layout", name := "arrange", desc := "()V" } : Jvm.MethodName)) ∈ BIG := inT 297 (by decide +kernel)
theorem bw_298 : (Jvm.Cond.code ({ cls := "TextRegions$Layout", name := "arrange", desc := "()V" } : Jvm.MethodName) prog_8_method_14_code (4 : Nat) (Option.none : Option Jvm.ClassFile.FieldType)) ∈ BIG := inT 298 (by decide +kernel)
theorem bw_299 : (Jvm.Cond.methodLink "TextRegions$Layout" (76 : Nat) ({ cls := "TextRegions$Layout", name := "strip", desc := "(I)I" } : Jvm.MethodName)) ∈ BIG := inT 299 (by decide +kernel)
theorem bw_301 : (Jvm.Cond.instanceMethod ({ cls := "TextRegions$Layout", name := "strip", desc := "(I)I" } : Jvm.MethodName)) ∈ BIG := inT 301 (by decide +kernel)
theorem bw_302 : (Jvm.Cond.code ({ cls := "TextRegions$Layout", name := "strip", desc := "(I)I" } : Jvm.MethodName) prog_8_method_12_code (2 : Nat) (Option.some Jvm.ClassFile.FieldType.int)) ∈ BIG := inT 302 (by decide +kernel)
theorem bw_303 : (Jvm.Cond.methodLink "TextRegions$Layout" (70 : Nat) ({ cls := "TextRegions$Layout", name := "cornerT", desc := "(I)I" } : Jvm.MethodName)) ∈ BIG := inT 303 (by decide +kernel)
theorem bw_305 : (Jvm.Cond.instanceMethod ({ cls := "TextRegions$Layout", name := "cornerT", desc := "(I)I" } : Jvm.MethodName)) ∈ BIG := inT 305 (by decide +kernel)
theorem bw_306 : (Jvm.Cond.code ({ cls := "TextRegions$Layout", name := "cornerT", desc := "(I)I" } : Jvm.MethodName) prog_8_method_11_code (2 : Nat) (Option.some Jvm.ClassFile.FieldType.int)) ∈ BIG := inT 306 (by decide +kernel)
theorem bw_307 : (Jvm.Cond.methodLink "TextRegions$Layout" (43 : Nat) ({ cls := "TextRegions$Layout", name := "isTurned", desc := "()Z" } : Jvm.MethodName)) ∈ BIG := inT 307 (by decide +kernel)
theorem bw_309 : (Jvm.Cond.instanceMethod ({ cls := "TextRegions$Layout", name := "isTurned", desc := "()Z" } : Jvm.MethodName)) ∈ BIG := inT 309 (by decide +kernel)
theorem bw_310 : (Jvm.Cond.code ({ cls := "TextRegions$Layout", name := "isTurned", desc := "()Z" } : Jvm.MethodName) prog_8_method_7_code (1 : Nat) (Option.some Jvm.ClassFile.FieldType.boolean)) ∈ BIG := inT 310 (by decide +kernel)
theorem bw_311 : (Jvm.Cond.methodLink "TextRegions$Layout" (47 : Nat) ({ cls := "TextRegions$Layout", name := "cornerColumn", desc := "(I)I" } : Jvm.MethodName)) ∈ BIG := inT 311 (by decide +kernel)
theorem bw_313 : (Jvm.Cond.instanceMethod ({ cls := "TextRegions$Layout", name := "cornerColumn", desc := "(I)I" } : Jvm.MethodName)) ∈ BIG := inT 313 (by decide +kernel)
theorem bw_314 : (Jvm.Cond.code ({ cls := "TextRegions$Layout", name := "cornerColumn", desc := "(I)I" } : Jvm.MethodName) prog_8_method_8_code (2 : Nat) (Option.some Jvm.ClassFile.FieldType.int)) ∈ BIG := inT 314 (by decide +kernel)
theorem bw_315 : (Jvm.Cond.methodLink "TextRegions$Layout" (51 : Nat) ({ cls := "TextRegions$Layout", name := "cornerRow", desc := "(I)I" } : Jvm.MethodName)) ∈ BIG := inT 315 (by decide +kernel)
theorem bw_317 : (Jvm.Cond.instanceMethod ({ cls := "TextRegions$Layout", name := "cornerRow", desc := "(I)I" } : Jvm.MethodName)) ∈ BIG := inT 317 (by decide +kernel)
theorem bw_318 : (Jvm.Cond.code ({ cls := "TextRegions$Layout", name := "cornerRow", desc := "(I)I" } : Jvm.MethodName) prog_8_method_9_code (2 : Nat) (Option.some Jvm.ClassFile.FieldType.int)) ∈ BIG := inT 318 (by decide +kernel)
theorem bw_321 : (Jvm.Cond.instanceMethod ({ cls := "TextRegions$Page", name := "lighten", desc := "()V" } : Jvm.MethodName)) ∈ BIG := inT 321 (by decide +kernel)
theorem bw_322 : (Jvm.Cond.code ({ cls := "TextRegions$Page", name := "lighten", desc := "()V" } : Jvm.MethodName) prog_10_method_3_code (2 : Nat) (Option.none : Option Jvm.ClassFile.FieldType)) ∈ BIG := inT 322 (by decide +kernel)
theorem bw_325 : (Jvm.Cond.instanceMethod ({ cls := "TextRegions$Page", name := "lay", desc := "(LTextRegions$Layout;I)V" } : Jvm.MethodName)) ∈ BIG := inT 325 (by decide +kernel)
theorem bw_326 : (Jvm.Cond.code ({ cls := "TextRegions$Page", name := "lay", desc := "(LTextRegions$Layout;I)V" } : Jvm.MethodName) prog_10_method_5_code (10 : Nat) (Option.none : Option Jvm.ClassFile.FieldType)) ∈ BIG := inT 326 (by decide +kernel)
theorem bw_329 : (Jvm.Cond.instanceMethod ({ cls := "TextRegions$Dictionary", name := "sampleNumber", desc := "(III)I" } : Jvm.MethodName)) ∈ BIG := inT 329 (by decide +kernel)
theorem bw_330 : (Jvm.Cond.code ({ cls := "TextRegions$Dictionary", name := "sampleNumber", desc := "(III)I" } : Jvm.MethodName) prog_6_method_5_code (4 : Nat) (Option.some Jvm.ClassFile.FieldType.int)) ∈ BIG := inT 330 (by decide +kernel)
theorem bw_332 : (Jvm.Cond.static ({ cls := "TextRegions", name := "hasBit", desc := "(JI)Z" } : Jvm.MethodName)) ∈ BIG := inT 332 (by decide +kernel)
theorem bw_333 : (Jvm.Cond.code ({ cls := "TextRegions", name := "hasBit", desc := "(JI)Z" } : Jvm.MethodName) prog_1_method_23_code (3 : Nat) (Option.some Jvm.ClassFile.FieldType.boolean)) ∈ BIG := inT 333 (by decide +kernel)
theorem bw_334 : (Jvm.Cond.methodLink "TextRegions$Page" (68 : Nat) ({ cls := "TextRegions$Page", name := "laySample", desc := "(IIZI)V" } : Jvm.MethodName)) ∈ BIG := inT 334 (by decide +kernel)
theorem bw_336 : (Jvm.Cond.instanceMethod ({ cls := "TextRegions$Page", name := "laySample", desc := "(IIZI)V" } : Jvm.MethodName)) ∈ BIG := inT 336 (by decide +kernel)
theorem bw_337 : (Jvm.Cond.code ({ cls := "TextRegions$Page", name := "laySample", desc := "(IIZI)V" } : Jvm.MethodName) prog_10_method_6_code (5 : Nat) (Option.none : Option Jvm.ClassFile.FieldType)) ∈ BIG := inT 337 (by decide +kernel)
theorem bw_338 : (Jvm.Cond.methodLink "TextRegions$Page" (72 : Nat) ({ cls := "TextRegions$Page", name := "has", desc := "(II)Z" } : Jvm.MethodName)) ∈ BIG := inT 338 (by decide +kernel)
theorem bw_340 : (Jvm.Cond.instanceMethod ({ cls := "TextRegions$Page", name := "has", desc := "(II)Z" } : Jvm.MethodName)) ∈ BIG := inT 340 (by decide +kernel)
theorem bw_341 : (Jvm.Cond.code ({ cls := "TextRegions$Page", name := "has", desc := "(II)Z" } : Jvm.MethodName) prog_10_method_2_code (3 : Nat) (Option.some Jvm.ClassFile.FieldType.boolean)) ∈ BIG := inT 341 (by decide +kernel)
theorem bw_343 : (Jvm.Cond.static ({ cls := "TextRegions", name := "isWithin", desc := "(III)Z" } : Jvm.MethodName)) ∈ BIG := inT 343 (by decide +kernel)
theorem bw_344 : (Jvm.Cond.code ({ cls := "TextRegions", name := "isWithin", desc := "(III)Z" } : Jvm.MethodName) prog_1_method_20_code (3 : Nat) (Option.some Jvm.ClassFile.FieldType.boolean)) ∈ BIG := inT 344 (by decide +kernel)
theorem bw_345 : (Jvm.Cond.methodLink "TextRegions$Page" (76 : Nat) ({ cls := "TextRegions$Page", name := "composed", desc := "(ZZI)Z" } : Jvm.MethodName)) ∈ BIG := inT 345 (by decide +kernel)
theorem bw_346 : (Jvm.Cond.static ({ cls := "TextRegions$Page", name := "composed", desc := "(ZZI)Z" } : Jvm.MethodName)) ∈ BIG := inT 346 (by decide +kernel)
theorem bw_347 : (Jvm.Cond.code ({ cls := "TextRegions$Page", name := "composed", desc := "(ZZI)Z" } : Jvm.MethodName) prog_10_method_7_code (3 : Nat) (Option.some Jvm.ClassFile.FieldType.boolean)) ∈ BIG := inT 347 (by decide +kernel)
theorem bw_350 : (Jvm.Cond.instanceMethod ({ cls := "TextRegions$Page", name := "countDark", desc := "()I" } : Jvm.MethodName)) ∈ BIG := inT 350 (by decide +kernel)
theorem bw_351 : (Jvm.Cond.code ({ cls := "TextRegions$Page", name := "countDark", desc := "()I" } : Jvm.MethodName) prog_10_method_4_code (3 : Nat) (Option.some Jvm.ClassFile.FieldType.int)) ∈ BIG := inT 351 (by decide +kernel)
theorem bw_352 : (Jvm.Cond.methodLink "TextRegionsLaw" (95 : Nat) ({ cls := "TextRegions", name := "write", desc := "()I" } : Jvm.MethodName)) ∈ BIG := inT 352 (by decide +kernel)
theorem bw_353 : (Jvm.Cond.instanceMethod ({ cls := "TextRegions", name := "write", desc := "()I" } : Jvm.MethodName)) ∈ BIG := inT 353 (by decide +kernel)
theorem bw_354 : (Jvm.Cond.selects "TextRegions" ({ cls := "TextRegions", name := "write", desc := "()I" } : Jvm.MethodName) ({ cls := "TextRegions", name := "write", desc := "()I" } : Jvm.MethodName)) ∈ BIG := inT 354 (by decide +kernel)
theorem bw_355 : (Jvm.Cond.code ({ cls := "TextRegions", name := "write", desc := "()I" } : Jvm.MethodName) prog_1_method_10_code (1 : Nat) (Option.some Jvm.ClassFile.FieldType.int)) ∈ BIG := inT 355 (by decide +kernel)
theorem bw_358 : (Jvm.Cond.instanceMethod ({ cls := "TextRegions$Teller", name := "prepare", desc := "(LTextRegions$Layout;)V" } : Jvm.MethodName)) ∈ BIG := inT 358 (by decide +kernel)
theorem bw_359 : (Jvm.Cond.code ({ cls := "TextRegions$Teller", name := "prepare", desc := "(LTextRegions$Layout;)V" } : Jvm.MethodName) prog_12_method_2_code (2 : Nat) (Option.none : Option Jvm.ClassFile.FieldType)) ∈ BIG := inT 359 (by decide +kernel)
theorem bw_362 : (Jvm.Cond.methodLink "TextRegions$Teller" (24 : Nat) ({ cls := "TextRegions$Names", name := "suit", desc := "(LTextRegions$Layout;)V" } : Jvm.MethodName)) ∈ BIG := inT 362 (by decide +kernel)
theorem bw_366 : (Jvm.Cond.selects "TextRegions$CodeNames" ({ cls := "TextRegions$Names", name := "suit", desc := "(LTextRegions$Layout;)V" } : Jvm.MethodName) ({ cls := "TextRegions$CodeNames", name := "suit", desc := "(LTextRegions$Layout;)V" } : Jvm.MethodName)) ∈ BIG := inT 366 (by decide +kernel)
theorem bw_368 : (Jvm.Cond.instanceMethod ({ cls := "TextRegions$CodeNames", name := "suit", desc := "(LTextRegions$Layout;)V" } : Jvm.MethodName)) ∈ BIG := inT 368 (by decide +kernel)
theorem bw_370 : (Jvm.Cond.code ({ cls := "TextRegions$CodeNames", name := "suit", desc := "(LTextRegions$Layout;)V" } : Jvm.MethodName) prog_5_method_2_code (7 : Nat) (Option.none : Option Jvm.ClassFile.FieldType)) ∈ BIG := inT 370 (by decide +kernel)
theorem bw_371 : (Jvm.Cond.methodLink "TextRegions$CodeNames" (28 : Nat) ({ cls := "TextRegions$CodeNames", name := "weigh", desc := "(LTextRegions$Layout;)V" } : Jvm.MethodName)) ∈ BIG := inT 371 (by decide +kernel)
theorem bw_373 : (Jvm.Cond.instanceMethod ({ cls := "TextRegions$CodeNames", name := "weigh", desc := "(LTextRegions$Layout;)V" } : Jvm.MethodName)) ∈ BIG := inT 373 (by decide +kernel)
theorem bw_374 : (Jvm.Cond.code ({ cls := "TextRegions$CodeNames", name := "weigh", desc := "(LTextRegions$Layout;)V" } : Jvm.MethodName) prog_5_method_8_code (3 : Nat) (Option.none : Option Jvm.ClassFile.FieldType)) ∈ BIG := inT 374 (by decide +kernel)
theorem bw_375 : (Jvm.Cond.methodLink "TextRegions$CodeNames" (38 : Nat) ({ cls := "TextRegions$CodeNames", name := "joinLeast", desc := "(I)I" } : Jvm.MethodName)) ∈ BIG := inT 375 (by decide +kernel)
theorem bw_377 : (Jvm.Cond.instanceMethod ({ cls := "TextRegions$CodeNames", name := "joinLeast", desc := "(I)I" } : Jvm.MethodName)) ∈ BIG := inT 377 (by decide +kernel)
theorem bw_378 : (Jvm.Cond.code ({ cls := "TextRegions$CodeNames", name := "joinLeast", desc := "(I)I" } : Jvm.MethodName) prog_5_method_9_code (4 : Nat) (Option.some Jvm.ClassFile.FieldType.int)) ∈ BIG := inT 378 (by decide +kernel)
theorem bw_379 : (Jvm.Cond.methodLink "TextRegions$CodeNames" (42 : Nat) ({ cls := "TextRegions$CodeNames", name := "joinsOf", desc := "(I)I" } : Jvm.MethodName)) ∈ BIG := inT 379 (by decide +kernel)
theorem bw_381 : (Jvm.Cond.instanceMethod ({ cls := "TextRegions$CodeNames", name := "joinsOf", desc := "(I)I" } : Jvm.MethodName)) ∈ BIG := inT 381 (by decide +kernel)
theorem bw_382 : (Jvm.Cond.code ({ cls := "TextRegions$CodeNames", name := "joinsOf", desc := "(I)I" } : Jvm.MethodName) prog_5_method_10_code (4 : Nat) (Option.some Jvm.ClassFile.FieldType.int)) ∈ BIG := inT 382 (by decide +kernel)
theorem bw_383 : (Jvm.Cond.methodLink "TextRegions$CodeNames" (45 : Nat) ({ cls := "TextRegions$CodeNames", name := "assignCodes", desc := "()V" } : Jvm.MethodName)) ∈ BIG := inT 383 (by decide +kernel)
theorem bw_385 : (Jvm.Cond.instanceMethod ({ cls := "TextRegions$CodeNames", name := "assignCodes", desc := "()V" } : Jvm.MethodName)) ∈ BIG := inT 385 (by decide +kernel)
theorem bw_386 : (Jvm.Cond.code ({ cls := "TextRegions$CodeNames", name := "assignCodes", desc := "()V" } : Jvm.MethodName) prog_5_method_12_code (4 : Nat) (Option.none : Option Jvm.ClassFile.FieldType)) ∈ BIG := inT 386 (by decide +kernel)
theorem bw_388 : (Jvm.Cond.selects "TextRegions$FrontNames" ({ cls := "TextRegions$Names", name := "suit", desc := "(LTextRegions$Layout;)V" } : Jvm.MethodName) ({ cls := "TextRegions$FrontNames", name := "suit", desc := "(LTextRegions$Layout;)V" } : Jvm.MethodName)) ∈ BIG := inT 388 (by decide +kernel)
theorem bw_390 : (Jvm.Cond.instanceMethod ({ cls := "TextRegions$FrontNames", name := "suit", desc := "(LTextRegions$Layout;)V" } : Jvm.MethodName)) ∈ BIG := inT 390 (by decide +kernel)
theorem bw_392 : (Jvm.Cond.code ({ cls := "TextRegions$FrontNames", name := "suit", desc := "(LTextRegions$Layout;)V" } : Jvm.MethodName) prog_7_method_2_code (2 : Nat) (Option.none : Option Jvm.ClassFile.FieldType)) ∈ BIG := inT 392 (by decide +kernel)
theorem bw_395 : (Jvm.Cond.instanceMethod ({ cls := "TextRegions$Teller", name := "tellAll", desc := "(LTextRegions$Layout;Z)I" } : Jvm.MethodName)) ∈ BIG := inT 395 (by decide +kernel)
theorem bw_396 : (Jvm.Cond.code ({ cls := "TextRegions$Teller", name := "tellAll", desc := "(LTextRegions$Layout;Z)I" } : Jvm.MethodName) prog_12_method_3_code (5 : Nat) (Option.some Jvm.ClassFile.FieldType.int)) ∈ BIG := inT 396 (by decide +kernel)
theorem bw_399 : (Jvm.Cond.instanceMethod ({ cls := "TextRegions$BitWriter", name := "start", desc := "(Z)V" } : Jvm.MethodName)) ∈ BIG := inT 399 (by decide +kernel)
theorem bw_400 : (Jvm.Cond.code ({ cls := "TextRegions$BitWriter", name := "start", desc := "(Z)V" } : Jvm.MethodName) prog_3_method_2_code (2 : Nat) (Option.none : Option Jvm.ClassFile.FieldType)) ∈ BIG := inT 400 (by decide +kernel)
theorem bw_403 : (Jvm.Cond.instanceMethod ({ cls := "TextRegions$BitWriter", name := "tellNumber", desc := "(I)V" } : Jvm.MethodName)) ∈ BIG := inT 403 (by decide +kernel)
theorem bw_404 : (Jvm.Cond.code ({ cls := "TextRegions$BitWriter", name := "tellNumber", desc := "(I)V" } : Jvm.MethodName) prog_3_method_4_code (3 : Nat) (Option.none : Option Jvm.ClassFile.FieldType)) ∈ BIG := inT 404 (by decide +kernel)
theorem bw_405 : (Jvm.Cond.methodLink "TextRegions$BitWriter" (34 : Nat) ({ cls := "TextRegions$BitWriter", name := "tellBits", desc := "(II)V" } : Jvm.MethodName)) ∈ BIG := inT 405 (by decide +kernel)
theorem bw_407 : (Jvm.Cond.instanceMethod ({ cls := "TextRegions$BitWriter", name := "tellBits", desc := "(II)V" } : Jvm.MethodName)) ∈ BIG := inT 407 (by decide +kernel)
theorem bw_408 : (Jvm.Cond.code ({ cls := "TextRegions$BitWriter", name := "tellBits", desc := "(II)V" } : Jvm.MethodName) prog_3_method_3_code (4 : Nat) (Option.none : Option Jvm.ClassFile.FieldType)) ∈ BIG := inT 408 (by decide +kernel)
theorem bw_411 : (Jvm.Cond.instanceMethod ({ cls := "TextRegions$ByteRow", name := "append", desc := "(I)V" } : Jvm.MethodName)) ∈ BIG := inT 411 (by decide +kernel)
theorem bw_412 : (Jvm.Cond.code ({ cls := "TextRegions$ByteRow", name := "append", desc := "(I)V" } : Jvm.MethodName) prog_4_method_2_code (2 : Nat) (Option.none : Option Jvm.ClassFile.FieldType)) ∈ BIG := inT 412 (by decide +kernel)
theorem bw_419 : (Jvm.Cond.methodLink "TextRegions$Teller" (58 : Nat) ({ cls := "TextRegions$Names", name := "tellTable", desc := "(LTextRegions$BitWriter;)V" } : Jvm.MethodName)) ∈ BIG := inT 419 (by decide +kernel)
theorem bw_422 : (Jvm.Cond.selects "TextRegions$CodeNames" ({ cls := "TextRegions$Names", name := "tellTable", desc := "(LTextRegions$BitWriter;)V" } : Jvm.MethodName) ({ cls := "TextRegions$CodeNames", name := "tellTable", desc := "(LTextRegions$BitWriter;)V" } : Jvm.MethodName)) ∈ BIG := inT 422 (by decide +kernel)
theorem bw_424 : (Jvm.Cond.instanceMethod ({ cls := "TextRegions$CodeNames", name := "tellTable", desc := "(LTextRegions$BitWriter;)V" } : Jvm.MethodName)) ∈ BIG := inT 424 (by decide +kernel)
theorem bw_426 : (Jvm.Cond.code ({ cls := "TextRegions$CodeNames", name := "tellTable", desc := "(LTextRegions$BitWriter;)V" } : Jvm.MethodName) prog_5_method_3_code (3 : Nat) (Option.none : Option Jvm.ClassFile.FieldType)) ∈ BIG := inT 426 (by decide +kernel)
theorem bw_428 : (Jvm.Cond.selects "TextRegions$FrontNames" ({ cls := "TextRegions$Names", name := "tellTable", desc := "(LTextRegions$BitWriter;)V" } : Jvm.MethodName) ({ cls := "TextRegions$FrontNames", name := "tellTable", desc := "(LTextRegions$BitWriter;)V" } : Jvm.MethodName)) ∈ BIG := inT 428 (by decide +kernel)
theorem bw_430 : (Jvm.Cond.instanceMethod ({ cls := "TextRegions$FrontNames", name := "tellTable", desc := "(LTextRegions$BitWriter;)V" } : Jvm.MethodName)) ∈ BIG := inT 430 (by decide +kernel)
theorem bw_432 : (Jvm.Cond.code ({ cls := "TextRegions$FrontNames", name := "tellTable", desc := "(LTextRegions$BitWriter;)V" } : Jvm.MethodName) prog_7_method_3_code (2 : Nat) (Option.none : Option Jvm.ClassFile.FieldType)) ∈ BIG := inT 432 (by decide +kernel)
theorem bw_433 : (Jvm.Cond.methodLink "TextRegions$FrontNames" (19 : Nat) ({ cls := "TextRegions$FrontNames", name := "putByNumber", desc := "()V" } : Jvm.MethodName)) ∈ BIG := inT 433 (by decide +kernel)
theorem bw_435 : (Jvm.Cond.instanceMethod ({ cls := "TextRegions$FrontNames", name := "putByNumber", desc := "()V" } : Jvm.MethodName)) ∈ BIG := inT 435 (by decide +kernel)
theorem bw_436 : (Jvm.Cond.code ({ cls := "TextRegions$FrontNames", name := "putByNumber", desc := "()V" } : Jvm.MethodName) prog_7_method_7_code (2 : Nat) (Option.none : Option Jvm.ClassFile.FieldType)) ∈ BIG := inT 436 (by decide +kernel)
theorem bw_437 : (Jvm.Cond.methodLink "TextRegions$Teller" (62 : Nat) ({ cls := "TextRegions$Teller", name := "tellInstances", desc := "(LTextRegions$Layout;)V" } : Jvm.MethodName)) ∈ BIG := inT 437 (by decide +kernel)
theorem bw_439 : (Jvm.Cond.instanceMethod ({ cls := "TextRegions$Teller", name := "tellInstances", desc := "(LTextRegions$Layout;)V" } : Jvm.MethodName)) ∈ BIG := inT 439 (by decide +kernel)
theorem bw_440 : (Jvm.Cond.code ({ cls := "TextRegions$Teller", name := "tellInstances", desc := "(LTextRegions$Layout;)V" } : Jvm.MethodName) prog_12_method_4_code (12 : Nat) (Option.none : Option Jvm.ClassFile.FieldType)) ∈ BIG := inT 440 (by decide +kernel)
theorem bw_443 : (Jvm.Cond.instanceMethod ({ cls := "TextRegions$Layout", name := "cornerS", desc := "(I)I" } : Jvm.MethodName)) ∈ BIG := inT 443 (by decide +kernel)
theorem bw_444 : (Jvm.Cond.code ({ cls := "TextRegions$Layout", name := "cornerS", desc := "(I)I" } : Jvm.MethodName) prog_8_method_10_code (2 : Nat) (Option.some Jvm.ClassFile.FieldType.int)) ∈ BIG := inT 444 (by decide +kernel)
theorem bw_448 : (Jvm.Cond.instanceMethod ({ cls := "TextRegions$BitWriter", name := "tellSigned", desc := "(I)V" } : Jvm.MethodName)) ∈ BIG := inT 448 (by decide +kernel)
theorem bw_449 : (Jvm.Cond.code ({ cls := "TextRegions$BitWriter", name := "tellSigned", desc := "(I)V" } : Jvm.MethodName) prog_3_method_5_code (2 : Nat) (Option.none : Option Jvm.ClassFile.FieldType)) ∈ BIG := inT 449 (by decide +kernel)
theorem bw_450 : (Jvm.Cond.methodLink "TextRegions$BitWriter" (38 : Nat) ({ cls := "TextRegions$BitWriter", name := "tellNumber", desc := "(I)V" } : Jvm.MethodName)) ∈ BIG := inT 450 (by decide +kernel)
theorem bw_452 : (Jvm.Cond.methodLink "TextRegions$Teller" (82 : Nat) ({ cls := "TextRegions$Names", name := "tellName", desc := "(ILTextRegions$BitWriter;)V" } : Jvm.MethodName)) ∈ BIG := inT 452 (by decide +kernel)
theorem bw_455 : (Jvm.Cond.selects "TextRegions$CodeNames" ({ cls := "TextRegions$Names", name := "tellName", desc := "(ILTextRegions$BitWriter;)V" } : Jvm.MethodName) ({ cls := "TextRegions$CodeNames", name := "tellName", desc := "(ILTextRegions$BitWriter;)V" } : Jvm.MethodName)) ∈ BIG := inT 455 (by decide +kernel)
theorem bw_457 : (Jvm.Cond.instanceMethod ({ cls := "TextRegions$CodeNames", name := "tellName", desc := "(ILTextRegions$BitWriter;)V" } : Jvm.MethodName)) ∈ BIG := inT 457 (by decide +kernel)
theorem bw_459 : (Jvm.Cond.code ({ cls := "TextRegions$CodeNames", name := "tellName", desc := "(ILTextRegions$BitWriter;)V" } : Jvm.MethodName) prog_5_method_4_code (3 : Nat) (Option.none : Option Jvm.ClassFile.FieldType)) ∈ BIG := inT 459 (by decide +kernel)
theorem bw_460 : (Jvm.Cond.selects "TextRegions$FrontNames" ({ cls := "TextRegions$Names", name := "tellName", desc := "(ILTextRegions$BitWriter;)V" } : Jvm.MethodName) ({ cls := "TextRegions$FrontNames", name := "tellName", desc := "(ILTextRegions$BitWriter;)V" } : Jvm.MethodName)) ∈ BIG := inT 460 (by decide +kernel)
theorem bw_462 : (Jvm.Cond.instanceMethod ({ cls := "TextRegions$FrontNames", name := "tellName", desc := "(ILTextRegions$BitWriter;)V" } : Jvm.MethodName)) ∈ BIG := inT 462 (by decide +kernel)
theorem bw_464 : (Jvm.Cond.code ({ cls := "TextRegions$FrontNames", name := "tellName", desc := "(ILTextRegions$BitWriter;)V" } : Jvm.MethodName) prog_7_method_4_code (4 : Nat) (Option.none : Option Jvm.ClassFile.FieldType)) ∈ BIG := inT 464 (by decide +kernel)
theorem bw_466 : (Jvm.Cond.methodLink "TextRegions$FrontNames" (34 : Nat) ({ cls := "TextRegions$FrontNames", name := "toFront", desc := "(I)V" } : Jvm.MethodName)) ∈ BIG := inT 466 (by decide +kernel)
theorem bw_468 : (Jvm.Cond.instanceMethod ({ cls := "TextRegions$FrontNames", name := "toFront", desc := "(I)V" } : Jvm.MethodName)) ∈ BIG := inT 468 (by decide +kernel)
theorem bw_469 : (Jvm.Cond.code ({ cls := "TextRegions$FrontNames", name := "toFront", desc := "(I)V" } : Jvm.MethodName) prog_7_method_8_code (4 : Nat) (Option.none : Option Jvm.ClassFile.FieldType)) ∈ BIG := inT 469 (by decide +kernel)
theorem bw_472 : (Jvm.Cond.instanceMethod ({ cls := "TextRegions$Dictionary", name := "sampleCount", desc := "(I)I" } : Jvm.MethodName)) ∈ BIG := inT 472 (by decide +kernel)
theorem bw_473 : (Jvm.Cond.code ({ cls := "TextRegions$Dictionary", name := "sampleCount", desc := "(I)I" } : Jvm.MethodName) prog_6_method_6_code (2 : Nat) (Option.some Jvm.ClassFile.FieldType.int)) ∈ BIG := inT 473 (by decide +kernel)
theorem bw_474 : (Jvm.Cond.methodLink "TextRegions$Teller" (99 : Nat) ({ cls := "TextRegions$Teller", name := "tellDiffers", desc := "(JI)V" } : Jvm.MethodName)) ∈ BIG := inT 474 (by decide +kernel)
theorem bw_476 : (Jvm.Cond.instanceMethod ({ cls := "TextRegions$Teller", name := "tellDiffers", desc := "(JI)V" } : Jvm.MethodName)) ∈ BIG := inT 476 (by decide +kernel)
theorem bw_477 : (Jvm.Cond.code ({ cls := "TextRegions$Teller", name := "tellDiffers", desc := "(JI)V" } : Jvm.MethodName) prog_12_method_5_code (9 : Nat) (Option.none : Option Jvm.ClassFile.FieldType)) ∈ BIG := inT 477 (by decide +kernel)
theorem bw_478 : (Jvm.Cond.methodLink "TextRegions$Teller" (106 : Nat) ({ cls := "TextRegions$Teller", name := "zerosBelowLowestOne", desc := "(J)I" } : Jvm.MethodName)) ∈ BIG := inT 478 (by decide +kernel)
theorem bw_479 : (Jvm.Cond.static ({ cls := "TextRegions$Teller", name := "zerosBelowLowestOne", desc := "(J)I" } : Jvm.MethodName)) ∈ BIG := inT 479 (by decide +kernel)
theorem bw_480 : (Jvm.Cond.code ({ cls := "TextRegions$Teller", name := "zerosBelowLowestOne", desc := "(J)I" } : Jvm.MethodName) prog_12_method_6_code (2 : Nat) (Option.some Jvm.ClassFile.FieldType.int)) ∈ BIG := inT 480 (by decide +kernel)
theorem bw_481 : (Jvm.Cond.methodLink "TextRegions$Teller" (118 : Nat) ({ cls := "java/lang/Long", name := "bitCount", desc := "(J)I" } : Jvm.MethodName)) ∈ BIG := inT 481 (by decide +kernel)
theorem bw_482 : (Jvm.Cond.static ({ cls := "java/lang/Long", name := "bitCount", desc := "(J)I" } : Jvm.MethodName)) ∈ BIG := inT 482 (by decide +kernel)
theorem bw_483 : (Jvm.Cond.code ({ cls := "java/lang/Long", name := "bitCount", desc := "(J)I" } : Jvm.MethodName) prog_18_method_50_code (2 : Nat) (Option.some Jvm.ClassFile.FieldType.int)) ∈ BIG := inT 483 (by decide +kernel)
theorem bw_484 : (Jvm.Cond.constantLong "java/lang/Long" (314 : Nat) (6148914691236517205 : Int64)) ∈ BIG := inT 484 (by decide +kernel)
theorem bw_485 : (Jvm.Cond.constantLong "java/lang/Long" (316 : Nat) (3689348814741910323 : Int64)) ∈ BIG := inT 485 (by decide +kernel)
theorem bw_486 : (Jvm.Cond.constantLong "java/lang/Long" (318 : Nat) (1085102592571150095 : Int64)) ∈ BIG := inT 486 (by decide +kernel)
theorem bw_487 : (Jvm.Cond.methodLink "TextRegions$Teller" (110 : Nat) ({ cls := "java/lang/Math", name := "min", desc := "(II)I" } : Jvm.MethodName)) ∈ BIG := inT 487 (by decide +kernel)
theorem bw_488 : (Jvm.Cond.constantLong "TextRegions$Teller" (116 : Nat) (-1 : Int64)) ∈ BIG := inT 488 (by decide +kernel)
theorem bw_491 : (Jvm.Cond.instanceMethod ({ cls := "TextRegions$Layout", name := "nextS", desc := "(I)I" } : Jvm.MethodName)) ∈ BIG := inT 491 (by decide +kernel)
theorem bw_492 : (Jvm.Cond.code ({ cls := "TextRegions$Layout", name := "nextS", desc := "(I)I" } : Jvm.MethodName) prog_8_method_13_code (3 : Nat) (Option.some Jvm.ClassFile.FieldType.int)) ∈ BIG := inT 492 (by decide +kernel)
theorem bw_493 : (Jvm.Cond.methodLink "TextRegions$Layout" (73 : Nat) ({ cls := "TextRegions$Layout", name := "cornerS", desc := "(I)I" } : Jvm.MethodName)) ∈ BIG := inT 493 (by decide +kernel)
theorem bw_494 : (Jvm.Cond.methodLink "TextRegionsLaw" (109 : Nat) ({ cls := "TextRegions", name := "read", desc := "()I" } : Jvm.MethodName)) ∈ BIG := inT 494 (by decide +kernel)
theorem bw_495 : (Jvm.Cond.instanceMethod ({ cls := "TextRegions", name := "read", desc := "()I" } : Jvm.MethodName)) ∈ BIG := inT 495 (by decide +kernel)
theorem bw_496 : (Jvm.Cond.selects "TextRegions" ({ cls := "TextRegions", name := "read", desc := "()I" } : Jvm.MethodName) ({ cls := "TextRegions", name := "read", desc := "()I" } : Jvm.MethodName)) ∈ BIG := inT 496 (by decide +kernel)
theorem bw_497 : (Jvm.Cond.code ({ cls := "TextRegions", name := "read", desc := "()I" } : Jvm.MethodName) prog_1_method_14_code (3 : Nat) (Option.some Jvm.ClassFile.FieldType.int)) ∈ BIG := inT 497 (by decide +kernel)
theorem bw_500 : (Jvm.Cond.instanceMethod ({ cls := "TextRegions$Reader", name := "readAll", desc := "(LTextRegions$Layout;)I" } : Jvm.MethodName)) ∈ BIG := inT 500 (by decide +kernel)
theorem bw_501 : (Jvm.Cond.code ({ cls := "TextRegions$Reader", name := "readAll", desc := "(LTextRegions$Layout;)I" } : Jvm.MethodName) prog_11_method_3_code (5 : Nat) (Option.some Jvm.ClassFile.FieldType.int)) ∈ BIG := inT 501 (by decide +kernel)
theorem bw_504 : (Jvm.Cond.instanceMethod ({ cls := "TextRegions$BitReader", name := "start", desc := "()V" } : Jvm.MethodName)) ∈ BIG := inT 504 (by decide +kernel)
theorem bw_505 : (Jvm.Cond.code ({ cls := "TextRegions$BitReader", name := "start", desc := "()V" } : Jvm.MethodName) prog_2_method_2_code (1 : Nat) (Option.none : Option Jvm.ClassFile.FieldType)) ∈ BIG := inT 505 (by decide +kernel)
theorem bw_508 : (Jvm.Cond.instanceMethod ({ cls := "TextRegions$Layout", name := "empty", desc := "()V" } : Jvm.MethodName)) ∈ BIG := inT 508 (by decide +kernel)
theorem bw_509 : (Jvm.Cond.code ({ cls := "TextRegions$Layout", name := "empty", desc := "()V" } : Jvm.MethodName) prog_8_method_2_code (2 : Nat) (Option.none : Option Jvm.ClassFile.FieldType)) ∈ BIG := inT 509 (by decide +kernel)
theorem bw_512 : (Jvm.Cond.instanceMethod ({ cls := "TextRegions$BitReader", name := "nextNumber", desc := "()I" } : Jvm.MethodName)) ∈ BIG := inT 512 (by decide +kernel)
theorem bw_513 : (Jvm.Cond.code ({ cls := "TextRegions$BitReader", name := "nextNumber", desc := "()I" } : Jvm.MethodName) prog_2_method_7_code (4 : Nat) (Option.some Jvm.ClassFile.FieldType.int)) ∈ BIG := inT 513 (by decide +kernel)
theorem bw_514 : (Jvm.Cond.methodLink "TextRegions$BitReader" (31 : Nat) ({ cls := "TextRegions$BitReader", name := "nextBit", desc := "()I" } : Jvm.MethodName)) ∈ BIG := inT 514 (by decide +kernel)
theorem bw_516 : (Jvm.Cond.instanceMethod ({ cls := "TextRegions$BitReader", name := "nextBit", desc := "()I" } : Jvm.MethodName)) ∈ BIG := inT 516 (by decide +kernel)
theorem bw_517 : (Jvm.Cond.code ({ cls := "TextRegions$BitReader", name := "nextBit", desc := "()I" } : Jvm.MethodName) prog_2_method_5_code (2 : Nat) (Option.some Jvm.ClassFile.FieldType.int)) ∈ BIG := inT 517 (by decide +kernel)
theorem bw_518 : (Jvm.Cond.methodLink "TextRegions$BitReader" (35 : Nat) ({ cls := "TextRegions$BitReader", name := "refuse", desc := "(I)V" } : Jvm.MethodName)) ∈ BIG := inT 518 (by decide +kernel)
theorem bw_520 : (Jvm.Cond.instanceMethod ({ cls := "TextRegions$BitReader", name := "refuse", desc := "(I)V" } : Jvm.MethodName)) ∈ BIG := inT 520 (by decide +kernel)
theorem bw_521 : (Jvm.Cond.code ({ cls := "TextRegions$BitReader", name := "refuse", desc := "(I)V" } : Jvm.MethodName) prog_2_method_3_code (2 : Nat) (Option.none : Option Jvm.ClassFile.FieldType)) ∈ BIG := inT 521 (by decide +kernel)
theorem bw_527 : (Jvm.Cond.instanceMethod ({ cls := "TextRegions$BitReader", name := "nextBits", desc := "(I)I" } : Jvm.MethodName)) ∈ BIG := inT 527 (by decide +kernel)
theorem bw_528 : (Jvm.Cond.code ({ cls := "TextRegions$BitReader", name := "nextBits", desc := "(I)I" } : Jvm.MethodName) prog_2_method_6_code (4 : Nat) (Option.some Jvm.ClassFile.FieldType.int)) ∈ BIG := inT 528 (by decide +kernel)
theorem bw_532 : (Jvm.Cond.methodLink "TextRegions$Reader" (58 : Nat) ({ cls := "TextRegions$Names", name := "readTable", desc := "(LTextRegions$BitReader;I)V" } : Jvm.MethodName)) ∈ BIG := inT 532 (by decide +kernel)
theorem bw_535 : (Jvm.Cond.selects "TextRegions$CodeNames" ({ cls := "TextRegions$Names", name := "readTable", desc := "(LTextRegions$BitReader;I)V" } : Jvm.MethodName) ({ cls := "TextRegions$CodeNames", name := "readTable", desc := "(LTextRegions$BitReader;I)V" } : Jvm.MethodName)) ∈ BIG := inT 535 (by decide +kernel)
theorem bw_537 : (Jvm.Cond.instanceMethod ({ cls := "TextRegions$CodeNames", name := "readTable", desc := "(LTextRegions$BitReader;I)V" } : Jvm.MethodName)) ∈ BIG := inT 537 (by decide +kernel)
theorem bw_539 : (Jvm.Cond.code ({ cls := "TextRegions$CodeNames", name := "readTable", desc := "(LTextRegions$BitReader;I)V" } : Jvm.MethodName) prog_5_method_5_code (4 : Nat) (Option.none : Option Jvm.ClassFile.FieldType)) ∈ BIG := inT 539 (by decide +kernel)
theorem bw_541 : (Jvm.Cond.methodLink "TextRegions$CodeNames" (59 : Nat) ({ cls := "TextRegions$CodeNames", name := "areAllowed", desc := "(I)Z" } : Jvm.MethodName)) ∈ BIG := inT 541 (by decide +kernel)
theorem bw_543 : (Jvm.Cond.instanceMethod ({ cls := "TextRegions$CodeNames", name := "areAllowed", desc := "(I)Z" } : Jvm.MethodName)) ∈ BIG := inT 543 (by decide +kernel)
theorem bw_544 : (Jvm.Cond.code ({ cls := "TextRegions$CodeNames", name := "areAllowed", desc := "(I)Z" } : Jvm.MethodName) prog_5_method_11_code (6 : Nat) (Option.some Jvm.ClassFile.FieldType.boolean)) ∈ BIG := inT 544 (by decide +kernel)
theorem bw_545 : (Jvm.Cond.constant "TextRegions$CodeNames" (85 : Nat) (32768 : Int32)) ∈ BIG := inT 545 (by decide +kernel)
theorem bw_547 : (Jvm.Cond.selects "TextRegions$FrontNames" ({ cls := "TextRegions$Names", name := "readTable", desc := "(LTextRegions$BitReader;I)V" } : Jvm.MethodName) ({ cls := "TextRegions$FrontNames", name := "readTable", desc := "(LTextRegions$BitReader;I)V" } : Jvm.MethodName)) ∈ BIG := inT 547 (by decide +kernel)
theorem bw_549 : (Jvm.Cond.instanceMethod ({ cls := "TextRegions$FrontNames", name := "readTable", desc := "(LTextRegions$BitReader;I)V" } : Jvm.MethodName)) ∈ BIG := inT 549 (by decide +kernel)
theorem bw_551 : (Jvm.Cond.code ({ cls := "TextRegions$FrontNames", name := "readTable", desc := "(LTextRegions$BitReader;I)V" } : Jvm.MethodName) prog_7_method_5_code (3 : Nat) (Option.none : Option Jvm.ClassFile.FieldType)) ∈ BIG := inT 551 (by decide +kernel)
theorem bw_552 : (Jvm.Cond.methodLink "TextRegions$Reader" (64 : Nat) ({ cls := "TextRegions$Reader", name := "readInstances", desc := "(LTextRegions$Layout;I)V" } : Jvm.MethodName)) ∈ BIG := inT 552 (by decide +kernel)
theorem bw_554 : (Jvm.Cond.instanceMethod ({ cls := "TextRegions$Reader", name := "readInstances", desc := "(LTextRegions$Layout;I)V" } : Jvm.MethodName)) ∈ BIG := inT 554 (by decide +kernel)
theorem bw_555 : (Jvm.Cond.code ({ cls := "TextRegions$Reader", name := "readInstances", desc := "(LTextRegions$Layout;I)V" } : Jvm.MethodName) prog_11_method_4_code (8 : Nat) (Option.none : Option Jvm.ClassFile.FieldType)) ∈ BIG := inT 555 (by decide +kernel)
theorem bw_558 : (Jvm.Cond.instanceMethod ({ cls := "TextRegions$BitReader", name := "isRefused", desc := "()Z" } : Jvm.MethodName)) ∈ BIG := inT 558 (by decide +kernel)
theorem bw_559 : (Jvm.Cond.code ({ cls := "TextRegions$BitReader", name := "isRefused", desc := "()Z" } : Jvm.MethodName) prog_2_method_4_code (1 : Nat) (Option.some Jvm.ClassFile.FieldType.boolean)) ∈ BIG := inT 559 (by decide +kernel)
theorem bw_563 : (Jvm.Cond.instanceMethod ({ cls := "TextRegions$BitReader", name := "nextSigned", desc := "()I" } : Jvm.MethodName)) ∈ BIG := inT 563 (by decide +kernel)
theorem bw_564 : (Jvm.Cond.code ({ cls := "TextRegions$BitReader", name := "nextSigned", desc := "()I" } : Jvm.MethodName) prog_2_method_8_code (2 : Nat) (Option.some Jvm.ClassFile.FieldType.int)) ∈ BIG := inT 564 (by decide +kernel)
theorem bw_565 : (Jvm.Cond.methodLink "TextRegions$BitReader" (39 : Nat) ({ cls := "TextRegions$BitReader", name := "nextNumber", desc := "()I" } : Jvm.MethodName)) ∈ BIG := inT 565 (by decide +kernel)
theorem bw_566 : (Jvm.Cond.methodLink "TextRegions$Reader" (84 : Nat) ({ cls := "TextRegions$Reader", name := "readPlaced", desc := "(LTextRegions$Layout;II)V" } : Jvm.MethodName)) ∈ BIG := inT 566 (by decide +kernel)
theorem bw_568 : (Jvm.Cond.instanceMethod ({ cls := "TextRegions$Reader", name := "readPlaced", desc := "(LTextRegions$Layout;II)V" } : Jvm.MethodName)) ∈ BIG := inT 568 (by decide +kernel)
theorem bw_569 : (Jvm.Cond.code ({ cls := "TextRegions$Reader", name := "readPlaced", desc := "(LTextRegions$Layout;II)V" } : Jvm.MethodName) prog_11_method_5_code (7 : Nat) (Option.none : Option Jvm.ClassFile.FieldType)) ∈ BIG := inT 569 (by decide +kernel)
theorem bw_571 : (Jvm.Cond.methodLink "TextRegions$Reader" (95 : Nat) ({ cls := "TextRegions$Names", name := "readName", desc := "(LTextRegions$BitReader;)I" } : Jvm.MethodName)) ∈ BIG := inT 571 (by decide +kernel)
theorem bw_574 : (Jvm.Cond.selects "TextRegions$CodeNames" ({ cls := "TextRegions$Names", name := "readName", desc := "(LTextRegions$BitReader;)I" } : Jvm.MethodName) ({ cls := "TextRegions$CodeNames", name := "readName", desc := "(LTextRegions$BitReader;)I" } : Jvm.MethodName)) ∈ BIG := inT 574 (by decide +kernel)
theorem bw_576 : (Jvm.Cond.instanceMethod ({ cls := "TextRegions$CodeNames", name := "readName", desc := "(LTextRegions$BitReader;)I" } : Jvm.MethodName)) ∈ BIG := inT 576 (by decide +kernel)
theorem bw_578 : (Jvm.Cond.code ({ cls := "TextRegions$CodeNames", name := "readName", desc := "(LTextRegions$BitReader;)I" } : Jvm.MethodName) prog_5_method_6_code (6 : Nat) (Option.some Jvm.ClassFile.FieldType.int)) ∈ BIG := inT 578 (by decide +kernel)
theorem bw_579 : (Jvm.Cond.methodLink "TextRegions$CodeNames" (67 : Nat) ({ cls := "java/lang/Math", name := "max", desc := "(II)I" } : Jvm.MethodName)) ∈ BIG := inT 579 (by decide +kernel)
theorem bw_581 : (Jvm.Cond.methodLink "TextRegions$CodeNames" (77 : Nat) ({ cls := "TextRegions$CodeNames", name := "symbolOf", desc := "(II)I" } : Jvm.MethodName)) ∈ BIG := inT 581 (by decide +kernel)
theorem bw_583 : (Jvm.Cond.instanceMethod ({ cls := "TextRegions$CodeNames", name := "symbolOf", desc := "(II)I" } : Jvm.MethodName)) ∈ BIG := inT 583 (by decide +kernel)
theorem bw_584 : (Jvm.Cond.code ({ cls := "TextRegions$CodeNames", name := "symbolOf", desc := "(II)I" } : Jvm.MethodName) prog_5_method_7_code (4 : Nat) (Option.some Jvm.ClassFile.FieldType.int)) ∈ BIG := inT 584 (by decide +kernel)
theorem bw_585 : (Jvm.Cond.selects "TextRegions$FrontNames" ({ cls := "TextRegions$Names", name := "readName", desc := "(LTextRegions$BitReader;)I" } : Jvm.MethodName) ({ cls := "TextRegions$FrontNames", name := "readName", desc := "(LTextRegions$BitReader;)I" } : Jvm.MethodName)) ∈ BIG := inT 585 (by decide +kernel)
theorem bw_587 : (Jvm.Cond.instanceMethod ({ cls := "TextRegions$FrontNames", name := "readName", desc := "(LTextRegions$BitReader;)I" } : Jvm.MethodName)) ∈ BIG := inT 587 (by decide +kernel)
theorem bw_589 : (Jvm.Cond.code ({ cls := "TextRegions$FrontNames", name := "readName", desc := "(LTextRegions$BitReader;)I" } : Jvm.MethodName) prog_7_method_6_code (3 : Nat) (Option.some Jvm.ClassFile.FieldType.int)) ∈ BIG := inT 589 (by decide +kernel)
theorem bw_595 : (Jvm.Cond.instanceMethod ({ cls := "TextRegions$Layout", name := "addByCorner", desc := "(III)Z" } : Jvm.MethodName)) ∈ BIG := inT 595 (by decide +kernel)
theorem bw_596 : (Jvm.Cond.code ({ cls := "TextRegions$Layout", name := "addByCorner", desc := "(III)Z" } : Jvm.MethodName) prog_8_method_5_code (6 : Nat) (Option.some Jvm.ClassFile.FieldType.boolean)) ∈ BIG := inT 596 (by decide +kernel)
theorem bw_598 : (Jvm.Cond.static ({ cls := "TextRegions", name := "isPlace", desc := "(I)Z" } : Jvm.MethodName)) ∈ BIG := inT 598 (by decide +kernel)
theorem bw_599 : (Jvm.Cond.code ({ cls := "TextRegions", name := "isPlace", desc := "(I)Z" } : Jvm.MethodName) prog_1_method_21_code (1 : Nat) (Option.some Jvm.ClassFile.FieldType.boolean)) ∈ BIG := inT 599 (by decide +kernel)
theorem bw_600 : (Jvm.Cond.methodLink "TextRegions" (90 : Nat) ({ cls := "TextRegions", name := "isWithin", desc := "(III)Z" } : Jvm.MethodName)) ∈ BIG := inT 600 (by decide +kernel)
theorem bw_601 : (Jvm.Cond.methodLink "TextRegions$Layout" (58 : Nat) ({ cls := "TextRegions$Layout", name := "add", desc := "(III)I" } : Jvm.MethodName)) ∈ BIG := inT 601 (by decide +kernel)
theorem bw_603 : (Jvm.Cond.instanceMethod ({ cls := "TextRegions$Layout", name := "add", desc := "(III)I" } : Jvm.MethodName)) ∈ BIG := inT 603 (by decide +kernel)
theorem bw_604 : (Jvm.Cond.code ({ cls := "TextRegions$Layout", name := "add", desc := "(III)I" } : Jvm.MethodName) prog_8_method_4_code (4 : Nat) (Option.some Jvm.ClassFile.FieldType.int)) ∈ BIG := inT 604 (by decide +kernel)
theorem bw_605 : (Jvm.Cond.methodLink "TextRegions$Reader" (88 : Nat) ({ cls := "TextRegions$Reader", name := "readDiffers", desc := "(LTextRegions$Layout;)V" } : Jvm.MethodName)) ∈ BIG := inT 605 (by decide +kernel)
theorem bw_607 : (Jvm.Cond.instanceMethod ({ cls := "TextRegions$Reader", name := "readDiffers", desc := "(LTextRegions$Layout;)V" } : Jvm.MethodName)) ∈ BIG := inT 607 (by decide +kernel)
theorem bw_608 : (Jvm.Cond.code ({ cls := "TextRegions$Reader", name := "readDiffers", desc := "(LTextRegions$Layout;)V" } : Jvm.MethodName) prog_11_method_6_code (8 : Nat) (Option.none : Option Jvm.ClassFile.FieldType)) ∈ BIG := inT 608 (by decide +kernel)
theorem bw_612 : (Jvm.Cond.static ({ cls := "TextRegions", name := "withBit", desc := "(JIZ)J" } : Jvm.MethodName)) ∈ BIG := inT 612 (by decide +kernel)
theorem bw_613 : (Jvm.Cond.code ({ cls := "TextRegions", name := "withBit", desc := "(JIZ)J" } : Jvm.MethodName) prog_1_method_22_code (4 : Nat) (Option.some Jvm.ClassFile.FieldType.long)) ∈ BIG := inT 613 (by decide +kernel)
theorem bw_614 : (Jvm.Cond.constantLong "TextRegions" (273 : Nat) (-1 : Int64)) ∈ BIG := inT 614 (by decide +kernel)
theorem bw_617 : (Jvm.Cond.instanceMethod ({ cls := "TextRegions$BitReader", name := "readEnd", desc := "()V" } : Jvm.MethodName)) ∈ BIG := inT 617 (by decide +kernel)
theorem bw_618 : (Jvm.Cond.code ({ cls := "TextRegions$BitReader", name := "readEnd", desc := "()V" } : Jvm.MethodName) prog_2_method_9_code (2 : Nat) (Option.none : Option Jvm.ClassFile.FieldType)) ∈ BIG := inT 618 (by decide +kernel)
theorem bw_621 : (Jvm.Cond.instanceMethod ({ cls := "TextRegions$Reader", name := "bitsRead", desc := "()I" } : Jvm.MethodName)) ∈ BIG := inT 621 (by decide +kernel)
theorem bw_622 : (Jvm.Cond.code ({ cls := "TextRegions$Reader", name := "bitsRead", desc := "()I" } : Jvm.MethodName) prog_11_method_2_code (1 : Nat) (Option.some Jvm.ClassFile.FieldType.int)) ∈ BIG := inT 622 (by decide +kernel)
theorem bw_623 : (Jvm.Cond.methodLink "TextRegionsLaw" (119 : Nat) ({ cls := "TextRegions", name := "told", desc := "(I)I" } : Jvm.MethodName)) ∈ BIG := inT 623 (by decide +kernel)
theorem bw_624 : (Jvm.Cond.instanceMethod ({ cls := "TextRegions", name := "told", desc := "(I)I" } : Jvm.MethodName)) ∈ BIG := inT 624 (by decide +kernel)
theorem bw_625 : (Jvm.Cond.selects "TextRegions" ({ cls := "TextRegions", name := "told", desc := "(I)I" } : Jvm.MethodName) ({ cls := "TextRegions", name := "told", desc := "(I)I" } : Jvm.MethodName)) ∈ BIG := inT 625 (by decide +kernel)
theorem bw_626 : (Jvm.Cond.code ({ cls := "TextRegions", name := "told", desc := "(I)I" } : Jvm.MethodName) prog_1_method_16_code (2 : Nat) (Option.some Jvm.ClassFile.FieldType.int)) ∈ BIG := inT 626 (by decide +kernel)
theorem bw_627 : (Jvm.Cond.methodLink "TextRegionsLaw" (123 : Nat) ({ cls := "TextRegions", name := "clear", desc := "()V" } : Jvm.MethodName)) ∈ BIG := inT 627 (by decide +kernel)
theorem bw_628 : (Jvm.Cond.instanceMethod ({ cls := "TextRegions", name := "clear", desc := "()V" } : Jvm.MethodName)) ∈ BIG := inT 628 (by decide +kernel)
theorem bw_629 : (Jvm.Cond.selects "TextRegions" ({ cls := "TextRegions", name := "clear", desc := "()V" } : Jvm.MethodName) ({ cls := "TextRegions", name := "clear", desc := "()V" } : Jvm.MethodName)) ∈ BIG := inT 629 (by decide +kernel)
theorem bw_630 : (Jvm.Cond.code ({ cls := "TextRegions", name := "clear", desc := "()V" } : Jvm.MethodName) prog_1_method_17_code (1 : Nat) (Option.none : Option Jvm.ClassFile.FieldType)) ∈ BIG := inT 630 (by decide +kernel)
theorem bw_632 : (Jvm.Cond.methodLink "TextRegionsLaw" (54 : Nat) ({ cls := "TextRegionsLaw", name := "cell", desc := "([II)I" } : Jvm.MethodName)) ∈ BIG := inT 632 (by decide +kernel)
theorem bw_633 : (Jvm.Cond.static ({ cls := "TextRegionsLaw", name := "cell", desc := "([II)I" } : Jvm.MethodName)) ∈ BIG := inT 633 (by decide +kernel)
theorem bw_634 : (Jvm.Cond.code ({ cls := "TextRegionsLaw", name := "cell", desc := "([II)I" } : Jvm.MethodName) method_2_code (2 : Nat) (Option.some Jvm.ClassFile.FieldType.int)) ∈ BIG := inT 634 (by decide +kernel)
theorem bw_635 : (Jvm.Cond.methodLink "TextRegionsLaw" (66 : Nat) ({ cls := "TextRegionsLaw", name := "symbol", desc := "(LTextRegions;II[J)I" } : Jvm.MethodName)) ∈ BIG := inT 635 (by decide +kernel)
theorem bw_636 : (Jvm.Cond.static ({ cls := "TextRegionsLaw", name := "symbol", desc := "(LTextRegions;II[J)I" } : Jvm.MethodName)) ∈ BIG := inT 636 (by decide +kernel)
theorem bw_637 : (Jvm.Cond.codeWith ({ cls := "TextRegionsLaw", name := "symbol", desc := "(LTextRegions;II[J)I" } : Jvm.MethodName) method_3_code (5 : Nat) (Option.some Jvm.ClassFile.FieldType.int) [((0 : Nat), (10 : Nat), (13 : Nat), (13 : Nat)), ((0 : Nat), (10 : Nat), (17 : Nat), (15 : Nat))]) ∈ BIG := inT 637 (by decide +kernel)
theorem bw_638 : (Jvm.Cond.classLink "TextRegionsLaw" (13 : Nat) "java/lang/IllegalArgumentException") ∈ BIG := inT 638 (by decide +kernel)
theorem bw_639 : (Jvm.Cond.classLink "TextRegionsLaw" (15 : Nat) "java/lang/UnsupportedOperationException") ∈ BIG := inT 639 (by decide +kernel)
theorem bw_640 : (Jvm.Cond.methodLink "TextRegionsLaw" (7 : Nat) ({ cls := "TextRegions", name := "symbol", desc := "(II)I" } : Jvm.MethodName)) ∈ BIG := inT 640 (by decide +kernel)
theorem bw_641 : (Jvm.Cond.instanceMethod ({ cls := "TextRegions", name := "symbol", desc := "(II)I" } : Jvm.MethodName)) ∈ BIG := inT 641 (by decide +kernel)
theorem bw_642 : (Jvm.Cond.selects "TextRegions" ({ cls := "TextRegions", name := "symbol", desc := "(II)I" } : Jvm.MethodName) ({ cls := "TextRegions", name := "symbol", desc := "(II)I" } : Jvm.MethodName)) ∈ BIG := inT 642 (by decide +kernel)
theorem bw_643 : (Jvm.Cond.code ({ cls := "TextRegions", name := "symbol", desc := "(II)I" } : Jvm.MethodName) prog_1_method_2_code (3 : Nat) (Option.some Jvm.ClassFile.FieldType.int)) ∈ BIG := inT 643 (by decide +kernel)
theorem bw_644 : (Jvm.Cond.classLink "TextRegions" (94 : Nat) "java/lang/IllegalArgumentException") ∈ BIG := inT 644 (by decide +kernel)
theorem bw_645 : (Jvm.Cond.instantiable "java/lang/IllegalArgumentException" (6 : Nat)) ∈ BIG := inT 645 (by decide +kernel)
theorem bw_653 : (Jvm.Cond.selects "java/lang/IllegalArgumentException" ({ cls := "java/lang/Throwable", name := "fillInStackTrace", desc := "(I)Ljava/lang/Throwable;" } : Jvm.MethodName) ({ cls := "java/lang/Throwable", name := "fillInStackTrace", desc := "(I)Ljava/lang/Throwable;" } : Jvm.MethodName)) ∈ BIG := inT 653 (by decide +kernel)
theorem bw_654 : (Jvm.Cond.selects "java/lang/IllegalArgumentException" ({ cls := "java/lang/Throwable", name := "fillInStackTrace", desc := "()Ljava/lang/Throwable;" } : Jvm.MethodName) ({ cls := "java/lang/Throwable", name := "fillInStackTrace", desc := "()Ljava/lang/Throwable;" } : Jvm.MethodName)) ∈ BIG := inT 654 (by decide +kernel)
theorem bw_655 : (Jvm.Cond.lays "java/lang/IllegalArgumentException" "java/lang/Throwable" "cause" "Ljava/lang/Throwable;") ∈ BIG := inT 655 (by decide +kernel)
theorem bw_656 : (Jvm.Cond.lays "java/lang/Throwable" "java/lang/Throwable" "cause" "Ljava/lang/Throwable;") ∈ BIG := inT 656 (by decide +kernel)
theorem bw_657 : (Jvm.Cond.lays "java/lang/IllegalArgumentException" "java/lang/Throwable" "stackTrace" "[Ljava/lang/StackTraceElement;") ∈ BIG := inT 657 (by decide +kernel)
theorem bw_658 : (Jvm.Cond.lays "java/lang/Throwable" "java/lang/Throwable" "stackTrace" "[Ljava/lang/StackTraceElement;") ∈ BIG := inT 658 (by decide +kernel)
theorem bw_659 : (Jvm.Cond.lays "java/lang/IllegalArgumentException" "java/lang/Throwable" "suppressedExceptions" "Ljava/util/List;") ∈ BIG := inT 659 (by decide +kernel)
theorem bw_660 : (Jvm.Cond.lays "java/lang/Throwable" "java/lang/Throwable" "suppressedExceptions" "Ljava/util/List;") ∈ BIG := inT 660 (by decide +kernel)
theorem bw_661 : (Jvm.Cond.lays "java/lang/IllegalArgumentException" "java/lang/Throwable" "detailMessage" "Ljava/lang/String;") ∈ BIG := inT 661 (by decide +kernel)
theorem bw_662 : (Jvm.Cond.lays "java/lang/Throwable" "java/lang/Throwable" "detailMessage" "Ljava/lang/String;") ∈ BIG := inT 662 (by decide +kernel)
theorem bw_663 : (Jvm.Cond.lays "java/lang/IllegalArgumentException" "java/lang/Throwable" "backtrace" "Ljava/lang/Object;") ∈ BIG := inT 663 (by decide +kernel)
theorem bw_664 : (Jvm.Cond.lays "java/lang/Throwable" "java/lang/Throwable" "backtrace" "Ljava/lang/Object;") ∈ BIG := inT 664 (by decide +kernel)
theorem bw_665 : (Jvm.Cond.fieldLink "java/lang/Throwable" (198 : Nat) "java/lang/Throwable" "backtrace" "Ljava/lang/Object;") ∈ BIG := inT 665 (by decide +kernel)
theorem bw_667 : (Jvm.Cond.instanceMethod ({ cls := "java/lang/Throwable", name := "<init>", desc := "()V" } : Jvm.MethodName)) ∈ BIG := inT 667 (by decide +kernel)
theorem bw_668 : (Jvm.Cond.code ({ cls := "java/lang/Throwable", name := "<init>", desc := "()V" } : Jvm.MethodName) prog_22_method_1_code (1 : Nat) (Option.none : Option Jvm.ClassFile.FieldType)) ∈ BIG := inT 668 (by decide +kernel)
theorem bw_669 : (Jvm.Cond.methodLink "java/lang/Throwable" (1 : Nat) ({ cls := "java/lang/Object", name := "<init>", desc := "()V" } : Jvm.MethodName)) ∈ BIG := inT 669 (by decide +kernel)
theorem bw_670 : (Jvm.Cond.fieldLink "java/lang/Throwable" (13 : Nat) "java/lang/Throwable" "UNASSIGNED_STACK" "[Ljava/lang/StackTraceElement;") ∈ BIG := inT 670 (by decide +kernel)
theorem bw_672 : (Jvm.Cond.fieldLink "java/lang/Throwable" (20 : Nat) "java/lang/Throwable" "SUPPRESSED_SENTINEL" "Ljava/util/List;") ∈ BIG := inT 672 (by decide +kernel)
theorem bw_674 : (Jvm.Cond.methodLink "java/lang/Throwable" (27 : Nat) ({ cls := "java/lang/Throwable", name := "fillInStackTrace", desc := "()Ljava/lang/Throwable;" } : Jvm.MethodName)) ∈ BIG := inT 674 (by decide +kernel)
theorem bw_675 : (Jvm.Cond.instanceMethod ({ cls := "java/lang/Throwable", name := "fillInStackTrace", desc := "()Ljava/lang/Throwable;" } : Jvm.MethodName)) ∈ BIG := inT 675 (by decide +kernel)
theorem bw_677 : (Jvm.Cond.selects "java/lang/IndexOutOfBoundsException" ({ cls := "java/lang/Throwable", name := "fillInStackTrace", desc := "()Ljava/lang/Throwable;" } : Jvm.MethodName) ({ cls := "java/lang/Throwable", name := "fillInStackTrace", desc := "()Ljava/lang/Throwable;" } : Jvm.MethodName)) ∈ BIG := inT 677 (by decide +kernel)
theorem bw_678 : (Jvm.Cond.selects "java/lang/UnsupportedOperationException" ({ cls := "java/lang/Throwable", name := "fillInStackTrace", desc := "()Ljava/lang/Throwable;" } : Jvm.MethodName) ({ cls := "java/lang/Throwable", name := "fillInStackTrace", desc := "()Ljava/lang/Throwable;" } : Jvm.MethodName)) ∈ BIG := inT 678 (by decide +kernel)
theorem bw_680 : (Jvm.Cond.methodLink "java/lang/Throwable" (202 : Nat) ({ cls := "java/lang/Throwable", name := "fillInStackTrace", desc := "(I)Ljava/lang/Throwable;" } : Jvm.MethodName)) ∈ BIG := inT 680 (by decide +kernel)
theorem bw_682 : (Jvm.Cond.instanceMethod ({ cls := "java/lang/Throwable", name := "fillInStackTrace", desc := "(I)Ljava/lang/Throwable;" } : Jvm.MethodName)) ∈ BIG := inT 682 (by decide +kernel)
theorem bw_683 : (Jvm.Cond.instantiable "java/lang/Throwable" (6 : Nat)) ∈ BIG := inT 683 (by decide +kernel)
theorem bw_686 : (Jvm.Cond.methodLink "TextRegions" (98 : Nat) ({ cls := "java/lang/IllegalArgumentException", name := "<init>", desc := "(Ljava/lang/String;)V" } : Jvm.MethodName)) ∈ BIG := inT 686 (by decide +kernel)
theorem bw_687 : (Jvm.Cond.instanceMethod ({ cls := "java/lang/IllegalArgumentException", name := "<init>", desc := "(Ljava/lang/String;)V" } : Jvm.MethodName)) ∈ BIG := inT 687 (by decide +kernel)
theorem bw_688 : (Jvm.Cond.code ({ cls := "java/lang/IllegalArgumentException", name := "<init>", desc := "(Ljava/lang/String;)V" } : Jvm.MethodName) prog_16_method_2_code (2 : Nat) (Option.none : Option Jvm.ClassFile.FieldType)) ∈ BIG := inT 688 (by decide +kernel)
theorem bw_689 : (Jvm.Cond.methodLink "java/lang/IllegalArgumentException" (7 : Nat) ({ cls := "java/lang/RuntimeException", name := "<init>", desc := "(Ljava/lang/String;)V" } : Jvm.MethodName)) ∈ BIG := inT 689 (by decide +kernel)
theorem bw_690 : (Jvm.Cond.instanceMethod ({ cls := "java/lang/RuntimeException", name := "<init>", desc := "(Ljava/lang/String;)V" } : Jvm.MethodName)) ∈ BIG := inT 690 (by decide +kernel)
theorem bw_691 : (Jvm.Cond.code ({ cls := "java/lang/RuntimeException", name := "<init>", desc := "(Ljava/lang/String;)V" } : Jvm.MethodName) prog_20_method_2_code (2 : Nat) (Option.none : Option Jvm.ClassFile.FieldType)) ∈ BIG := inT 691 (by decide +kernel)
theorem bw_692 : (Jvm.Cond.methodLink "java/lang/RuntimeException" (7 : Nat) ({ cls := "java/lang/Exception", name := "<init>", desc := "(Ljava/lang/String;)V" } : Jvm.MethodName)) ∈ BIG := inT 692 (by decide +kernel)
theorem bw_693 : (Jvm.Cond.instanceMethod ({ cls := "java/lang/Exception", name := "<init>", desc := "(Ljava/lang/String;)V" } : Jvm.MethodName)) ∈ BIG := inT 693 (by decide +kernel)
theorem bw_694 : (Jvm.Cond.code ({ cls := "java/lang/Exception", name := "<init>", desc := "(Ljava/lang/String;)V" } : Jvm.MethodName) prog_15_method_2_code (2 : Nat) (Option.none : Option Jvm.ClassFile.FieldType)) ∈ BIG := inT 694 (by decide +kernel)
theorem bw_695 : (Jvm.Cond.methodLink "java/lang/Exception" (7 : Nat) ({ cls := "java/lang/Throwable", name := "<init>", desc := "(Ljava/lang/String;)V" } : Jvm.MethodName)) ∈ BIG := inT 695 (by decide +kernel)
theorem bw_696 : (Jvm.Cond.instanceMethod ({ cls := "java/lang/Throwable", name := "<init>", desc := "(Ljava/lang/String;)V" } : Jvm.MethodName)) ∈ BIG := inT 696 (by decide +kernel)
theorem bw_697 : (Jvm.Cond.code ({ cls := "java/lang/Throwable", name := "<init>", desc := "(Ljava/lang/String;)V" } : Jvm.MethodName) prog_22_method_2_code (2 : Nat) (Option.none : Option Jvm.ClassFile.FieldType)) ∈ BIG := inT 697 (by decide +kernel)
theorem bw_698 : (Jvm.Cond.fieldLink "java/lang/Throwable" (198 : Nat) "java/lang/Throwable" "backtrace" "Ljava/lang/Object;") ∈ BIG := inT 698 (by decide +kernel)
theorem bw_699 : (Jvm.Cond.fieldLink "java/lang/Throwable" (31 : Nat) "java/lang/Throwable" "detailMessage" "Ljava/lang/String;") ∈ BIG := inT 699 (by decide +kernel)
theorem bw_700 : (Jvm.Cond.fieldLink "java/lang/Throwable" (7 : Nat) "java/lang/Throwable" "cause" "Ljava/lang/Throwable;") ∈ BIG := inT 700 (by decide +kernel)
theorem bw_701 : (Jvm.Cond.fieldLink "java/lang/Throwable" (17 : Nat) "java/lang/Throwable" "stackTrace" "[Ljava/lang/StackTraceElement;") ∈ BIG := inT 701 (by decide +kernel)
theorem bw_702 : (Jvm.Cond.fieldLink "java/lang/Throwable" (24 : Nat) "java/lang/Throwable" "suppressedExceptions" "Ljava/util/List;") ∈ BIG := inT 702 (by decide +kernel)
theorem bw_707 : (Jvm.Cond.lays "java/lang/IllegalArgumentException" "java/lang/Throwable" "depth" "I") ∈ BIG := inT 707 (by decide +kernel)
theorem bw_711 : (Jvm.Cond.arrayClass Jvm.ClassFile.FieldType.byte) ∈ BIG := inT 711 (by decide +kernel)
theorem bw_712 : (Jvm.Cond.classLink "TextRegions" (104 : Nat) "java/lang/UnsupportedOperationException") ∈ BIG := inT 712 (by decide +kernel)
theorem bw_713 : (Jvm.Cond.instantiable "java/lang/UnsupportedOperationException" (6 : Nat)) ∈ BIG := inT 713 (by decide +kernel)
theorem bw_715 : (Jvm.Cond.selects "java/lang/UnsupportedOperationException" ({ cls := "java/lang/Throwable", name := "fillInStackTrace", desc := "(I)Ljava/lang/Throwable;" } : Jvm.MethodName) ({ cls := "java/lang/Throwable", name := "fillInStackTrace", desc := "(I)Ljava/lang/Throwable;" } : Jvm.MethodName)) ∈ BIG := inT 715 (by decide +kernel)
theorem bw_716 : (Jvm.Cond.lays "java/lang/UnsupportedOperationException" "java/lang/Throwable" "cause" "Ljava/lang/Throwable;") ∈ BIG := inT 716 (by decide +kernel)
theorem bw_717 : (Jvm.Cond.lays "java/lang/UnsupportedOperationException" "java/lang/Throwable" "stackTrace" "[Ljava/lang/StackTraceElement;") ∈ BIG := inT 717 (by decide +kernel)
theorem bw_718 : (Jvm.Cond.lays "java/lang/UnsupportedOperationException" "java/lang/Throwable" "suppressedExceptions" "Ljava/util/List;") ∈ BIG := inT 718 (by decide +kernel)
theorem bw_719 : (Jvm.Cond.lays "java/lang/UnsupportedOperationException" "java/lang/Throwable" "detailMessage" "Ljava/lang/String;") ∈ BIG := inT 719 (by decide +kernel)
theorem bw_720 : (Jvm.Cond.lays "java/lang/UnsupportedOperationException" "java/lang/Throwable" "backtrace" "Ljava/lang/Object;") ∈ BIG := inT 720 (by decide +kernel)
theorem bw_722 : (Jvm.Cond.methodLink "TextRegions" (108 : Nat) ({ cls := "java/lang/UnsupportedOperationException", name := "<init>", desc := "(Ljava/lang/String;)V" } : Jvm.MethodName)) ∈ BIG := inT 722 (by decide +kernel)
theorem bw_723 : (Jvm.Cond.instanceMethod ({ cls := "java/lang/UnsupportedOperationException", name := "<init>", desc := "(Ljava/lang/String;)V" } : Jvm.MethodName)) ∈ BIG := inT 723 (by decide +kernel)
theorem bw_724 : (Jvm.Cond.code ({ cls := "java/lang/UnsupportedOperationException", name := "<init>", desc := "(Ljava/lang/String;)V" } : Jvm.MethodName) prog_23_method_2_code (2 : Nat) (Option.none : Option Jvm.ClassFile.FieldType)) ∈ BIG := inT 724 (by decide +kernel)
theorem bw_725 : (Jvm.Cond.methodLink "java/lang/UnsupportedOperationException" (7 : Nat) ({ cls := "java/lang/RuntimeException", name := "<init>", desc := "(Ljava/lang/String;)V" } : Jvm.MethodName)) ∈ BIG := inT 725 (by decide +kernel)
theorem bw_726 : (Jvm.Cond.lays "java/lang/UnsupportedOperationException" "java/lang/Throwable" "depth" "I") ∈ BIG := inT 726 (by decide +kernel)
theorem bw_730 : (Jvm.Cond.instanceMethod ({ cls := "TextRegions$Dictionary", name := "add", desc := "(II)I" } : Jvm.MethodName)) ∈ BIG := inT 730 (by decide +kernel)
theorem bw_731 : (Jvm.Cond.code ({ cls := "TextRegions$Dictionary", name := "add", desc := "(II)I" } : Jvm.MethodName) prog_6_method_2_code (3 : Nat) (Option.some Jvm.ClassFile.FieldType.int)) ∈ BIG := inT 731 (by decide +kernel)
theorem bw_732 : (Jvm.Cond.methodLink "TextRegionsLaw" (70 : Nat) ({ cls := "TextRegionsLaw", name := "put", desc := "(LTextRegions;IIIZ[J)I" } : Jvm.MethodName)) ∈ BIG := inT 732 (by decide +kernel)
theorem bw_733 : (Jvm.Cond.static ({ cls := "TextRegionsLaw", name := "put", desc := "(LTextRegions;IIIZ[J)I" } : Jvm.MethodName)) ∈ BIG := inT 733 (by decide +kernel)
theorem bw_734 : (Jvm.Cond.codeWith ({ cls := "TextRegionsLaw", name := "put", desc := "(LTextRegions;IIIZ[J)I" } : Jvm.MethodName) method_4_code (7 : Nat) (Option.some Jvm.ClassFile.FieldType.int) [((0 : Nat), (21 : Nat), (24 : Nat), (21 : Nat))]) ∈ BIG := inT 734 (by decide +kernel)
theorem bw_735 : (Jvm.Cond.classLink "TextRegionsLaw" (21 : Nat) "java/lang/IndexOutOfBoundsException") ∈ BIG := inT 735 (by decide +kernel)
theorem bw_736 : (Jvm.Cond.methodLink "TextRegionsLaw" (17 : Nat) ({ cls := "TextRegions", name := "put", desc := "(IIIZ)Z" } : Jvm.MethodName)) ∈ BIG := inT 736 (by decide +kernel)
theorem bw_737 : (Jvm.Cond.instanceMethod ({ cls := "TextRegions", name := "put", desc := "(IIIZ)Z" } : Jvm.MethodName)) ∈ BIG := inT 737 (by decide +kernel)
theorem bw_738 : (Jvm.Cond.selects "TextRegions" ({ cls := "TextRegions", name := "put", desc := "(IIIZ)Z" } : Jvm.MethodName) ({ cls := "TextRegions", name := "put", desc := "(IIIZ)Z" } : Jvm.MethodName)) ∈ BIG := inT 738 (by decide +kernel)
theorem bw_739 : (Jvm.Cond.code ({ cls := "TextRegions", name := "put", desc := "(IIIZ)Z" } : Jvm.MethodName) prog_1_method_3_code (7 : Nat) (Option.some Jvm.ClassFile.FieldType.boolean)) ∈ BIG := inT 739 (by decide +kernel)
theorem bw_742 : (Jvm.Cond.instanceMethod ({ cls := "TextRegions$Dictionary", name := "has", desc := "(I)Z" } : Jvm.MethodName)) ∈ BIG := inT 742 (by decide +kernel)
theorem bw_743 : (Jvm.Cond.code ({ cls := "TextRegions$Dictionary", name := "has", desc := "(I)Z" } : Jvm.MethodName) prog_6_method_3_code (2 : Nat) (Option.some Jvm.ClassFile.FieldType.boolean)) ∈ BIG := inT 743 (by decide +kernel)
theorem bw_747 : (Jvm.Cond.instanceMethod ({ cls := "TextRegions$Dictionary", name := "hasSample", desc := "(III)Z" } : Jvm.MethodName)) ∈ BIG := inT 747 (by decide +kernel)
theorem bw_748 : (Jvm.Cond.code ({ cls := "TextRegions$Dictionary", name := "hasSample", desc := "(III)Z" } : Jvm.MethodName) prog_6_method_4_code (4 : Nat) (Option.some Jvm.ClassFile.FieldType.boolean)) ∈ BIG := inT 748 (by decide +kernel)
theorem bw_749 : (Jvm.Cond.classLink "TextRegions" (120 : Nat) "java/lang/IndexOutOfBoundsException") ∈ BIG := inT 749 (by decide +kernel)
theorem bw_750 : (Jvm.Cond.instantiable "java/lang/IndexOutOfBoundsException" (6 : Nat)) ∈ BIG := inT 750 (by decide +kernel)
theorem bw_752 : (Jvm.Cond.selects "java/lang/IndexOutOfBoundsException" ({ cls := "java/lang/Throwable", name := "fillInStackTrace", desc := "(I)Ljava/lang/Throwable;" } : Jvm.MethodName) ({ cls := "java/lang/Throwable", name := "fillInStackTrace", desc := "(I)Ljava/lang/Throwable;" } : Jvm.MethodName)) ∈ BIG := inT 752 (by decide +kernel)
theorem bw_753 : (Jvm.Cond.lays "java/lang/IndexOutOfBoundsException" "java/lang/Throwable" "cause" "Ljava/lang/Throwable;") ∈ BIG := inT 753 (by decide +kernel)
theorem bw_754 : (Jvm.Cond.lays "java/lang/IndexOutOfBoundsException" "java/lang/Throwable" "stackTrace" "[Ljava/lang/StackTraceElement;") ∈ BIG := inT 754 (by decide +kernel)
theorem bw_755 : (Jvm.Cond.lays "java/lang/IndexOutOfBoundsException" "java/lang/Throwable" "suppressedExceptions" "Ljava/util/List;") ∈ BIG := inT 755 (by decide +kernel)
theorem bw_756 : (Jvm.Cond.lays "java/lang/IndexOutOfBoundsException" "java/lang/Throwable" "detailMessage" "Ljava/lang/String;") ∈ BIG := inT 756 (by decide +kernel)
theorem bw_757 : (Jvm.Cond.lays "java/lang/IndexOutOfBoundsException" "java/lang/Throwable" "backtrace" "Ljava/lang/Object;") ∈ BIG := inT 757 (by decide +kernel)
theorem bw_759 : (Jvm.Cond.methodLink "TextRegions" (124 : Nat) ({ cls := "java/lang/IndexOutOfBoundsException", name := "<init>", desc := "(Ljava/lang/String;)V" } : Jvm.MethodName)) ∈ BIG := inT 759 (by decide +kernel)
theorem bw_760 : (Jvm.Cond.instanceMethod ({ cls := "java/lang/IndexOutOfBoundsException", name := "<init>", desc := "(Ljava/lang/String;)V" } : Jvm.MethodName)) ∈ BIG := inT 760 (by decide +kernel)
theorem bw_761 : (Jvm.Cond.code ({ cls := "java/lang/IndexOutOfBoundsException", name := "<init>", desc := "(Ljava/lang/String;)V" } : Jvm.MethodName) prog_17_method_2_code (2 : Nat) (Option.none : Option Jvm.ClassFile.FieldType)) ∈ BIG := inT 761 (by decide +kernel)
theorem bw_762 : (Jvm.Cond.methodLink "java/lang/IndexOutOfBoundsException" (7 : Nat) ({ cls := "java/lang/RuntimeException", name := "<init>", desc := "(Ljava/lang/String;)V" } : Jvm.MethodName)) ∈ BIG := inT 762 (by decide +kernel)
theorem bw_763 : (Jvm.Cond.lays "java/lang/IndexOutOfBoundsException" "java/lang/Throwable" "depth" "I") ∈ BIG := inT 763 (by decide +kernel)
theorem bw_766 : (Jvm.Cond.methodLink "TextRegions" (132 : Nat) ({ cls := "TextRegions", name := "withBit", desc := "(JIZ)J" } : Jvm.MethodName)) ∈ BIG := inT 766 (by decide +kernel)
theorem bw_767 : (Jvm.Cond.methodLink "TextRegionsLaw" (74 : Nat) ({ cls := "TextRegionsLaw", name := "instance", desc := "(LTextRegions;III[J)I" } : Jvm.MethodName)) ∈ BIG := inT 767 (by decide +kernel)
theorem bw_768 : (Jvm.Cond.static ({ cls := "TextRegionsLaw", name := "instance", desc := "(LTextRegions;III[J)I" } : Jvm.MethodName)) ∈ BIG := inT 768 (by decide +kernel)
theorem bw_769 : (Jvm.Cond.codeWith ({ cls := "TextRegionsLaw", name := "instance", desc := "(LTextRegions;III[J)I" } : Jvm.MethodName) method_5_code (6 : Nat) (Option.some Jvm.ClassFile.FieldType.int) [((0 : Nat), (12 : Nat), (15 : Nat), (21 : Nat)), ((0 : Nat), (12 : Nat), (19 : Nat), (13 : Nat)), ((0 : Nat), (12 : Nat), (23 : Nat), (15 : Nat))]) ∈ BIG := inT 769 (by decide +kernel)
theorem bw_770 : (Jvm.Cond.methodLink "TextRegionsLaw" (23 : Nat) ({ cls := "TextRegions", name := "instance", desc := "(III)I" } : Jvm.MethodName)) ∈ BIG := inT 770 (by decide +kernel)
theorem bw_771 : (Jvm.Cond.instanceMethod ({ cls := "TextRegions", name := "instance", desc := "(III)I" } : Jvm.MethodName)) ∈ BIG := inT 771 (by decide +kernel)
theorem bw_772 : (Jvm.Cond.selects "TextRegions" ({ cls := "TextRegions", name := "instance", desc := "(III)I" } : Jvm.MethodName) ({ cls := "TextRegions", name := "instance", desc := "(III)I" } : Jvm.MethodName)) ∈ BIG := inT 772 (by decide +kernel)
theorem bw_773 : (Jvm.Cond.code ({ cls := "TextRegions", name := "instance", desc := "(III)I" } : Jvm.MethodName) prog_1_method_4_code (4 : Nat) (Option.some Jvm.ClassFile.FieldType.int)) ∈ BIG := inT 773 (by decide +kernel)
theorem bw_775 : (Jvm.Cond.methodLink "TextRegions" (138 : Nat) ({ cls := "TextRegions", name := "isPlace", desc := "(I)Z" } : Jvm.MethodName)) ∈ BIG := inT 775 (by decide +kernel)
theorem bw_779 : (Jvm.Cond.methodLink "TextRegionsLaw" (78 : Nat) ({ cls := "TextRegionsLaw", name := "refine", desc := "(LTextRegions;IIIZ[J)I" } : Jvm.MethodName)) ∈ BIG := inT 779 (by decide +kernel)
theorem bw_780 : (Jvm.Cond.static ({ cls := "TextRegionsLaw", name := "refine", desc := "(LTextRegions;IIIZ[J)I" } : Jvm.MethodName)) ∈ BIG := inT 780 (by decide +kernel)
theorem bw_781 : (Jvm.Cond.codeWith ({ cls := "TextRegionsLaw", name := "refine", desc := "(LTextRegions;IIIZ[J)I" } : Jvm.MethodName) method_6_code (7 : Nat) (Option.some Jvm.ClassFile.FieldType.int) [((0 : Nat), (21 : Nat), (24 : Nat), (21 : Nat))]) ∈ BIG := inT 781 (by decide +kernel)
theorem bw_782 : (Jvm.Cond.methodLink "TextRegionsLaw" (27 : Nat) ({ cls := "TextRegions", name := "refine", desc := "(IIIZ)Z" } : Jvm.MethodName)) ∈ BIG := inT 782 (by decide +kernel)
theorem bw_783 : (Jvm.Cond.instanceMethod ({ cls := "TextRegions", name := "refine", desc := "(IIIZ)Z" } : Jvm.MethodName)) ∈ BIG := inT 783 (by decide +kernel)
theorem bw_784 : (Jvm.Cond.selects "TextRegions" ({ cls := "TextRegions", name := "refine", desc := "(IIIZ)Z" } : Jvm.MethodName) ({ cls := "TextRegions", name := "refine", desc := "(IIIZ)Z" } : Jvm.MethodName)) ∈ BIG := inT 784 (by decide +kernel)
theorem bw_785 : (Jvm.Cond.code ({ cls := "TextRegions", name := "refine", desc := "(IIIZ)Z" } : Jvm.MethodName) prog_1_method_5_code (8 : Nat) (Option.some Jvm.ClassFile.FieldType.boolean)) ∈ BIG := inT 785 (by decide +kernel)
theorem bw_788 : (Jvm.Cond.instanceMethod ({ cls := "TextRegions$Layout", name := "has", desc := "(I)Z" } : Jvm.MethodName)) ∈ BIG := inT 788 (by decide +kernel)
theorem bw_789 : (Jvm.Cond.code ({ cls := "TextRegions$Layout", name := "has", desc := "(I)Z" } : Jvm.MethodName) prog_8_method_3_code (2 : Nat) (Option.some Jvm.ClassFile.FieldType.boolean)) ∈ BIG := inT 789 (by decide +kernel)
theorem bw_792 : (Jvm.Cond.methodLink "TextRegionsLaw" (81 : Nat) ({ cls := "TextRegionsLaw", name := "way", desc := "(LTextRegions;II[J)I" } : Jvm.MethodName)) ∈ BIG := inT 792 (by decide +kernel)
theorem bw_793 : (Jvm.Cond.static ({ cls := "TextRegionsLaw", name := "way", desc := "(LTextRegions;II[J)I" } : Jvm.MethodName)) ∈ BIG := inT 793 (by decide +kernel)
theorem bw_794 : (Jvm.Cond.codeWith ({ cls := "TextRegionsLaw", name := "way", desc := "(LTextRegions;II[J)I" } : Jvm.MethodName) method_7_code (5 : Nat) (Option.some Jvm.ClassFile.FieldType.int) [((0 : Nat), (10 : Nat), (13 : Nat), (13 : Nat))]) ∈ BIG := inT 794 (by decide +kernel)
theorem bw_795 : (Jvm.Cond.methodLink "TextRegionsLaw" (30 : Nat) ({ cls := "TextRegions", name := "way", desc := "(II)I" } : Jvm.MethodName)) ∈ BIG := inT 795 (by decide +kernel)
theorem bw_796 : (Jvm.Cond.instanceMethod ({ cls := "TextRegions", name := "way", desc := "(II)I" } : Jvm.MethodName)) ∈ BIG := inT 796 (by decide +kernel)
theorem bw_797 : (Jvm.Cond.selects "TextRegions" ({ cls := "TextRegions", name := "way", desc := "(II)I" } : Jvm.MethodName) ({ cls := "TextRegions", name := "way", desc := "(II)I" } : Jvm.MethodName)) ∈ BIG := inT 797 (by decide +kernel)
theorem bw_798 : (Jvm.Cond.code ({ cls := "TextRegions", name := "way", desc := "(II)I" } : Jvm.MethodName) prog_1_method_6_code (4 : Nat) (Option.some Jvm.ClassFile.FieldType.int)) ∈ BIG := inT 798 (by decide +kernel)
theorem bw_799 : (Jvm.Cond.fieldLink "TextRegions" (158 : Nat) "TextRegions" "MOST_OF_WAY" "[I") ∈ BIG := inT 799 (by decide +kernel)
theorem bw_801 : (Jvm.Cond.methodLink "TextRegionsLaw" (84 : Nat) ({ cls := "TextRegionsLaw", name := "order", desc := "(LTextRegions;I[J)I" } : Jvm.MethodName)) ∈ BIG := inT 801 (by decide +kernel)
theorem bw_802 : (Jvm.Cond.static ({ cls := "TextRegionsLaw", name := "order", desc := "(LTextRegions;I[J)I" } : Jvm.MethodName)) ∈ BIG := inT 802 (by decide +kernel)
theorem bw_803 : (Jvm.Cond.codeWith ({ cls := "TextRegionsLaw", name := "order", desc := "(LTextRegions;I[J)I" } : Jvm.MethodName) method_8_code (4 : Nat) (Option.some Jvm.ClassFile.FieldType.int) [((0 : Nat), (9 : Nat), (12 : Nat), (13 : Nat))]) ∈ BIG := inT 803 (by decide +kernel)
theorem bw_804 : (Jvm.Cond.methodLink "TextRegionsLaw" (33 : Nat) ({ cls := "TextRegions", name := "order", desc := "(I)I" } : Jvm.MethodName)) ∈ BIG := inT 804 (by decide +kernel)
theorem bw_805 : (Jvm.Cond.instanceMethod ({ cls := "TextRegions", name := "order", desc := "(I)I" } : Jvm.MethodName)) ∈ BIG := inT 805 (by decide +kernel)
theorem bw_806 : (Jvm.Cond.selects "TextRegions" ({ cls := "TextRegions", name := "order", desc := "(I)I" } : Jvm.MethodName) ({ cls := "TextRegions", name := "order", desc := "(I)I" } : Jvm.MethodName)) ∈ BIG := inT 806 (by decide +kernel)
theorem bw_807 : (Jvm.Cond.code ({ cls := "TextRegions", name := "order", desc := "(I)I" } : Jvm.MethodName) prog_1_method_7_code (4 : Nat) (Option.some Jvm.ClassFile.FieldType.int)) ∈ BIG := inT 807 (by decide +kernel)
theorem bw_809 : (Jvm.Cond.methodLink "TextRegions" (172 : Nat) ({ cls := "TextRegions", name := "changeNeighbours", desc := "()Z" } : Jvm.MethodName)) ∈ BIG := inT 809 (by decide +kernel)
theorem bw_811 : (Jvm.Cond.instanceMethod ({ cls := "TextRegions", name := "changeNeighbours", desc := "()Z" } : Jvm.MethodName)) ∈ BIG := inT 811 (by decide +kernel)
theorem bw_812 : (Jvm.Cond.code ({ cls := "TextRegions", name := "changeNeighbours", desc := "()Z" } : Jvm.MethodName) prog_1_method_18_code (5 : Nat) (Option.some Jvm.ClassFile.FieldType.boolean)) ∈ BIG := inT 812 (by decide +kernel)
theorem bw_816 : (Jvm.Cond.instanceMethod ({ cls := "TextRegions$Layout", name := "swapWithNext", desc := "(I)V" } : Jvm.MethodName)) ∈ BIG := inT 816 (by decide +kernel)
theorem bw_817 : (Jvm.Cond.code ({ cls := "TextRegions$Layout", name := "swapWithNext", desc := "(I)V" } : Jvm.MethodName) prog_8_method_6_code (7 : Nat) (Option.none : Option Jvm.ClassFile.FieldType)) ∈ BIG := inT 817 (by decide +kernel)
theorem bw_818 : (Jvm.Cond.methodLink "TextRegionsLaw" (92 : Nat) ({ cls := "TextRegionsLaw", name := "at", desc := "(LTextRegions;II[J)I" } : Jvm.MethodName)) ∈ BIG := inT 818 (by decide +kernel)
theorem bw_819 : (Jvm.Cond.static ({ cls := "TextRegionsLaw", name := "at", desc := "(LTextRegions;II[J)I" } : Jvm.MethodName)) ∈ BIG := inT 819 (by decide +kernel)
theorem bw_820 : (Jvm.Cond.codeWith ({ cls := "TextRegionsLaw", name := "at", desc := "(LTextRegions;II[J)I" } : Jvm.MethodName) method_9_code (5 : Nat) (Option.some Jvm.ClassFile.FieldType.int) [((0 : Nat), (17 : Nat), (20 : Nat), (21 : Nat))]) ∈ BIG := inT 820 (by decide +kernel)
theorem bw_821 : (Jvm.Cond.methodLink "TextRegionsLaw" (37 : Nat) ({ cls := "TextRegions", name := "at", desc := "(II)Z" } : Jvm.MethodName)) ∈ BIG := inT 821 (by decide +kernel)
theorem bw_822 : (Jvm.Cond.instanceMethod ({ cls := "TextRegions", name := "at", desc := "(II)Z" } : Jvm.MethodName)) ∈ BIG := inT 822 (by decide +kernel)
theorem bw_823 : (Jvm.Cond.selects "TextRegions" ({ cls := "TextRegions", name := "at", desc := "(II)Z" } : Jvm.MethodName) ({ cls := "TextRegions", name := "at", desc := "(II)Z" } : Jvm.MethodName)) ∈ BIG := inT 823 (by decide +kernel)
theorem bw_824 : (Jvm.Cond.code ({ cls := "TextRegions", name := "at", desc := "(II)Z" } : Jvm.MethodName) prog_1_method_9_code (3 : Nat) (Option.some Jvm.ClassFile.FieldType.boolean)) ∈ BIG := inT 824 (by decide +kernel)
theorem bw_827 : (Jvm.Cond.methodLink "TextRegionsLaw" (99 : Nat) ({ cls := "TextRegionsLaw", name := "byteAt", desc := "(LTextRegions;I[J)I" } : Jvm.MethodName)) ∈ BIG := inT 827 (by decide +kernel)
theorem bw_828 : (Jvm.Cond.static ({ cls := "TextRegionsLaw", name := "byteAt", desc := "(LTextRegions;I[J)I" } : Jvm.MethodName)) ∈ BIG := inT 828 (by decide +kernel)
theorem bw_829 : (Jvm.Cond.codeWith ({ cls := "TextRegionsLaw", name := "byteAt", desc := "(LTextRegions;I[J)I" } : Jvm.MethodName) method_10_code (4 : Nat) (Option.some Jvm.ClassFile.FieldType.int) [((0 : Nat), (9 : Nat), (12 : Nat), (21 : Nat))]) ∈ BIG := inT 829 (by decide +kernel)
theorem bw_830 : (Jvm.Cond.methodLink "TextRegionsLaw" (41 : Nat) ({ cls := "TextRegions", name := "byteAt", desc := "(I)I" } : Jvm.MethodName)) ∈ BIG := inT 830 (by decide +kernel)
theorem bw_831 : (Jvm.Cond.instanceMethod ({ cls := "TextRegions", name := "byteAt", desc := "(I)I" } : Jvm.MethodName)) ∈ BIG := inT 831 (by decide +kernel)
theorem bw_832 : (Jvm.Cond.selects "TextRegions" ({ cls := "TextRegions", name := "byteAt", desc := "(I)I" } : Jvm.MethodName) ({ cls := "TextRegions", name := "byteAt", desc := "(I)I" } : Jvm.MethodName)) ∈ BIG := inT 832 (by decide +kernel)
theorem bw_833 : (Jvm.Cond.code ({ cls := "TextRegions", name := "byteAt", desc := "(I)I" } : Jvm.MethodName) prog_1_method_11_code (2 : Nat) (Option.some Jvm.ClassFile.FieldType.int)) ∈ BIG := inT 833 (by decide +kernel)
theorem bw_835 : (Jvm.Cond.methodLink "TextRegionsLaw" (102 : Nat) ({ cls := "TextRegionsLaw", name := "feed", desc := "(LTextRegions;I[J)I" } : Jvm.MethodName)) ∈ BIG := inT 835 (by decide +kernel)
theorem bw_836 : (Jvm.Cond.static ({ cls := "TextRegionsLaw", name := "feed", desc := "(LTextRegions;I[J)I" } : Jvm.MethodName)) ∈ BIG := inT 836 (by decide +kernel)
theorem bw_837 : (Jvm.Cond.codeWith ({ cls := "TextRegionsLaw", name := "feed", desc := "(LTextRegions;I[J)I" } : Jvm.MethodName) method_11_code (4 : Nat) (Option.some Jvm.ClassFile.FieldType.int) [((0 : Nat), (9 : Nat), (12 : Nat), (13 : Nat)), ((0 : Nat), (9 : Nat), (15 : Nat), (15 : Nat))]) ∈ BIG := inT 837 (by decide +kernel)
theorem bw_838 : (Jvm.Cond.methodLink "TextRegionsLaw" (44 : Nat) ({ cls := "TextRegions", name := "feed", desc := "(I)I" } : Jvm.MethodName)) ∈ BIG := inT 838 (by decide +kernel)
theorem bw_839 : (Jvm.Cond.instanceMethod ({ cls := "TextRegions", name := "feed", desc := "(I)I" } : Jvm.MethodName)) ∈ BIG := inT 839 (by decide +kernel)
theorem bw_840 : (Jvm.Cond.selects "TextRegions" ({ cls := "TextRegions", name := "feed", desc := "(I)I" } : Jvm.MethodName) ({ cls := "TextRegions", name := "feed", desc := "(I)I" } : Jvm.MethodName)) ∈ BIG := inT 840 (by decide +kernel)
theorem bw_841 : (Jvm.Cond.code ({ cls := "TextRegions", name := "feed", desc := "(I)I" } : Jvm.MethodName) prog_1_method_12_code (2 : Nat) (Option.some Jvm.ClassFile.FieldType.int)) ∈ BIG := inT 841 (by decide +kernel)
theorem bw_845 : (Jvm.Cond.methodLink "TextRegionsLaw" (105 : Nat) ({ cls := "TextRegionsLaw", name := "pass", desc := "(LTextRegions;[J)I" } : Jvm.MethodName)) ∈ BIG := inT 845 (by decide +kernel)
theorem bw_846 : (Jvm.Cond.static ({ cls := "TextRegionsLaw", name := "pass", desc := "(LTextRegions;[J)I" } : Jvm.MethodName)) ∈ BIG := inT 846 (by decide +kernel)
theorem bw_847 : (Jvm.Cond.codeWith ({ cls := "TextRegionsLaw", name := "pass", desc := "(LTextRegions;[J)I" } : Jvm.MethodName) method_12_code (3 : Nat) (Option.some Jvm.ClassFile.FieldType.int) [((0 : Nat), (8 : Nat), (11 : Nat), (15 : Nat))]) ∈ BIG := inT 847 (by decide +kernel)
theorem bw_848 : (Jvm.Cond.methodLink "TextRegionsLaw" (47 : Nat) ({ cls := "TextRegions", name := "pass", desc := "()I" } : Jvm.MethodName)) ∈ BIG := inT 848 (by decide +kernel)
theorem bw_849 : (Jvm.Cond.instanceMethod ({ cls := "TextRegions", name := "pass", desc := "()I" } : Jvm.MethodName)) ∈ BIG := inT 849 (by decide +kernel)
theorem bw_850 : (Jvm.Cond.selects "TextRegions" ({ cls := "TextRegions", name := "pass", desc := "()I" } : Jvm.MethodName) ({ cls := "TextRegions", name := "pass", desc := "()I" } : Jvm.MethodName)) ∈ BIG := inT 850 (by decide +kernel)
theorem bw_851 : (Jvm.Cond.code ({ cls := "TextRegions", name := "pass", desc := "()I" } : Jvm.MethodName) prog_1_method_13_code (2 : Nat) (Option.some Jvm.ClassFile.FieldType.int)) ∈ BIG := inT 851 (by decide +kernel)
theorem bw_853 : (Jvm.Cond.methodLink "TextRegionsLaw" (113 : Nat) ({ cls := "TextRegionsLaw", name := "place", desc := "(LTextRegions;II[J)I" } : Jvm.MethodName)) ∈ BIG := inT 853 (by decide +kernel)
theorem bw_854 : (Jvm.Cond.static ({ cls := "TextRegionsLaw", name := "place", desc := "(LTextRegions;II[J)I" } : Jvm.MethodName)) ∈ BIG := inT 854 (by decide +kernel)
theorem bw_855 : (Jvm.Cond.codeWith ({ cls := "TextRegionsLaw", name := "place", desc := "(LTextRegions;II[J)I" } : Jvm.MethodName) method_13_code (5 : Nat) (Option.some Jvm.ClassFile.FieldType.int) [((0 : Nat), (10 : Nat), (13 : Nat), (21 : Nat))]) ∈ BIG := inT 855 (by decide +kernel)
theorem bw_856 : (Jvm.Cond.methodLink "TextRegionsLaw" (51 : Nat) ({ cls := "TextRegions", name := "place", desc := "(II)I" } : Jvm.MethodName)) ∈ BIG := inT 856 (by decide +kernel)
theorem bw_857 : (Jvm.Cond.instanceMethod ({ cls := "TextRegions", name := "place", desc := "(II)I" } : Jvm.MethodName)) ∈ BIG := inT 857 (by decide +kernel)
theorem bw_858 : (Jvm.Cond.selects "TextRegions" ({ cls := "TextRegions", name := "place", desc := "(II)I" } : Jvm.MethodName) ({ cls := "TextRegions", name := "place", desc := "(II)I" } : Jvm.MethodName)) ∈ BIG := inT 858 (by decide +kernel)
theorem bw_859 : (Jvm.Cond.code ({ cls := "TextRegions", name := "place", desc := "(II)I" } : Jvm.MethodName) prog_1_method_15_code (3 : Nat) (Option.some Jvm.ClassFile.FieldType.int)) ∈ BIG := inT 859 (by decide +kernel)
theorem bw_863 : (Jvm.Cond.methodLink "TextRegions" (250 : Nat) ({ cls := "java/lang/Long", name := "bitCount", desc := "(J)I" } : Jvm.MethodName)) ∈ BIG := inT 863 (by decide +kernel)
theorem bw_864 : (Jvm.Cond.classLink "TextRegionsLaw" (63 : Nat) "TextRegionsModel") ∈ BIG := inT 864 (by decide +kernel)
theorem bw_865 : (Jvm.Cond.instantiable "TextRegionsModel" (38 : Nat)) ∈ BIG := inT 865 (by decide +kernel)
theorem bw_866 : (Jvm.Cond.methodLink "TextRegionsLaw" (65 : Nat) ({ cls := "TextRegionsModel", name := "<init>", desc := "(III)V" } : Jvm.MethodName)) ∈ BIG := inT 866 (by decide +kernel)
theorem bw_867 : (Jvm.Cond.instanceMethod ({ cls := "TextRegionsModel", name := "<init>", desc := "(III)V" } : Jvm.MethodName)) ∈ BIG := inT 867 (by decide +kernel)
theorem bw_868 : (Jvm.Cond.code ({ cls := "TextRegionsModel", name := "<init>", desc := "(III)V" } : Jvm.MethodName) prog_14_method_1_code (4 : Nat) (Option.none : Option Jvm.ClassFile.FieldType)) ∈ BIG := inT 868 (by decide +kernel)
theorem bw_869 : (Jvm.Cond.methodLink "TextRegionsModel" (1 : Nat) ({ cls := "java/lang/Object", name := "<init>", desc := "()V" } : Jvm.MethodName)) ∈ BIG := inT 869 (by decide +kernel)
theorem bw_870 : (Jvm.Cond.methodLink "TextRegionsModel" (88 : Nat) ({ cls := "TextRegionsModel", name := "within", desc := "(III)I" } : Jvm.MethodName)) ∈ BIG := inT 870 (by decide +kernel)
theorem bw_871 : (Jvm.Cond.static ({ cls := "TextRegionsModel", name := "within", desc := "(III)I" } : Jvm.MethodName)) ∈ BIG := inT 871 (by decide +kernel)
theorem bw_872 : (Jvm.Cond.code ({ cls := "TextRegionsModel", name := "within", desc := "(III)I" } : Jvm.MethodName) prog_14_method_3_code (3 : Nat) (Option.some Jvm.ClassFile.FieldType.int)) ∈ BIG := inT 872 (by decide +kernel)
theorem bw_873 : (Jvm.Cond.fieldLink "TextRegionsModel" (101 : Nat) "TextRegionsModel" "thrown" "I") ∈ BIG := inT 873 (by decide +kernel)
theorem bw_874 : (Jvm.Cond.fieldLink "TextRegionsModel" (92 : Nat) "TextRegionsModel" "width" "I") ∈ BIG := inT 874 (by decide +kernel)
theorem bw_875 : (Jvm.Cond.fieldLink "TextRegionsModel" (95 : Nat) "TextRegionsModel" "height" "I") ∈ BIG := inT 875 (by decide +kernel)
theorem bw_876 : (Jvm.Cond.fieldLink "TextRegionsModel" (98 : Nat) "TextRegionsModel" "kind" "I") ∈ BIG := inT 876 (by decide +kernel)
theorem bw_877 : (Jvm.Cond.fieldLink "TextRegionsModel" (108 : Nat) "TextRegionsModel" "symbols" "I") ∈ BIG := inT 877 (by decide +kernel)
theorem bw_878 : (Jvm.Cond.fieldLink "TextRegionsModel" (7 : Nat) "TextRegionsModel" "wide" "[I") ∈ BIG := inT 878 (by decide +kernel)
theorem bw_879 : (Jvm.Cond.fieldLink "TextRegionsModel" (13 : Nat) "TextRegionsModel" "high" "[I") ∈ BIG := inT 879 (by decide +kernel)
theorem bw_880 : (Jvm.Cond.fieldLink "TextRegionsModel" (16 : Nat) "TextRegionsModel" "dark" "[J") ∈ BIG := inT 880 (by decide +kernel)
theorem bw_881 : (Jvm.Cond.fieldLink "TextRegionsModel" (116 : Nat) "TextRegionsModel" "instances" "I") ∈ BIG := inT 881 (by decide +kernel)
theorem bw_882 : (Jvm.Cond.fieldLink "TextRegionsModel" (20 : Nat) "TextRegionsModel" "symbolOf" "[I") ∈ BIG := inT 882 (by decide +kernel)
theorem bw_883 : (Jvm.Cond.fieldLink "TextRegionsModel" (23 : Nat) "TextRegionsModel" "xs" "[I") ∈ BIG := inT 883 (by decide +kernel)
theorem bw_884 : (Jvm.Cond.fieldLink "TextRegionsModel" (26 : Nat) "TextRegionsModel" "ys" "[I") ∈ BIG := inT 884 (by decide +kernel)
theorem bw_885 : (Jvm.Cond.fieldLink "TextRegionsModel" (29 : Nat) "TextRegionsModel" "differs" "[J") ∈ BIG := inT 885 (by decide +kernel)
theorem bw_886 : (Jvm.Cond.fieldLink "TextRegionsModel" (32 : Nat) "TextRegionsModel" "ways" "[I") ∈ BIG := inT 886 (by decide +kernel)
theorem bw_887 : (Jvm.Cond.fieldLink "TextRegionsModel" (35 : Nat) "TextRegionsModel" "ordered" "[I") ∈ BIG := inT 887 (by decide +kernel)
theorem bw_888 : (Jvm.Cond.fieldLink "TextRegionsModel" (38 : Nat) "TextRegionsModel" "page" "[Z") ∈ BIG := inT 888 (by decide +kernel)
theorem bw_889 : (Jvm.Cond.fieldLink "TextRegionsModel" (150 : Nat) "TextRegionsModel" "told" "I") ∈ BIG := inT 889 (by decide +kernel)
theorem bw_890 : (Jvm.Cond.fieldLink "TextRegionsModel" (146 : Nat) "TextRegionsModel" "keeps" "Z") ∈ BIG := inT 890 (by decide +kernel)
theorem bw_891 : (Jvm.Cond.fieldLink "TextRegionsModel" (194 : Nat) "TextRegionsModel" "toldBytes" "I") ∈ BIG := inT 891 (by decide +kernel)
theorem bw_892 : (Jvm.Cond.fieldLink "TextRegionsModel" (42 : Nat) "TextRegionsModel" "out" "[I") ∈ BIG := inT 892 (by decide +kernel)
theorem bw_893 : (Jvm.Cond.fieldLink "TextRegionsModel" (45 : Nat) "TextRegionsModel" "counts" "[I") ∈ BIG := inT 893 (by decide +kernel)
theorem bw_894 : (Jvm.Cond.fieldLink "TextRegionsModel" (48 : Nat) "TextRegionsModel" "lengths" "[I") ∈ BIG := inT 894 (by decide +kernel)
theorem bw_895 : (Jvm.Cond.fieldLink "TextRegionsModel" (51 : Nat) "TextRegionsModel" "codes" "[I") ∈ BIG := inT 895 (by decide +kernel)
theorem bw_896 : (Jvm.Cond.fieldLink "TextRegionsModel" (54 : Nat) "TextRegionsModel" "weight" "[I") ∈ BIG := inT 896 (by decide +kernel)
theorem bw_897 : (Jvm.Cond.fieldLink "TextRegionsModel" (57 : Nat) "TextRegionsModel" "over" "[I") ∈ BIG := inT 897 (by decide +kernel)
theorem bw_898 : (Jvm.Cond.fieldLink "TextRegionsModel" (60 : Nat) "TextRegionsModel" "used" "[Z") ∈ BIG := inT 898 (by decide +kernel)
theorem bw_899 : (Jvm.Cond.fieldLink "TextRegionsModel" (63 : Nat) "TextRegionsModel" "row" "[I") ∈ BIG := inT 899 (by decide +kernel)
theorem bw_900 : (Jvm.Cond.fieldLink "TextRegionsModel" (197 : Nat) "TextRegionsModel" "came" "I") ∈ BIG := inT 900 (by decide +kernel)
theorem bw_901 : (Jvm.Cond.fieldLink "TextRegionsModel" (66 : Nat) "TextRegionsModel" "in" "[I") ∈ BIG := inT 901 (by decide +kernel)
theorem bw_902 : (Jvm.Cond.fieldLink "TextRegionsModel" (203 : Nat) "TextRegionsModel" "at" "I") ∈ BIG := inT 902 (by decide +kernel)
theorem bw_903 : (Jvm.Cond.fieldLink "TextRegionsModel" (200 : Nat) "TextRegionsModel" "refused" "I") ∈ BIG := inT 903 (by decide +kernel)
theorem bw_904 : (Jvm.Cond.fieldLink "TextRegionsModel" (69 : Nat) "TextRegionsModel" "place" "I") ∈ BIG := inT 904 (by decide +kernel)
theorem bw_905 : (Jvm.Cond.fieldLink "TextRegionsModel" (223 : Nat) "TextRegionsModel" "readMany" "I") ∈ BIG := inT 905 (by decide +kernel)
theorem bw_906 : (Jvm.Cond.fieldLink "TextRegionsModel" (73 : Nat) "TextRegionsModel" "readSymbol" "[I") ∈ BIG := inT 906 (by decide +kernel)
theorem bw_907 : (Jvm.Cond.fieldLink "TextRegionsModel" (76 : Nat) "TextRegionsModel" "readX" "[I") ∈ BIG := inT 907 (by decide +kernel)
theorem bw_908 : (Jvm.Cond.fieldLink "TextRegionsModel" (79 : Nat) "TextRegionsModel" "readY" "[I") ∈ BIG := inT 908 (by decide +kernel)
theorem bw_909 : (Jvm.Cond.fieldLink "TextRegionsModel" (82 : Nat) "TextRegionsModel" "readDiffers" "[J") ∈ BIG := inT 909 (by decide +kernel)
theorem bw_910 : (Jvm.Cond.fieldLink "TextRegionsModel" (85 : Nat) "TextRegionsModel" "readWays" "[I") ∈ BIG := inT 910 (by decide +kernel)
theorem bw_911 : (Jvm.Cond.lays "TextRegionsModel" "TextRegionsModel" "thrown" "I") ∈ BIG := inT 911 (by decide +kernel)
theorem bw_913 : (Jvm.Cond.laysFinal "TextRegionsModel" "TextRegionsModel" "width" "I") ∈ BIG := inT 913 (by decide +kernel)
theorem bw_915 : (Jvm.Cond.laysFinal "TextRegionsModel" "TextRegionsModel" "height" "I") ∈ BIG := inT 915 (by decide +kernel)
theorem bw_917 : (Jvm.Cond.laysFinal "TextRegionsModel" "TextRegionsModel" "kind" "I") ∈ BIG := inT 917 (by decide +kernel)
theorem bw_919 : (Jvm.Cond.lays "TextRegionsModel" "TextRegionsModel" "symbols" "I") ∈ BIG := inT 919 (by decide +kernel)
theorem bw_921 : (Jvm.Cond.laysFinal "TextRegionsModel" "TextRegionsModel" "wide" "[I") ∈ BIG := inT 921 (by decide +kernel)
theorem bw_923 : (Jvm.Cond.laysFinal "TextRegionsModel" "TextRegionsModel" "high" "[I") ∈ BIG := inT 923 (by decide +kernel)
theorem bw_925 : (Jvm.Cond.laysFinal "TextRegionsModel" "TextRegionsModel" "dark" "[J") ∈ BIG := inT 925 (by decide +kernel)
theorem bw_927 : (Jvm.Cond.lays "TextRegionsModel" "TextRegionsModel" "instances" "I") ∈ BIG := inT 927 (by decide +kernel)
theorem bw_929 : (Jvm.Cond.laysFinal "TextRegionsModel" "TextRegionsModel" "symbolOf" "[I") ∈ BIG := inT 929 (by decide +kernel)
theorem bw_931 : (Jvm.Cond.laysFinal "TextRegionsModel" "TextRegionsModel" "xs" "[I") ∈ BIG := inT 931 (by decide +kernel)
theorem bw_933 : (Jvm.Cond.laysFinal "TextRegionsModel" "TextRegionsModel" "ys" "[I") ∈ BIG := inT 933 (by decide +kernel)
theorem bw_935 : (Jvm.Cond.laysFinal "TextRegionsModel" "TextRegionsModel" "differs" "[J") ∈ BIG := inT 935 (by decide +kernel)
theorem bw_937 : (Jvm.Cond.laysFinal "TextRegionsModel" "TextRegionsModel" "ways" "[I") ∈ BIG := inT 937 (by decide +kernel)
theorem bw_939 : (Jvm.Cond.laysFinal "TextRegionsModel" "TextRegionsModel" "ordered" "[I") ∈ BIG := inT 939 (by decide +kernel)
theorem bw_941 : (Jvm.Cond.laysFinal "TextRegionsModel" "TextRegionsModel" "page" "[Z") ∈ BIG := inT 941 (by decide +kernel)
theorem bw_943 : (Jvm.Cond.lays "TextRegionsModel" "TextRegionsModel" "told" "I") ∈ BIG := inT 943 (by decide +kernel)
theorem bw_945 : (Jvm.Cond.lays "TextRegionsModel" "TextRegionsModel" "keeps" "Z") ∈ BIG := inT 945 (by decide +kernel)
theorem bw_947 : (Jvm.Cond.lays "TextRegionsModel" "TextRegionsModel" "toldBytes" "I") ∈ BIG := inT 947 (by decide +kernel)
theorem bw_949 : (Jvm.Cond.laysFinal "TextRegionsModel" "TextRegionsModel" "out" "[I") ∈ BIG := inT 949 (by decide +kernel)
theorem bw_951 : (Jvm.Cond.laysFinal "TextRegionsModel" "TextRegionsModel" "counts" "[I") ∈ BIG := inT 951 (by decide +kernel)
theorem bw_953 : (Jvm.Cond.laysFinal "TextRegionsModel" "TextRegionsModel" "lengths" "[I") ∈ BIG := inT 953 (by decide +kernel)
theorem bw_955 : (Jvm.Cond.laysFinal "TextRegionsModel" "TextRegionsModel" "codes" "[I") ∈ BIG := inT 955 (by decide +kernel)
theorem bw_957 : (Jvm.Cond.laysFinal "TextRegionsModel" "TextRegionsModel" "weight" "[I") ∈ BIG := inT 957 (by decide +kernel)
theorem bw_959 : (Jvm.Cond.laysFinal "TextRegionsModel" "TextRegionsModel" "over" "[I") ∈ BIG := inT 959 (by decide +kernel)
theorem bw_961 : (Jvm.Cond.laysFinal "TextRegionsModel" "TextRegionsModel" "used" "[Z") ∈ BIG := inT 961 (by decide +kernel)
theorem bw_963 : (Jvm.Cond.laysFinal "TextRegionsModel" "TextRegionsModel" "row" "[I") ∈ BIG := inT 963 (by decide +kernel)
theorem bw_965 : (Jvm.Cond.lays "TextRegionsModel" "TextRegionsModel" "came" "I") ∈ BIG := inT 965 (by decide +kernel)
theorem bw_967 : (Jvm.Cond.laysFinal "TextRegionsModel" "TextRegionsModel" "in" "[I") ∈ BIG := inT 967 (by decide +kernel)
theorem bw_969 : (Jvm.Cond.lays "TextRegionsModel" "TextRegionsModel" "at" "I") ∈ BIG := inT 969 (by decide +kernel)
theorem bw_971 : (Jvm.Cond.lays "TextRegionsModel" "TextRegionsModel" "refused" "I") ∈ BIG := inT 971 (by decide +kernel)
theorem bw_973 : (Jvm.Cond.lays "TextRegionsModel" "TextRegionsModel" "place" "I") ∈ BIG := inT 973 (by decide +kernel)
theorem bw_975 : (Jvm.Cond.lays "TextRegionsModel" "TextRegionsModel" "readMany" "I") ∈ BIG := inT 975 (by decide +kernel)
theorem bw_977 : (Jvm.Cond.laysFinal "TextRegionsModel" "TextRegionsModel" "readSymbol" "[I") ∈ BIG := inT 977 (by decide +kernel)
theorem bw_979 : (Jvm.Cond.laysFinal "TextRegionsModel" "TextRegionsModel" "readX" "[I") ∈ BIG := inT 979 (by decide +kernel)
theorem bw_981 : (Jvm.Cond.laysFinal "TextRegionsModel" "TextRegionsModel" "readY" "[I") ∈ BIG := inT 981 (by decide +kernel)
theorem bw_983 : (Jvm.Cond.laysFinal "TextRegionsModel" "TextRegionsModel" "readDiffers" "[J") ∈ BIG := inT 983 (by decide +kernel)
theorem bw_985 : (Jvm.Cond.laysFinal "TextRegionsModel" "TextRegionsModel" "readWays" "[I") ∈ BIG := inT 985 (by decide +kernel)
theorem bw_988 : (Jvm.Cond.methodLink "TextRegionsLaw" (116 : Nat) ({ cls := "TextRegionsModel", name := "thrown", desc := "()I" } : Jvm.MethodName)) ∈ BIG := inT 988 (by decide +kernel)
theorem bw_989 : (Jvm.Cond.instanceMethod ({ cls := "TextRegionsModel", name := "thrown", desc := "()I" } : Jvm.MethodName)) ∈ BIG := inT 989 (by decide +kernel)
theorem bw_990 : (Jvm.Cond.selects "TextRegionsModel" ({ cls := "TextRegionsModel", name := "thrown", desc := "()I" } : Jvm.MethodName) ({ cls := "TextRegionsModel", name := "thrown", desc := "()I" } : Jvm.MethodName)) ∈ BIG := inT 990 (by decide +kernel)
theorem bw_991 : (Jvm.Cond.code ({ cls := "TextRegionsModel", name := "thrown", desc := "()I" } : Jvm.MethodName) prog_14_method_2_code (1 : Nat) (Option.some Jvm.ClassFile.FieldType.int)) ∈ BIG := inT 991 (by decide +kernel)
theorem bw_992 : (Jvm.Cond.methodLink "TextRegionsLaw" (69 : Nat) ({ cls := "TextRegionsModel", name := "symbol", desc := "(II)I" } : Jvm.MethodName)) ∈ BIG := inT 992 (by decide +kernel)
theorem bw_993 : (Jvm.Cond.instanceMethod ({ cls := "TextRegionsModel", name := "symbol", desc := "(II)I" } : Jvm.MethodName)) ∈ BIG := inT 993 (by decide +kernel)
theorem bw_994 : (Jvm.Cond.selects "TextRegionsModel" ({ cls := "TextRegionsModel", name := "symbol", desc := "(II)I" } : Jvm.MethodName) ({ cls := "TextRegionsModel", name := "symbol", desc := "(II)I" } : Jvm.MethodName)) ∈ BIG := inT 994 (by decide +kernel)
theorem bw_995 : (Jvm.Cond.code ({ cls := "TextRegionsModel", name := "symbol", desc := "(II)I" } : Jvm.MethodName) prog_14_method_5_code (3 : Nat) (Option.some Jvm.ClassFile.FieldType.int)) ∈ BIG := inT 995 (by decide +kernel)
theorem bw_996 : (Jvm.Cond.methodLink "TextRegionsModel" (104 : Nat) ({ cls := "TextRegionsModel", name := "isIn", desc := "(III)Z" } : Jvm.MethodName)) ∈ BIG := inT 996 (by decide +kernel)
theorem bw_997 : (Jvm.Cond.static ({ cls := "TextRegionsModel", name := "isIn", desc := "(III)Z" } : Jvm.MethodName)) ∈ BIG := inT 997 (by decide +kernel)
theorem bw_998 : (Jvm.Cond.code ({ cls := "TextRegionsModel", name := "isIn", desc := "(III)Z" } : Jvm.MethodName) prog_14_method_4_code (3 : Nat) (Option.some Jvm.ClassFile.FieldType.boolean)) ∈ BIG := inT 998 (by decide +kernel)
theorem bw_999 : (Jvm.Cond.methodLink "TextRegionsLaw" (73 : Nat) ({ cls := "TextRegionsModel", name := "put", desc := "(IIIZ)Z" } : Jvm.MethodName)) ∈ BIG := inT 999 (by decide +kernel)
theorem bw_1000 : (Jvm.Cond.instanceMethod ({ cls := "TextRegionsModel", name := "put", desc := "(IIIZ)Z" } : Jvm.MethodName)) ∈ BIG := inT 1000 (by decide +kernel)
theorem bw_1001 : (Jvm.Cond.selects "TextRegionsModel" ({ cls := "TextRegionsModel", name := "put", desc := "(IIIZ)Z" } : Jvm.MethodName) ({ cls := "TextRegionsModel", name := "put", desc := "(IIIZ)Z" } : Jvm.MethodName)) ∈ BIG := inT 1001 (by decide +kernel)
theorem bw_1002 : (Jvm.Cond.code ({ cls := "TextRegionsModel", name := "put", desc := "(IIIZ)Z" } : Jvm.MethodName) prog_14_method_7_code (8 : Nat) (Option.some Jvm.ClassFile.FieldType.boolean)) ∈ BIG := inT 1002 (by decide +kernel)
theorem bw_1003 : (Jvm.Cond.methodLink "TextRegionsModel" (111 : Nat) ({ cls := "TextRegionsModel", name := "isSample", desc := "(III)Z" } : Jvm.MethodName)) ∈ BIG := inT 1003 (by decide +kernel)
theorem bw_1005 : (Jvm.Cond.instanceMethod ({ cls := "TextRegionsModel", name := "isSample", desc := "(III)Z" } : Jvm.MethodName)) ∈ BIG := inT 1005 (by decide +kernel)
theorem bw_1006 : (Jvm.Cond.code ({ cls := "TextRegionsModel", name := "isSample", desc := "(III)Z" } : Jvm.MethodName) prog_14_method_6_code (4 : Nat) (Option.some Jvm.ClassFile.FieldType.boolean)) ∈ BIG := inT 1006 (by decide +kernel)
theorem bw_1007 : (Jvm.Cond.constantLong "TextRegionsModel" (114 : Nat) (-1 : Int64)) ∈ BIG := inT 1007 (by decide +kernel)
theorem bw_1008 : (Jvm.Cond.methodLink "TextRegionsLaw" (77 : Nat) ({ cls := "TextRegionsModel", name := "instance", desc := "(III)I" } : Jvm.MethodName)) ∈ BIG := inT 1008 (by decide +kernel)
theorem bw_1009 : (Jvm.Cond.instanceMethod ({ cls := "TextRegionsModel", name := "instance", desc := "(III)I" } : Jvm.MethodName)) ∈ BIG := inT 1009 (by decide +kernel)
theorem bw_1010 : (Jvm.Cond.selects "TextRegionsModel" ({ cls := "TextRegionsModel", name := "instance", desc := "(III)I" } : Jvm.MethodName) ({ cls := "TextRegionsModel", name := "instance", desc := "(III)I" } : Jvm.MethodName)) ∈ BIG := inT 1010 (by decide +kernel)
theorem bw_1011 : (Jvm.Cond.code ({ cls := "TextRegionsModel", name := "instance", desc := "(III)I" } : Jvm.MethodName) prog_14_method_8_code (4 : Nat) (Option.some Jvm.ClassFile.FieldType.int)) ∈ BIG := inT 1011 (by decide +kernel)
theorem bw_1012 : (Jvm.Cond.methodLink "TextRegionsLaw" (80 : Nat) ({ cls := "TextRegionsModel", name := "refine", desc := "(IIIZ)Z" } : Jvm.MethodName)) ∈ BIG := inT 1012 (by decide +kernel)
theorem bw_1013 : (Jvm.Cond.instanceMethod ({ cls := "TextRegionsModel", name := "refine", desc := "(IIIZ)Z" } : Jvm.MethodName)) ∈ BIG := inT 1013 (by decide +kernel)
theorem bw_1014 : (Jvm.Cond.selects "TextRegionsModel" ({ cls := "TextRegionsModel", name := "refine", desc := "(IIIZ)Z" } : Jvm.MethodName) ({ cls := "TextRegionsModel", name := "refine", desc := "(IIIZ)Z" } : Jvm.MethodName)) ∈ BIG := inT 1014 (by decide +kernel)
theorem bw_1015 : (Jvm.Cond.code ({ cls := "TextRegionsModel", name := "refine", desc := "(IIIZ)Z" } : Jvm.MethodName) prog_14_method_10_code (8 : Nat) (Option.some Jvm.ClassFile.FieldType.boolean)) ∈ BIG := inT 1015 (by decide +kernel)
theorem bw_1016 : (Jvm.Cond.methodLink "TextRegionsModel" (119 : Nat) ({ cls := "TextRegionsModel", name := "isInstance", desc := "(I)Z" } : Jvm.MethodName)) ∈ BIG := inT 1016 (by decide +kernel)
theorem bw_1018 : (Jvm.Cond.instanceMethod ({ cls := "TextRegionsModel", name := "isInstance", desc := "(I)Z" } : Jvm.MethodName)) ∈ BIG := inT 1018 (by decide +kernel)
theorem bw_1019 : (Jvm.Cond.code ({ cls := "TextRegionsModel", name := "isInstance", desc := "(I)Z" } : Jvm.MethodName) prog_14_method_9_code (2 : Nat) (Option.some Jvm.ClassFile.FieldType.boolean)) ∈ BIG := inT 1019 (by decide +kernel)
theorem bw_1020 : (Jvm.Cond.methodLink "TextRegionsLaw" (83 : Nat) ({ cls := "TextRegionsModel", name := "way", desc := "(II)I" } : Jvm.MethodName)) ∈ BIG := inT 1020 (by decide +kernel)
theorem bw_1021 : (Jvm.Cond.instanceMethod ({ cls := "TextRegionsModel", name := "way", desc := "(II)I" } : Jvm.MethodName)) ∈ BIG := inT 1021 (by decide +kernel)
theorem bw_1022 : (Jvm.Cond.selects "TextRegionsModel" ({ cls := "TextRegionsModel", name := "way", desc := "(II)I" } : Jvm.MethodName) ({ cls := "TextRegionsModel", name := "way", desc := "(II)I" } : Jvm.MethodName)) ∈ BIG := inT 1022 (by decide +kernel)
theorem bw_1023 : (Jvm.Cond.code ({ cls := "TextRegionsModel", name := "way", desc := "(II)I" } : Jvm.MethodName) prog_14_method_11_code (5 : Nat) (Option.some Jvm.ClassFile.FieldType.int)) ∈ BIG := inT 1023 (by decide +kernel)
theorem bw_1024 : (Jvm.Cond.methodLink "TextRegionsLaw" (91 : Nat) ({ cls := "TextRegionsModel", name := "compose", desc := "()I" } : Jvm.MethodName)) ∈ BIG := inT 1024 (by decide +kernel)
theorem bw_1025 : (Jvm.Cond.instanceMethod ({ cls := "TextRegionsModel", name := "compose", desc := "()I" } : Jvm.MethodName)) ∈ BIG := inT 1025 (by decide +kernel)
theorem bw_1026 : (Jvm.Cond.selects "TextRegionsModel" ({ cls := "TextRegionsModel", name := "compose", desc := "()I" } : Jvm.MethodName) ({ cls := "TextRegionsModel", name := "compose", desc := "()I" } : Jvm.MethodName)) ∈ BIG := inT 1026 (by decide +kernel)
theorem bw_1027 : (Jvm.Cond.code ({ cls := "TextRegionsModel", name := "compose", desc := "()I" } : Jvm.MethodName) prog_14_method_19_code (3 : Nat) (Option.some Jvm.ClassFile.FieldType.int)) ∈ BIG := inT 1027 (by decide +kernel)
theorem bw_1028 : (Jvm.Cond.methodLink "TextRegionsModel" (136 : Nat) ({ cls := "TextRegionsModel", name := "sort", desc := "()V" } : Jvm.MethodName)) ∈ BIG := inT 1028 (by decide +kernel)
theorem bw_1030 : (Jvm.Cond.instanceMethod ({ cls := "TextRegionsModel", name := "sort", desc := "()V" } : Jvm.MethodName)) ∈ BIG := inT 1030 (by decide +kernel)
theorem bw_1031 : (Jvm.Cond.code ({ cls := "TextRegionsModel", name := "sort", desc := "()V" } : Jvm.MethodName) prog_14_method_17_code (3 : Nat) (Option.none : Option Jvm.ClassFile.FieldType)) ∈ BIG := inT 1031 (by decide +kernel)
theorem bw_1032 : (Jvm.Cond.methodLink "TextRegionsModel" (133 : Nat) ({ cls := "TextRegionsModel", name := "stripOf", desc := "(I)I" } : Jvm.MethodName)) ∈ BIG := inT 1032 (by decide +kernel)
theorem bw_1034 : (Jvm.Cond.instanceMethod ({ cls := "TextRegionsModel", name := "stripOf", desc := "(I)I" } : Jvm.MethodName)) ∈ BIG := inT 1034 (by decide +kernel)
theorem bw_1035 : (Jvm.Cond.code ({ cls := "TextRegionsModel", name := "stripOf", desc := "(I)I" } : Jvm.MethodName) prog_14_method_16_code (2 : Nat) (Option.some Jvm.ClassFile.FieldType.int)) ∈ BIG := inT 1035 (by decide +kernel)
theorem bw_1036 : (Jvm.Cond.methodLink "TextRegionsModel" (130 : Nat) ({ cls := "TextRegionsModel", name := "tOf", desc := "(I)I" } : Jvm.MethodName)) ∈ BIG := inT 1036 (by decide +kernel)
theorem bw_1038 : (Jvm.Cond.instanceMethod ({ cls := "TextRegionsModel", name := "tOf", desc := "(I)I" } : Jvm.MethodName)) ∈ BIG := inT 1038 (by decide +kernel)
theorem bw_1039 : (Jvm.Cond.code ({ cls := "TextRegionsModel", name := "tOf", desc := "(I)I" } : Jvm.MethodName) prog_14_method_15_code (2 : Nat) (Option.some Jvm.ClassFile.FieldType.int)) ∈ BIG := inT 1039 (by decide +kernel)
theorem bw_1040 : (Jvm.Cond.methodLink "TextRegionsModel" (127 : Nat) ({ cls := "TextRegionsModel", name := "columnOf", desc := "(I)I" } : Jvm.MethodName)) ∈ BIG := inT 1040 (by decide +kernel)
theorem bw_1042 : (Jvm.Cond.instanceMethod ({ cls := "TextRegionsModel", name := "columnOf", desc := "(I)I" } : Jvm.MethodName)) ∈ BIG := inT 1042 (by decide +kernel)
theorem bw_1043 : (Jvm.Cond.code ({ cls := "TextRegionsModel", name := "columnOf", desc := "(I)I" } : Jvm.MethodName) prog_14_method_12_code (2 : Nat) (Option.some Jvm.ClassFile.FieldType.int)) ∈ BIG := inT 1043 (by decide +kernel)
theorem bw_1044 : (Jvm.Cond.methodLink "TextRegionsModel" (123 : Nat) ({ cls := "TextRegionsModel", name := "rowOf", desc := "(I)I" } : Jvm.MethodName)) ∈ BIG := inT 1044 (by decide +kernel)
theorem bw_1046 : (Jvm.Cond.instanceMethod ({ cls := "TextRegionsModel", name := "rowOf", desc := "(I)I" } : Jvm.MethodName)) ∈ BIG := inT 1046 (by decide +kernel)
theorem bw_1047 : (Jvm.Cond.code ({ cls := "TextRegionsModel", name := "rowOf", desc := "(I)I" } : Jvm.MethodName) prog_14_method_13_code (2 : Nat) (Option.some Jvm.ClassFile.FieldType.int)) ∈ BIG := inT 1047 (by decide +kernel)
theorem bw_1048 : (Jvm.Cond.methodLink "TextRegionsModel" (139 : Nat) ({ cls := "TextRegionsModel", name := "lay", desc := "(I)V" } : Jvm.MethodName)) ∈ BIG := inT 1048 (by decide +kernel)
theorem bw_1050 : (Jvm.Cond.instanceMethod ({ cls := "TextRegionsModel", name := "lay", desc := "(I)V" } : Jvm.MethodName)) ∈ BIG := inT 1050 (by decide +kernel)
theorem bw_1051 : (Jvm.Cond.code ({ cls := "TextRegionsModel", name := "lay", desc := "(I)V" } : Jvm.MethodName) prog_14_method_18_code (10 : Nat) (Option.none : Option Jvm.ClassFile.FieldType)) ∈ BIG := inT 1051 (by decide +kernel)
theorem bw_1052 : (Jvm.Cond.methodLink "TextRegionsLaw" (94 : Nat) ({ cls := "TextRegionsModel", name := "at", desc := "(II)Z" } : Jvm.MethodName)) ∈ BIG := inT 1052 (by decide +kernel)
theorem bw_1053 : (Jvm.Cond.instanceMethod ({ cls := "TextRegionsModel", name := "at", desc := "(II)Z" } : Jvm.MethodName)) ∈ BIG := inT 1053 (by decide +kernel)
theorem bw_1054 : (Jvm.Cond.selects "TextRegionsModel" ({ cls := "TextRegionsModel", name := "at", desc := "(II)Z" } : Jvm.MethodName) ({ cls := "TextRegionsModel", name := "at", desc := "(II)Z" } : Jvm.MethodName)) ∈ BIG := inT 1054 (by decide +kernel)
theorem bw_1055 : (Jvm.Cond.code ({ cls := "TextRegionsModel", name := "at", desc := "(II)Z" } : Jvm.MethodName) prog_14_method_20_code (3 : Nat) (Option.some Jvm.ClassFile.FieldType.boolean)) ∈ BIG := inT 1055 (by decide +kernel)
theorem bw_1056 : (Jvm.Cond.methodLink "TextRegionsLaw" (87 : Nat) ({ cls := "TextRegionsModel", name := "order", desc := "(I)I" } : Jvm.MethodName)) ∈ BIG := inT 1056 (by decide +kernel)
theorem bw_1057 : (Jvm.Cond.instanceMethod ({ cls := "TextRegionsModel", name := "order", desc := "(I)I" } : Jvm.MethodName)) ∈ BIG := inT 1057 (by decide +kernel)
theorem bw_1058 : (Jvm.Cond.selects "TextRegionsModel" ({ cls := "TextRegionsModel", name := "order", desc := "(I)I" } : Jvm.MethodName) ({ cls := "TextRegionsModel", name := "order", desc := "(I)I" } : Jvm.MethodName)) ∈ BIG := inT 1058 (by decide +kernel)
theorem bw_1059 : (Jvm.Cond.code ({ cls := "TextRegionsModel", name := "order", desc := "(I)I" } : Jvm.MethodName) prog_14_method_34_code (6 : Nat) (Option.some Jvm.ClassFile.FieldType.int)) ∈ BIG := inT 1059 (by decide +kernel)
theorem bw_1060 : (Jvm.Cond.methodLink "TextRegionsModel" (187 : Nat) ({ cls := "TextRegionsModel", name := "tellAll", desc := "(Z)V" } : Jvm.MethodName)) ∈ BIG := inT 1060 (by decide +kernel)
theorem bw_1062 : (Jvm.Cond.instanceMethod ({ cls := "TextRegionsModel", name := "tellAll", desc := "(Z)V" } : Jvm.MethodName)) ∈ BIG := inT 1062 (by decide +kernel)
theorem bw_1063 : (Jvm.Cond.code ({ cls := "TextRegionsModel", name := "tellAll", desc := "(Z)V" } : Jvm.MethodName) prog_14_method_32_code (9 : Nat) (Option.none : Option Jvm.ClassFile.FieldType)) ∈ BIG := inT 1063 (by decide +kernel)
theorem bw_1064 : (Jvm.Cond.methodLink "TextRegionsModel" (160 : Nat) ({ cls := "TextRegionsModel", name := "number", desc := "(I)V" } : Jvm.MethodName)) ∈ BIG := inT 1064 (by decide +kernel)
theorem bw_1066 : (Jvm.Cond.instanceMethod ({ cls := "TextRegionsModel", name := "number", desc := "(I)V" } : Jvm.MethodName)) ∈ BIG := inT 1066 (by decide +kernel)
theorem bw_1067 : (Jvm.Cond.code ({ cls := "TextRegionsModel", name := "number", desc := "(I)V" } : Jvm.MethodName) prog_14_method_26_code (3 : Nat) (Option.none : Option Jvm.ClassFile.FieldType)) ∈ BIG := inT 1067 (by decide +kernel)
theorem bw_1068 : (Jvm.Cond.methodLink "TextRegionsModel" (156 : Nat) ({ cls := "TextRegionsModel", name := "low", desc := "(II)V" } : Jvm.MethodName)) ∈ BIG := inT 1068 (by decide +kernel)
theorem bw_1070 : (Jvm.Cond.instanceMethod ({ cls := "TextRegionsModel", name := "low", desc := "(II)V" } : Jvm.MethodName)) ∈ BIG := inT 1070 (by decide +kernel)
theorem bw_1071 : (Jvm.Cond.code ({ cls := "TextRegionsModel", name := "low", desc := "(II)V" } : Jvm.MethodName) prog_14_method_25_code (4 : Nat) (Option.none : Option Jvm.ClassFile.FieldType)) ∈ BIG := inT 1071 (by decide +kernel)
theorem bw_1072 : (Jvm.Cond.methodLink "TextRegionsModel" (153 : Nat) ({ cls := "TextRegionsModel", name := "bit", desc := "(I)V" } : Jvm.MethodName)) ∈ BIG := inT 1072 (by decide +kernel)
theorem bw_1074 : (Jvm.Cond.instanceMethod ({ cls := "TextRegionsModel", name := "bit", desc := "(I)V" } : Jvm.MethodName)) ∈ BIG := inT 1074 (by decide +kernel)
theorem bw_1075 : (Jvm.Cond.code ({ cls := "TextRegionsModel", name := "bit", desc := "(I)V" } : Jvm.MethodName) prog_14_method_24_code (2 : Nat) (Option.none : Option Jvm.ClassFile.FieldType)) ∈ BIG := inT 1075 (by decide +kernel)
theorem bw_1076 : (Jvm.Cond.methodLink "TextRegionsModel" (166 : Nat) ({ cls := "TextRegionsModel", name := "beginRow", desc := "()V" } : Jvm.MethodName)) ∈ BIG := inT 1076 (by decide +kernel)
theorem bw_1078 : (Jvm.Cond.instanceMethod ({ cls := "TextRegionsModel", name := "beginRow", desc := "()V" } : Jvm.MethodName)) ∈ BIG := inT 1078 (by decide +kernel)
theorem bw_1079 : (Jvm.Cond.code ({ cls := "TextRegionsModel", name := "beginRow", desc := "()V" } : Jvm.MethodName) prog_14_method_28_code (2 : Nat) (Option.none : Option Jvm.ClassFile.FieldType)) ∈ BIG := inT 1079 (by decide +kernel)
theorem bw_1080 : (Jvm.Cond.methodLink "TextRegionsModel" (169 : Nat) ({ cls := "TextRegionsModel", name := "findLengths", desc := "()V" } : Jvm.MethodName)) ∈ BIG := inT 1080 (by decide +kernel)
theorem bw_1082 : (Jvm.Cond.instanceMethod ({ cls := "TextRegionsModel", name := "findLengths", desc := "()V" } : Jvm.MethodName)) ∈ BIG := inT 1082 (by decide +kernel)
theorem bw_1083 : (Jvm.Cond.code ({ cls := "TextRegionsModel", name := "findLengths", desc := "()V" } : Jvm.MethodName) prog_14_method_22_code (6 : Nat) (Option.none : Option Jvm.ClassFile.FieldType)) ∈ BIG := inT 1083 (by decide +kernel)
theorem bw_1084 : (Jvm.Cond.methodLink "TextRegionsModel" (143 : Nat) ({ cls := "TextRegionsModel", name := "leastNode", desc := "(I)I" } : Jvm.MethodName)) ∈ BIG := inT 1084 (by decide +kernel)
theorem bw_1086 : (Jvm.Cond.instanceMethod ({ cls := "TextRegionsModel", name := "leastNode", desc := "(I)I" } : Jvm.MethodName)) ∈ BIG := inT 1086 (by decide +kernel)
theorem bw_1087 : (Jvm.Cond.code ({ cls := "TextRegionsModel", name := "leastNode", desc := "(I)I" } : Jvm.MethodName) prog_14_method_21_code (4 : Nat) (Option.some Jvm.ClassFile.FieldType.int)) ∈ BIG := inT 1087 (by decide +kernel)
theorem bw_1088 : (Jvm.Cond.methodLink "TextRegionsModel" (172 : Nat) ({ cls := "TextRegionsModel", name := "findCodes", desc := "()V" } : Jvm.MethodName)) ∈ BIG := inT 1088 (by decide +kernel)
theorem bw_1090 : (Jvm.Cond.instanceMethod ({ cls := "TextRegionsModel", name := "findCodes", desc := "()V" } : Jvm.MethodName)) ∈ BIG := inT 1090 (by decide +kernel)
theorem bw_1091 : (Jvm.Cond.code ({ cls := "TextRegionsModel", name := "findCodes", desc := "()V" } : Jvm.MethodName) prog_14_method_23_code (7 : Nat) (Option.none : Option Jvm.ClassFile.FieldType)) ∈ BIG := inT 1091 (by decide +kernel)
theorem bw_1092 : (Jvm.Cond.methodLink "TextRegionsModel" (175 : Nat) ({ cls := "TextRegionsModel", name := "sOf", desc := "(I)I" } : Jvm.MethodName)) ∈ BIG := inT 1092 (by decide +kernel)
theorem bw_1094 : (Jvm.Cond.instanceMethod ({ cls := "TextRegionsModel", name := "sOf", desc := "(I)I" } : Jvm.MethodName)) ∈ BIG := inT 1094 (by decide +kernel)
theorem bw_1095 : (Jvm.Cond.code ({ cls := "TextRegionsModel", name := "sOf", desc := "(I)I" } : Jvm.MethodName) prog_14_method_14_code (2 : Nat) (Option.some Jvm.ClassFile.FieldType.int)) ∈ BIG := inT 1095 (by decide +kernel)
theorem bw_1096 : (Jvm.Cond.methodLink "TextRegionsModel" (178 : Nat) ({ cls := "TextRegionsModel", name := "signed", desc := "(I)V" } : Jvm.MethodName)) ∈ BIG := inT 1096 (by decide +kernel)
theorem bw_1098 : (Jvm.Cond.instanceMethod ({ cls := "TextRegionsModel", name := "signed", desc := "(I)V" } : Jvm.MethodName)) ∈ BIG := inT 1098 (by decide +kernel)
theorem bw_1099 : (Jvm.Cond.code ({ cls := "TextRegionsModel", name := "signed", desc := "(I)V" } : Jvm.MethodName) prog_14_method_27_code (2 : Nat) (Option.none : Option Jvm.ClassFile.FieldType)) ∈ BIG := inT 1099 (by decide +kernel)
theorem bw_1100 : (Jvm.Cond.methodLink "TextRegionsModel" (181 : Nat) ({ cls := "TextRegionsModel", name := "name", desc := "(I)V" } : Jvm.MethodName)) ∈ BIG := inT 1100 (by decide +kernel)
theorem bw_1102 : (Jvm.Cond.instanceMethod ({ cls := "TextRegionsModel", name := "name", desc := "(I)V" } : Jvm.MethodName)) ∈ BIG := inT 1102 (by decide +kernel)
theorem bw_1103 : (Jvm.Cond.code ({ cls := "TextRegionsModel", name := "name", desc := "(I)V" } : Jvm.MethodName) prog_14_method_30_code (3 : Nat) (Option.none : Option Jvm.ClassFile.FieldType)) ∈ BIG := inT 1103 (by decide +kernel)
theorem bw_1104 : (Jvm.Cond.methodLink "TextRegionsModel" (163 : Nat) ({ cls := "TextRegionsModel", name := "toFront", desc := "(I)V" } : Jvm.MethodName)) ∈ BIG := inT 1104 (by decide +kernel)
theorem bw_1106 : (Jvm.Cond.instanceMethod ({ cls := "TextRegionsModel", name := "toFront", desc := "(I)V" } : Jvm.MethodName)) ∈ BIG := inT 1106 (by decide +kernel)
theorem bw_1107 : (Jvm.Cond.code ({ cls := "TextRegionsModel", name := "toFront", desc := "(I)V" } : Jvm.MethodName) prog_14_method_29_code (4 : Nat) (Option.none : Option Jvm.ClassFile.FieldType)) ∈ BIG := inT 1107 (by decide +kernel)
theorem bw_1108 : (Jvm.Cond.methodLink "TextRegionsModel" (184 : Nat) ({ cls := "TextRegionsModel", name := "runs", desc := "(I)V" } : Jvm.MethodName)) ∈ BIG := inT 1108 (by decide +kernel)
theorem bw_1110 : (Jvm.Cond.instanceMethod ({ cls := "TextRegionsModel", name := "runs", desc := "(I)V" } : Jvm.MethodName)) ∈ BIG := inT 1110 (by decide +kernel)
theorem bw_1111 : (Jvm.Cond.code ({ cls := "TextRegionsModel", name := "runs", desc := "(I)V" } : Jvm.MethodName) prog_14_method_31_code (8 : Nat) (Option.none : Option Jvm.ClassFile.FieldType)) ∈ BIG := inT 1111 (by decide +kernel)
theorem bw_1112 : (Jvm.Cond.methodLink "TextRegionsModel" (191 : Nat) ({ cls := "TextRegionsModel", name := "change", desc := "(II)V" } : Jvm.MethodName)) ∈ BIG := inT 1112 (by decide +kernel)
theorem bw_1114 : (Jvm.Cond.instanceMethod ({ cls := "TextRegionsModel", name := "change", desc := "(II)V" } : Jvm.MethodName)) ∈ BIG := inT 1114 (by decide +kernel)
theorem bw_1115 : (Jvm.Cond.code ({ cls := "TextRegionsModel", name := "change", desc := "(II)V" } : Jvm.MethodName) prog_14_method_33_code (6 : Nat) (Option.none : Option Jvm.ClassFile.FieldType)) ∈ BIG := inT 1115 (by decide +kernel)
theorem bw_1116 : (Jvm.Cond.methodLink "TextRegionsLaw" (98 : Nat) ({ cls := "TextRegionsModel", name := "write", desc := "()I" } : Jvm.MethodName)) ∈ BIG := inT 1116 (by decide +kernel)
theorem bw_1117 : (Jvm.Cond.instanceMethod ({ cls := "TextRegionsModel", name := "write", desc := "()I" } : Jvm.MethodName)) ∈ BIG := inT 1117 (by decide +kernel)
theorem bw_1118 : (Jvm.Cond.selects "TextRegionsModel" ({ cls := "TextRegionsModel", name := "write", desc := "()I" } : Jvm.MethodName) ({ cls := "TextRegionsModel", name := "write", desc := "()I" } : Jvm.MethodName)) ∈ BIG := inT 1118 (by decide +kernel)
theorem bw_1119 : (Jvm.Cond.code ({ cls := "TextRegionsModel", name := "write", desc := "()I" } : Jvm.MethodName) prog_14_method_35_code (1 : Nat) (Option.some Jvm.ClassFile.FieldType.int)) ∈ BIG := inT 1119 (by decide +kernel)
theorem bw_1120 : (Jvm.Cond.methodLink "TextRegionsLaw" (101 : Nat) ({ cls := "TextRegionsModel", name := "byteAt", desc := "(I)I" } : Jvm.MethodName)) ∈ BIG := inT 1120 (by decide +kernel)
theorem bw_1121 : (Jvm.Cond.instanceMethod ({ cls := "TextRegionsModel", name := "byteAt", desc := "(I)I" } : Jvm.MethodName)) ∈ BIG := inT 1121 (by decide +kernel)
theorem bw_1122 : (Jvm.Cond.selects "TextRegionsModel" ({ cls := "TextRegionsModel", name := "byteAt", desc := "(I)I" } : Jvm.MethodName) ({ cls := "TextRegionsModel", name := "byteAt", desc := "(I)I" } : Jvm.MethodName)) ∈ BIG := inT 1122 (by decide +kernel)
theorem bw_1123 : (Jvm.Cond.code ({ cls := "TextRegionsModel", name := "byteAt", desc := "(I)I" } : Jvm.MethodName) prog_14_method_36_code (2 : Nat) (Option.some Jvm.ClassFile.FieldType.int)) ∈ BIG := inT 1123 (by decide +kernel)
theorem bw_1124 : (Jvm.Cond.methodLink "TextRegionsLaw" (104 : Nat) ({ cls := "TextRegionsModel", name := "feed", desc := "(I)I" } : Jvm.MethodName)) ∈ BIG := inT 1124 (by decide +kernel)
theorem bw_1125 : (Jvm.Cond.instanceMethod ({ cls := "TextRegionsModel", name := "feed", desc := "(I)I" } : Jvm.MethodName)) ∈ BIG := inT 1125 (by decide +kernel)
theorem bw_1126 : (Jvm.Cond.selects "TextRegionsModel" ({ cls := "TextRegionsModel", name := "feed", desc := "(I)I" } : Jvm.MethodName) ({ cls := "TextRegionsModel", name := "feed", desc := "(I)I" } : Jvm.MethodName)) ∈ BIG := inT 1126 (by decide +kernel)
theorem bw_1127 : (Jvm.Cond.code ({ cls := "TextRegionsModel", name := "feed", desc := "(I)I" } : Jvm.MethodName) prog_14_method_37_code (2 : Nat) (Option.some Jvm.ClassFile.FieldType.int)) ∈ BIG := inT 1127 (by decide +kernel)
theorem bw_1128 : (Jvm.Cond.methodLink "TextRegionsLaw" (108 : Nat) ({ cls := "TextRegionsModel", name := "pass", desc := "()I" } : Jvm.MethodName)) ∈ BIG := inT 1128 (by decide +kernel)
theorem bw_1129 : (Jvm.Cond.instanceMethod ({ cls := "TextRegionsModel", name := "pass", desc := "()I" } : Jvm.MethodName)) ∈ BIG := inT 1129 (by decide +kernel)
theorem bw_1130 : (Jvm.Cond.selects "TextRegionsModel" ({ cls := "TextRegionsModel", name := "pass", desc := "()I" } : Jvm.MethodName) ({ cls := "TextRegionsModel", name := "pass", desc := "()I" } : Jvm.MethodName)) ∈ BIG := inT 1130 (by decide +kernel)
theorem bw_1131 : (Jvm.Cond.code ({ cls := "TextRegionsModel", name := "pass", desc := "()I" } : Jvm.MethodName) prog_14_method_38_code (2 : Nat) (Option.some Jvm.ClassFile.FieldType.int)) ∈ BIG := inT 1131 (by decide +kernel)
theorem bw_1132 : (Jvm.Cond.methodLink "TextRegionsLaw" (112 : Nat) ({ cls := "TextRegionsModel", name := "read", desc := "()I" } : Jvm.MethodName)) ∈ BIG := inT 1132 (by decide +kernel)
theorem bw_1133 : (Jvm.Cond.instanceMethod ({ cls := "TextRegionsModel", name := "read", desc := "()I" } : Jvm.MethodName)) ∈ BIG := inT 1133 (by decide +kernel)
theorem bw_1134 : (Jvm.Cond.selects "TextRegionsModel" ({ cls := "TextRegionsModel", name := "read", desc := "()I" } : Jvm.MethodName) ({ cls := "TextRegionsModel", name := "read", desc := "()I" } : Jvm.MethodName)) ∈ BIG := inT 1134 (by decide +kernel)
theorem bw_1135 : (Jvm.Cond.code ({ cls := "TextRegionsModel", name := "read", desc := "()I" } : Jvm.MethodName) prog_14_method_49_code (2 : Nat) (Option.some Jvm.ClassFile.FieldType.int)) ∈ BIG := inT 1135 (by decide +kernel)
theorem bw_1136 : (Jvm.Cond.methodLink "TextRegionsModel" (239 : Nat) ({ cls := "TextRegionsModel", name := "readAll", desc := "()V" } : Jvm.MethodName)) ∈ BIG := inT 1136 (by decide +kernel)
theorem bw_1138 : (Jvm.Cond.instanceMethod ({ cls := "TextRegionsModel", name := "readAll", desc := "()V" } : Jvm.MethodName)) ∈ BIG := inT 1138 (by decide +kernel)
theorem bw_1139 : (Jvm.Cond.code ({ cls := "TextRegionsModel", name := "readAll", desc := "()V" } : Jvm.MethodName) prog_14_method_48_code (9 : Nat) (Option.none : Option Jvm.ClassFile.FieldType)) ∈ BIG := inT 1139 (by decide +kernel)
theorem bw_1140 : (Jvm.Cond.methodLink "TextRegionsModel" (216 : Nat) ({ cls := "TextRegionsModel", name := "nextNumber", desc := "()I" } : Jvm.MethodName)) ∈ BIG := inT 1140 (by decide +kernel)
theorem bw_1142 : (Jvm.Cond.instanceMethod ({ cls := "TextRegionsModel", name := "nextNumber", desc := "()I" } : Jvm.MethodName)) ∈ BIG := inT 1142 (by decide +kernel)
theorem bw_1143 : (Jvm.Cond.code ({ cls := "TextRegionsModel", name := "nextNumber", desc := "()I" } : Jvm.MethodName) prog_14_method_42_code (4 : Nat) (Option.some Jvm.ClassFile.FieldType.int)) ∈ BIG := inT 1143 (by decide +kernel)
theorem bw_1144 : (Jvm.Cond.methodLink "TextRegionsModel" (209 : Nat) ({ cls := "TextRegionsModel", name := "next", desc := "()I" } : Jvm.MethodName)) ∈ BIG := inT 1144 (by decide +kernel)
theorem bw_1146 : (Jvm.Cond.instanceMethod ({ cls := "TextRegionsModel", name := "next", desc := "()I" } : Jvm.MethodName)) ∈ BIG := inT 1146 (by decide +kernel)
theorem bw_1147 : (Jvm.Cond.code ({ cls := "TextRegionsModel", name := "next", desc := "()I" } : Jvm.MethodName) prog_14_method_40_code (2 : Nat) (Option.some Jvm.ClassFile.FieldType.int)) ∈ BIG := inT 1147 (by decide +kernel)
theorem bw_1148 : (Jvm.Cond.methodLink "TextRegionsModel" (206 : Nat) ({ cls := "TextRegionsModel", name := "refuse", desc := "(I)V" } : Jvm.MethodName)) ∈ BIG := inT 1148 (by decide +kernel)
theorem bw_1150 : (Jvm.Cond.instanceMethod ({ cls := "TextRegionsModel", name := "refuse", desc := "(I)V" } : Jvm.MethodName)) ∈ BIG := inT 1150 (by decide +kernel)
theorem bw_1151 : (Jvm.Cond.code ({ cls := "TextRegionsModel", name := "refuse", desc := "(I)V" } : Jvm.MethodName) prog_14_method_39_code (2 : Nat) (Option.none : Option Jvm.ClassFile.FieldType)) ∈ BIG := inT 1151 (by decide +kernel)
theorem bw_1152 : (Jvm.Cond.methodLink "TextRegionsModel" (213 : Nat) ({ cls := "TextRegionsModel", name := "nextLow", desc := "(I)I" } : Jvm.MethodName)) ∈ BIG := inT 1152 (by decide +kernel)
theorem bw_1154 : (Jvm.Cond.instanceMethod ({ cls := "TextRegionsModel", name := "nextLow", desc := "(I)I" } : Jvm.MethodName)) ∈ BIG := inT 1154 (by decide +kernel)
theorem bw_1155 : (Jvm.Cond.code ({ cls := "TextRegionsModel", name := "nextLow", desc := "(I)I" } : Jvm.MethodName) prog_14_method_41_code (4 : Nat) (Option.some Jvm.ClassFile.FieldType.int)) ∈ BIG := inT 1155 (by decide +kernel)
theorem bw_1156 : (Jvm.Cond.methodLink "TextRegionsModel" (230 : Nat) ({ cls := "TextRegionsModel", name := "readCodes", desc := "(I)V" } : Jvm.MethodName)) ∈ BIG := inT 1156 (by decide +kernel)
theorem bw_1158 : (Jvm.Cond.instanceMethod ({ cls := "TextRegionsModel", name := "readCodes", desc := "(I)V" } : Jvm.MethodName)) ∈ BIG := inT 1158 (by decide +kernel)
theorem bw_1159 : (Jvm.Cond.code ({ cls := "TextRegionsModel", name := "readCodes", desc := "(I)V" } : Jvm.MethodName) prog_14_method_44_code (5 : Nat) (Option.none : Option Jvm.ClassFile.FieldType)) ∈ BIG := inT 1159 (by decide +kernel)
theorem bw_1160 : (Jvm.Cond.constant "TextRegionsModel" (219 : Nat) (32768 : Int32)) ∈ BIG := inT 1160 (by decide +kernel)
theorem bw_1161 : (Jvm.Cond.methodLink "TextRegionsModel" (233 : Nat) ({ cls := "TextRegionsModel", name := "nextSigned", desc := "()I" } : Jvm.MethodName)) ∈ BIG := inT 1161 (by decide +kernel)
theorem bw_1163 : (Jvm.Cond.instanceMethod ({ cls := "TextRegionsModel", name := "nextSigned", desc := "()I" } : Jvm.MethodName)) ∈ BIG := inT 1163 (by decide +kernel)
theorem bw_1164 : (Jvm.Cond.code ({ cls := "TextRegionsModel", name := "nextSigned", desc := "()I" } : Jvm.MethodName) prog_14_method_43_code (2 : Nat) (Option.some Jvm.ClassFile.FieldType.int)) ∈ BIG := inT 1164 (by decide +kernel)
theorem bw_1165 : (Jvm.Cond.methodLink "TextRegionsModel" (236 : Nat) ({ cls := "TextRegionsModel", name := "readInstance", desc := "(II)V" } : Jvm.MethodName)) ∈ BIG := inT 1165 (by decide +kernel)
theorem bw_1167 : (Jvm.Cond.instanceMethod ({ cls := "TextRegionsModel", name := "readInstance", desc := "(II)V" } : Jvm.MethodName)) ∈ BIG := inT 1167 (by decide +kernel)
theorem bw_1168 : (Jvm.Cond.code ({ cls := "TextRegionsModel", name := "readInstance", desc := "(II)V" } : Jvm.MethodName) prog_14_method_47_code (9 : Nat) (Option.none : Option Jvm.ClassFile.FieldType)) ∈ BIG := inT 1168 (by decide +kernel)
theorem bw_1169 : (Jvm.Cond.methodLink "TextRegionsModel" (220 : Nat) ({ cls := "TextRegionsModel", name := "nextName", desc := "()I" } : Jvm.MethodName)) ∈ BIG := inT 1169 (by decide +kernel)
theorem bw_1171 : (Jvm.Cond.instanceMethod ({ cls := "TextRegionsModel", name := "nextName", desc := "()I" } : Jvm.MethodName)) ∈ BIG := inT 1171 (by decide +kernel)
theorem bw_1172 : (Jvm.Cond.code ({ cls := "TextRegionsModel", name := "nextName", desc := "()I" } : Jvm.MethodName) prog_14_method_45_code (5 : Nat) (Option.some Jvm.ClassFile.FieldType.int)) ∈ BIG := inT 1172 (by decide +kernel)
theorem bw_1173 : (Jvm.Cond.methodLink "TextRegionsModel" (226 : Nat) ({ cls := "TextRegionsModel", name := "nextRuns", desc := "(I)J" } : Jvm.MethodName)) ∈ BIG := inT 1173 (by decide +kernel)
theorem bw_1175 : (Jvm.Cond.instanceMethod ({ cls := "TextRegionsModel", name := "nextRuns", desc := "(I)J" } : Jvm.MethodName)) ∈ BIG := inT 1175 (by decide +kernel)
theorem bw_1176 : (Jvm.Cond.code ({ cls := "TextRegionsModel", name := "nextRuns", desc := "(I)J" } : Jvm.MethodName) prog_14_method_46_code (12 : Nat) (Option.some Jvm.ClassFile.FieldType.long)) ∈ BIG := inT 1176 (by decide +kernel)
theorem bw_1177 : (Jvm.Cond.methodLink "TextRegionsLaw" (115 : Nat) ({ cls := "TextRegionsModel", name := "place", desc := "(II)I" } : Jvm.MethodName)) ∈ BIG := inT 1177 (by decide +kernel)
theorem bw_1178 : (Jvm.Cond.instanceMethod ({ cls := "TextRegionsModel", name := "place", desc := "(II)I" } : Jvm.MethodName)) ∈ BIG := inT 1178 (by decide +kernel)
theorem bw_1179 : (Jvm.Cond.selects "TextRegionsModel" ({ cls := "TextRegionsModel", name := "place", desc := "(II)I" } : Jvm.MethodName) ({ cls := "TextRegionsModel", name := "place", desc := "(II)I" } : Jvm.MethodName)) ∈ BIG := inT 1179 (by decide +kernel)
theorem bw_1180 : (Jvm.Cond.code ({ cls := "TextRegionsModel", name := "place", desc := "(II)I" } : Jvm.MethodName) prog_14_method_50_code (5 : Nat) (Option.some Jvm.ClassFile.FieldType.int)) ∈ BIG := inT 1180 (by decide +kernel)
theorem bw_1181 : (Jvm.Cond.methodLink "TextRegionsLaw" (122 : Nat) ({ cls := "TextRegionsModel", name := "told", desc := "(I)I" } : Jvm.MethodName)) ∈ BIG := inT 1181 (by decide +kernel)
theorem bw_1182 : (Jvm.Cond.instanceMethod ({ cls := "TextRegionsModel", name := "told", desc := "(I)I" } : Jvm.MethodName)) ∈ BIG := inT 1182 (by decide +kernel)
theorem bw_1183 : (Jvm.Cond.selects "TextRegionsModel" ({ cls := "TextRegionsModel", name := "told", desc := "(I)I" } : Jvm.MethodName) ({ cls := "TextRegionsModel", name := "told", desc := "(I)I" } : Jvm.MethodName)) ∈ BIG := inT 1183 (by decide +kernel)
theorem bw_1184 : (Jvm.Cond.code ({ cls := "TextRegionsModel", name := "told", desc := "(I)I" } : Jvm.MethodName) prog_14_method_51_code (2 : Nat) (Option.some Jvm.ClassFile.FieldType.int)) ∈ BIG := inT 1184 (by decide +kernel)
theorem bw_1185 : (Jvm.Cond.methodLink "TextRegionsLaw" (126 : Nat) ({ cls := "TextRegionsModel", name := "clear", desc := "()V" } : Jvm.MethodName)) ∈ BIG := inT 1185 (by decide +kernel)
theorem bw_1186 : (Jvm.Cond.instanceMethod ({ cls := "TextRegionsModel", name := "clear", desc := "()V" } : Jvm.MethodName)) ∈ BIG := inT 1186 (by decide +kernel)
theorem bw_1187 : (Jvm.Cond.selects "TextRegionsModel" ({ cls := "TextRegionsModel", name := "clear", desc := "()V" } : Jvm.MethodName) ({ cls := "TextRegionsModel", name := "clear", desc := "()V" } : Jvm.MethodName)) ∈ BIG := inT 1187 (by decide +kernel)
theorem bw_1188 : (Jvm.Cond.code ({ cls := "TextRegionsModel", name := "clear", desc := "()V" } : Jvm.MethodName) prog_14_method_52_code (2 : Nat) (Option.none : Option Jvm.ClassFile.FieldType)) ∈ BIG := inT 1188 (by decide +kernel)
theorem bs_0 : Cond.selects "TextRegions$Layout" ⟨"TextRegions$Layout", "arrange", "()V"⟩ ⟨"TextRegions$Layout", "arrange", "()V"⟩ ∈ BIG := inS 0 (by decide +kernel)
theorem bs_1 : Cond.selects "TextRegions$Layout" ⟨"TextRegions$Layout", "strip", "(I)I"⟩ ⟨"TextRegions$Layout", "strip", "(I)I"⟩ ∈ BIG := inS 1 (by decide +kernel)
theorem bs_2 : Cond.selects "TextRegions$Layout" ⟨"TextRegions$Layout", "cornerT", "(I)I"⟩ ⟨"TextRegions$Layout", "cornerT", "(I)I"⟩ ∈ BIG := inS 2 (by decide +kernel)
theorem bs_3 : Cond.selects "TextRegions$Layout" ⟨"TextRegions$Layout", "isTurned", "()Z"⟩ ⟨"TextRegions$Layout", "isTurned", "()Z"⟩ ∈ BIG := inS 3 (by decide +kernel)
theorem bs_4 : Cond.selects "TextRegions$Layout" ⟨"TextRegions$Layout", "cornerColumn", "(I)I"⟩ ⟨"TextRegions$Layout", "cornerColumn", "(I)I"⟩ ∈ BIG := inS 4 (by decide +kernel)
theorem bs_5 : Cond.selects "TextRegions$Layout" ⟨"TextRegions$Layout", "cornerRow", "(I)I"⟩ ⟨"TextRegions$Layout", "cornerRow", "(I)I"⟩ ∈ BIG := inS 5 (by decide +kernel)
theorem bs_6 : Cond.selects "TextRegions$Page" ⟨"TextRegions$Page", "lighten", "()V"⟩ ⟨"TextRegions$Page", "lighten", "()V"⟩ ∈ BIG := inS 6 (by decide +kernel)
theorem bs_7 : Cond.selects "TextRegions$Page" ⟨"TextRegions$Page", "lay", "(LTextRegions$Layout;I)V"⟩ ⟨"TextRegions$Page", "lay", "(LTextRegions$Layout;I)V"⟩ ∈ BIG := inS 7 (by decide +kernel)
theorem bs_8 : Cond.selects "TextRegions$Dictionary" ⟨"TextRegions$Dictionary", "sampleNumber", "(III)I"⟩ ⟨"TextRegions$Dictionary", "sampleNumber", "(III)I"⟩ ∈ BIG := inS 8 (by decide +kernel)
theorem bs_9 : Cond.selects "TextRegions$Page" ⟨"TextRegions$Page", "laySample", "(IIZI)V"⟩ ⟨"TextRegions$Page", "laySample", "(IIZI)V"⟩ ∈ BIG := inS 9 (by decide +kernel)
theorem bs_10 : Cond.selects "TextRegions$Page" ⟨"TextRegions$Page", "has", "(II)Z"⟩ ⟨"TextRegions$Page", "has", "(II)Z"⟩ ∈ BIG := inS 10 (by decide +kernel)
theorem bs_11 : Cond.selects "TextRegions$Page" ⟨"TextRegions$Page", "countDark", "()I"⟩ ⟨"TextRegions$Page", "countDark", "()I"⟩ ∈ BIG := inS 11 (by decide +kernel)
theorem bs_12 : Cond.selects "TextRegions$Teller" ⟨"TextRegions$Teller", "prepare", "(LTextRegions$Layout;)V"⟩ ⟨"TextRegions$Teller", "prepare", "(LTextRegions$Layout;)V"⟩ ∈ BIG := inS 12 (by decide +kernel)
theorem bs_13 : Cond.selects "TextRegions$CodeNames" ⟨"TextRegions$CodeNames", "weigh", "(LTextRegions$Layout;)V"⟩ ⟨"TextRegions$CodeNames", "weigh", "(LTextRegions$Layout;)V"⟩ ∈ BIG := inS 13 (by decide +kernel)
theorem bs_14 : Cond.selects "TextRegions$CodeNames" ⟨"TextRegions$CodeNames", "joinLeast", "(I)I"⟩ ⟨"TextRegions$CodeNames", "joinLeast", "(I)I"⟩ ∈ BIG := inS 14 (by decide +kernel)
theorem bs_15 : Cond.selects "TextRegions$CodeNames" ⟨"TextRegions$CodeNames", "joinsOf", "(I)I"⟩ ⟨"TextRegions$CodeNames", "joinsOf", "(I)I"⟩ ∈ BIG := inS 15 (by decide +kernel)
theorem bs_16 : Cond.selects "TextRegions$CodeNames" ⟨"TextRegions$CodeNames", "assignCodes", "()V"⟩ ⟨"TextRegions$CodeNames", "assignCodes", "()V"⟩ ∈ BIG := inS 16 (by decide +kernel)
theorem bs_17 : Cond.selects "TextRegions$Teller" ⟨"TextRegions$Teller", "tellAll", "(LTextRegions$Layout;Z)I"⟩ ⟨"TextRegions$Teller", "tellAll", "(LTextRegions$Layout;Z)I"⟩ ∈ BIG := inS 17 (by decide +kernel)
theorem bs_18 : Cond.selects "TextRegions$BitWriter" ⟨"TextRegions$BitWriter", "start", "(Z)V"⟩ ⟨"TextRegions$BitWriter", "start", "(Z)V"⟩ ∈ BIG := inS 18 (by decide +kernel)
theorem bs_19 : Cond.selects "TextRegions$BitWriter" ⟨"TextRegions$BitWriter", "tellNumber", "(I)V"⟩ ⟨"TextRegions$BitWriter", "tellNumber", "(I)V"⟩ ∈ BIG := inS 19 (by decide +kernel)
theorem bs_20 : Cond.selects "TextRegions$BitWriter" ⟨"TextRegions$BitWriter", "tellBits", "(II)V"⟩ ⟨"TextRegions$BitWriter", "tellBits", "(II)V"⟩ ∈ BIG := inS 20 (by decide +kernel)
theorem bs_21 : Cond.selects "TextRegions$ByteRow" ⟨"TextRegions$ByteRow", "append", "(I)V"⟩ ⟨"TextRegions$ByteRow", "append", "(I)V"⟩ ∈ BIG := inS 21 (by decide +kernel)
theorem bs_22 : Cond.selects "TextRegions$FrontNames" ⟨"TextRegions$FrontNames", "putByNumber", "()V"⟩ ⟨"TextRegions$FrontNames", "putByNumber", "()V"⟩ ∈ BIG := inS 22 (by decide +kernel)
theorem bs_23 : Cond.selects "TextRegions$Teller" ⟨"TextRegions$Teller", "tellInstances", "(LTextRegions$Layout;)V"⟩ ⟨"TextRegions$Teller", "tellInstances", "(LTextRegions$Layout;)V"⟩ ∈ BIG := inS 23 (by decide +kernel)
theorem bs_24 : Cond.selects "TextRegions$Layout" ⟨"TextRegions$Layout", "cornerS", "(I)I"⟩ ⟨"TextRegions$Layout", "cornerS", "(I)I"⟩ ∈ BIG := inS 24 (by decide +kernel)
theorem bs_25 : Cond.selects "TextRegions$BitWriter" ⟨"TextRegions$BitWriter", "tellSigned", "(I)V"⟩ ⟨"TextRegions$BitWriter", "tellSigned", "(I)V"⟩ ∈ BIG := inS 25 (by decide +kernel)
theorem bs_26 : Cond.selects "TextRegions$FrontNames" ⟨"TextRegions$FrontNames", "toFront", "(I)V"⟩ ⟨"TextRegions$FrontNames", "toFront", "(I)V"⟩ ∈ BIG := inS 26 (by decide +kernel)
theorem bs_27 : Cond.selects "TextRegions$Dictionary" ⟨"TextRegions$Dictionary", "sampleCount", "(I)I"⟩ ⟨"TextRegions$Dictionary", "sampleCount", "(I)I"⟩ ∈ BIG := inS 27 (by decide +kernel)
theorem bs_28 : Cond.selects "TextRegions$Teller" ⟨"TextRegions$Teller", "tellDiffers", "(JI)V"⟩ ⟨"TextRegions$Teller", "tellDiffers", "(JI)V"⟩ ∈ BIG := inS 28 (by decide +kernel)
theorem bs_29 : Cond.selects "TextRegions$Layout" ⟨"TextRegions$Layout", "nextS", "(I)I"⟩ ⟨"TextRegions$Layout", "nextS", "(I)I"⟩ ∈ BIG := inS 29 (by decide +kernel)
theorem bs_30 : Cond.selects "TextRegions$Reader" ⟨"TextRegions$Reader", "readAll", "(LTextRegions$Layout;)I"⟩ ⟨"TextRegions$Reader", "readAll", "(LTextRegions$Layout;)I"⟩ ∈ BIG := inS 30 (by decide +kernel)
theorem bs_31 : Cond.selects "TextRegions$BitReader" ⟨"TextRegions$BitReader", "start", "()V"⟩ ⟨"TextRegions$BitReader", "start", "()V"⟩ ∈ BIG := inS 31 (by decide +kernel)
theorem bs_32 : Cond.selects "TextRegions$Layout" ⟨"TextRegions$Layout", "empty", "()V"⟩ ⟨"TextRegions$Layout", "empty", "()V"⟩ ∈ BIG := inS 32 (by decide +kernel)
theorem bs_33 : Cond.selects "TextRegions$BitReader" ⟨"TextRegions$BitReader", "nextNumber", "()I"⟩ ⟨"TextRegions$BitReader", "nextNumber", "()I"⟩ ∈ BIG := inS 33 (by decide +kernel)
theorem bs_34 : Cond.selects "TextRegions$BitReader" ⟨"TextRegions$BitReader", "nextBit", "()I"⟩ ⟨"TextRegions$BitReader", "nextBit", "()I"⟩ ∈ BIG := inS 34 (by decide +kernel)
theorem bs_35 : Cond.selects "TextRegions$BitReader" ⟨"TextRegions$BitReader", "refuse", "(I)V"⟩ ⟨"TextRegions$BitReader", "refuse", "(I)V"⟩ ∈ BIG := inS 35 (by decide +kernel)
theorem bs_36 : Cond.selects "TextRegions$BitReader" ⟨"TextRegions$BitReader", "nextBits", "(I)I"⟩ ⟨"TextRegions$BitReader", "nextBits", "(I)I"⟩ ∈ BIG := inS 36 (by decide +kernel)
theorem bs_37 : Cond.selects "TextRegions$CodeNames" ⟨"TextRegions$CodeNames", "areAllowed", "(I)Z"⟩ ⟨"TextRegions$CodeNames", "areAllowed", "(I)Z"⟩ ∈ BIG := inS 37 (by decide +kernel)
theorem bs_38 : Cond.selects "TextRegions$Reader" ⟨"TextRegions$Reader", "readInstances", "(LTextRegions$Layout;I)V"⟩ ⟨"TextRegions$Reader", "readInstances", "(LTextRegions$Layout;I)V"⟩ ∈ BIG := inS 38 (by decide +kernel)
theorem bs_39 : Cond.selects "TextRegions$BitReader" ⟨"TextRegions$BitReader", "isRefused", "()Z"⟩ ⟨"TextRegions$BitReader", "isRefused", "()Z"⟩ ∈ BIG := inS 39 (by decide +kernel)
theorem bs_40 : Cond.selects "TextRegions$BitReader" ⟨"TextRegions$BitReader", "nextSigned", "()I"⟩ ⟨"TextRegions$BitReader", "nextSigned", "()I"⟩ ∈ BIG := inS 40 (by decide +kernel)
theorem bs_41 : Cond.selects "TextRegions$Reader" ⟨"TextRegions$Reader", "readPlaced", "(LTextRegions$Layout;II)V"⟩ ⟨"TextRegions$Reader", "readPlaced", "(LTextRegions$Layout;II)V"⟩ ∈ BIG := inS 41 (by decide +kernel)
theorem bs_42 : Cond.selects "TextRegions$CodeNames" ⟨"TextRegions$CodeNames", "symbolOf", "(II)I"⟩ ⟨"TextRegions$CodeNames", "symbolOf", "(II)I"⟩ ∈ BIG := inS 42 (by decide +kernel)
theorem bs_43 : Cond.selects "TextRegions$Layout" ⟨"TextRegions$Layout", "addByCorner", "(III)Z"⟩ ⟨"TextRegions$Layout", "addByCorner", "(III)Z"⟩ ∈ BIG := inS 43 (by decide +kernel)
theorem bs_44 : Cond.selects "TextRegions$Layout" ⟨"TextRegions$Layout", "add", "(III)I"⟩ ⟨"TextRegions$Layout", "add", "(III)I"⟩ ∈ BIG := inS 44 (by decide +kernel)
theorem bs_45 : Cond.selects "TextRegions$Reader" ⟨"TextRegions$Reader", "readDiffers", "(LTextRegions$Layout;)V"⟩ ⟨"TextRegions$Reader", "readDiffers", "(LTextRegions$Layout;)V"⟩ ∈ BIG := inS 45 (by decide +kernel)
theorem bs_46 : Cond.selects "TextRegions$BitReader" ⟨"TextRegions$BitReader", "readEnd", "()V"⟩ ⟨"TextRegions$BitReader", "readEnd", "()V"⟩ ∈ BIG := inS 46 (by decide +kernel)
theorem bs_47 : Cond.selects "TextRegions$Reader" ⟨"TextRegions$Reader", "bitsRead", "()I"⟩ ⟨"TextRegions$Reader", "bitsRead", "()I"⟩ ∈ BIG := inS 47 (by decide +kernel)
theorem bs_48 : Cond.selects "java/lang/Throwable" ⟨"java/lang/Throwable", "fillInStackTrace", "(I)Ljava/lang/Throwable;"⟩ ⟨"java/lang/Throwable", "fillInStackTrace", "(I)Ljava/lang/Throwable;"⟩ ∈ BIG := inS 48 (by decide +kernel)
theorem bs_49 : Cond.selects "TextRegions$Dictionary" ⟨"TextRegions$Dictionary", "add", "(II)I"⟩ ⟨"TextRegions$Dictionary", "add", "(II)I"⟩ ∈ BIG := inS 49 (by decide +kernel)
theorem bs_50 : Cond.selects "TextRegions$Dictionary" ⟨"TextRegions$Dictionary", "has", "(I)Z"⟩ ⟨"TextRegions$Dictionary", "has", "(I)Z"⟩ ∈ BIG := inS 50 (by decide +kernel)
theorem bs_51 : Cond.selects "TextRegions$Dictionary" ⟨"TextRegions$Dictionary", "hasSample", "(III)Z"⟩ ⟨"TextRegions$Dictionary", "hasSample", "(III)Z"⟩ ∈ BIG := inS 51 (by decide +kernel)
theorem bs_52 : Cond.selects "TextRegions$Layout" ⟨"TextRegions$Layout", "has", "(I)Z"⟩ ⟨"TextRegions$Layout", "has", "(I)Z"⟩ ∈ BIG := inS 52 (by decide +kernel)
theorem bs_53 : Cond.selects "TextRegions" ⟨"TextRegions", "changeNeighbours", "()Z"⟩ ⟨"TextRegions", "changeNeighbours", "()Z"⟩ ∈ BIG := inS 53 (by decide +kernel)
theorem bs_54 : Cond.selects "TextRegions$Layout" ⟨"TextRegions$Layout", "swapWithNext", "(I)V"⟩ ⟨"TextRegions$Layout", "swapWithNext", "(I)V"⟩ ∈ BIG := inS 54 (by decide +kernel)
theorem bs_55 : Cond.selects "TextRegionsModel" ⟨"TextRegionsModel", "isSample", "(III)Z"⟩ ⟨"TextRegionsModel", "isSample", "(III)Z"⟩ ∈ BIG := inS 55 (by decide +kernel)
theorem bs_56 : Cond.selects "TextRegionsModel" ⟨"TextRegionsModel", "isInstance", "(I)Z"⟩ ⟨"TextRegionsModel", "isInstance", "(I)Z"⟩ ∈ BIG := inS 56 (by decide +kernel)
theorem bs_57 : Cond.selects "TextRegionsModel" ⟨"TextRegionsModel", "sort", "()V"⟩ ⟨"TextRegionsModel", "sort", "()V"⟩ ∈ BIG := inS 57 (by decide +kernel)
theorem bs_58 : Cond.selects "TextRegionsModel" ⟨"TextRegionsModel", "stripOf", "(I)I"⟩ ⟨"TextRegionsModel", "stripOf", "(I)I"⟩ ∈ BIG := inS 58 (by decide +kernel)
theorem bs_59 : Cond.selects "TextRegionsModel" ⟨"TextRegionsModel", "tOf", "(I)I"⟩ ⟨"TextRegionsModel", "tOf", "(I)I"⟩ ∈ BIG := inS 59 (by decide +kernel)
theorem bs_60 : Cond.selects "TextRegionsModel" ⟨"TextRegionsModel", "columnOf", "(I)I"⟩ ⟨"TextRegionsModel", "columnOf", "(I)I"⟩ ∈ BIG := inS 60 (by decide +kernel)
theorem bs_61 : Cond.selects "TextRegionsModel" ⟨"TextRegionsModel", "rowOf", "(I)I"⟩ ⟨"TextRegionsModel", "rowOf", "(I)I"⟩ ∈ BIG := inS 61 (by decide +kernel)
theorem bs_62 : Cond.selects "TextRegionsModel" ⟨"TextRegionsModel", "lay", "(I)V"⟩ ⟨"TextRegionsModel", "lay", "(I)V"⟩ ∈ BIG := inS 62 (by decide +kernel)
theorem bs_63 : Cond.selects "TextRegionsModel" ⟨"TextRegionsModel", "tellAll", "(Z)V"⟩ ⟨"TextRegionsModel", "tellAll", "(Z)V"⟩ ∈ BIG := inS 63 (by decide +kernel)
theorem bs_64 : Cond.selects "TextRegionsModel" ⟨"TextRegionsModel", "number", "(I)V"⟩ ⟨"TextRegionsModel", "number", "(I)V"⟩ ∈ BIG := inS 64 (by decide +kernel)
theorem bs_65 : Cond.selects "TextRegionsModel" ⟨"TextRegionsModel", "low", "(II)V"⟩ ⟨"TextRegionsModel", "low", "(II)V"⟩ ∈ BIG := inS 65 (by decide +kernel)
theorem bs_66 : Cond.selects "TextRegionsModel" ⟨"TextRegionsModel", "bit", "(I)V"⟩ ⟨"TextRegionsModel", "bit", "(I)V"⟩ ∈ BIG := inS 66 (by decide +kernel)
theorem bs_67 : Cond.selects "TextRegionsModel" ⟨"TextRegionsModel", "beginRow", "()V"⟩ ⟨"TextRegionsModel", "beginRow", "()V"⟩ ∈ BIG := inS 67 (by decide +kernel)
theorem bs_68 : Cond.selects "TextRegionsModel" ⟨"TextRegionsModel", "findLengths", "()V"⟩ ⟨"TextRegionsModel", "findLengths", "()V"⟩ ∈ BIG := inS 68 (by decide +kernel)
theorem bs_69 : Cond.selects "TextRegionsModel" ⟨"TextRegionsModel", "leastNode", "(I)I"⟩ ⟨"TextRegionsModel", "leastNode", "(I)I"⟩ ∈ BIG := inS 69 (by decide +kernel)
theorem bs_70 : Cond.selects "TextRegionsModel" ⟨"TextRegionsModel", "findCodes", "()V"⟩ ⟨"TextRegionsModel", "findCodes", "()V"⟩ ∈ BIG := inS 70 (by decide +kernel)
theorem bs_71 : Cond.selects "TextRegionsModel" ⟨"TextRegionsModel", "sOf", "(I)I"⟩ ⟨"TextRegionsModel", "sOf", "(I)I"⟩ ∈ BIG := inS 71 (by decide +kernel)
theorem bs_72 : Cond.selects "TextRegionsModel" ⟨"TextRegionsModel", "signed", "(I)V"⟩ ⟨"TextRegionsModel", "signed", "(I)V"⟩ ∈ BIG := inS 72 (by decide +kernel)
theorem bs_73 : Cond.selects "TextRegionsModel" ⟨"TextRegionsModel", "name", "(I)V"⟩ ⟨"TextRegionsModel", "name", "(I)V"⟩ ∈ BIG := inS 73 (by decide +kernel)
theorem bs_74 : Cond.selects "TextRegionsModel" ⟨"TextRegionsModel", "toFront", "(I)V"⟩ ⟨"TextRegionsModel", "toFront", "(I)V"⟩ ∈ BIG := inS 74 (by decide +kernel)
theorem bs_75 : Cond.selects "TextRegionsModel" ⟨"TextRegionsModel", "runs", "(I)V"⟩ ⟨"TextRegionsModel", "runs", "(I)V"⟩ ∈ BIG := inS 75 (by decide +kernel)
theorem bs_76 : Cond.selects "TextRegionsModel" ⟨"TextRegionsModel", "change", "(II)V"⟩ ⟨"TextRegionsModel", "change", "(II)V"⟩ ∈ BIG := inS 76 (by decide +kernel)
theorem bs_77 : Cond.selects "TextRegionsModel" ⟨"TextRegionsModel", "readAll", "()V"⟩ ⟨"TextRegionsModel", "readAll", "()V"⟩ ∈ BIG := inS 77 (by decide +kernel)
theorem bs_78 : Cond.selects "TextRegionsModel" ⟨"TextRegionsModel", "nextNumber", "()I"⟩ ⟨"TextRegionsModel", "nextNumber", "()I"⟩ ∈ BIG := inS 78 (by decide +kernel)
theorem bs_79 : Cond.selects "TextRegionsModel" ⟨"TextRegionsModel", "next", "()I"⟩ ⟨"TextRegionsModel", "next", "()I"⟩ ∈ BIG := inS 79 (by decide +kernel)
theorem bs_80 : Cond.selects "TextRegionsModel" ⟨"TextRegionsModel", "refuse", "(I)V"⟩ ⟨"TextRegionsModel", "refuse", "(I)V"⟩ ∈ BIG := inS 80 (by decide +kernel)
theorem bs_81 : Cond.selects "TextRegionsModel" ⟨"TextRegionsModel", "nextLow", "(I)I"⟩ ⟨"TextRegionsModel", "nextLow", "(I)I"⟩ ∈ BIG := inS 81 (by decide +kernel)
theorem bs_82 : Cond.selects "TextRegionsModel" ⟨"TextRegionsModel", "readCodes", "(I)V"⟩ ⟨"TextRegionsModel", "readCodes", "(I)V"⟩ ∈ BIG := inS 82 (by decide +kernel)
theorem bs_83 : Cond.selects "TextRegionsModel" ⟨"TextRegionsModel", "nextSigned", "()I"⟩ ⟨"TextRegionsModel", "nextSigned", "()I"⟩ ∈ BIG := inS 83 (by decide +kernel)
theorem bs_84 : Cond.selects "TextRegionsModel" ⟨"TextRegionsModel", "readInstance", "(II)V"⟩ ⟨"TextRegionsModel", "readInstance", "(II)V"⟩ ∈ BIG := inS 84 (by decide +kernel)
theorem bs_85 : Cond.selects "TextRegionsModel" ⟨"TextRegionsModel", "nextName", "()I"⟩ ⟨"TextRegionsModel", "nextName", "()I"⟩ ∈ BIG := inS 85 (by decide +kernel)
theorem bs_86 : Cond.selects "TextRegionsModel" ⟨"TextRegionsModel", "nextRuns", "(I)J"⟩ ⟨"TextRegionsModel", "nextRuns", "(I)J"⟩ ∈ BIG := inS 86 (by decide +kernel)
/-! the words on nest mates: they are no good words, so they stand in a premise of their own -/
def isNest : Cond → Bool
  | .fieldLinkNest .. => true
  | .methodLinkNest .. => true
  | _ => false
def nwl : List Cond := tables_1.filter isNest
theorem nw_in {w : Cond} (k : Nat) (h : tables_1[k]? = some w) (g : isNest w = true) : w ∈ nwl := List.mem_filter.mpr ⟨List.mem_of_getElem? h, g⟩
theorem bm_min : Cond.code Lib.Math.min.name Lib.Math.min.code 2 (some .int) ∈ BIG := inT 34 (by decide +kernel)
theorem bm_max : Cond.code Lib.Math.max.name Lib.Math.max.code 2 (some .int) ∈ BIG := inT 37 (by decide +kernel)
theorem bn_40 : (Jvm.Cond.methodLinkNest "TextRegions" (19 : Nat) ({ cls := "TextRegions$Dictionary", name := "<init>", desc := "()V" } : Jvm.MethodName) "TextRegions") ∈ nwl := nw_in 40 (by decide +kernel) rfl
theorem bn_45 : (Jvm.Cond.fieldLinkNest "TextRegions$Page" (48 : Nat) "TextRegions$Dictionary" "widths" "[I" "TextRegions") ∈ nwl := nw_in 45 (by decide +kernel) rfl
theorem bn_46 : (Jvm.Cond.fieldLinkNest "TextRegions$Layout" (62 : Nat) "TextRegions$Dictionary" "widths" "[I" "TextRegions") ∈ nwl := nw_in 46 (by decide +kernel) rfl
theorem bn_48 : (Jvm.Cond.fieldLinkNest "TextRegions$Page" (45 : Nat) "TextRegions$Dictionary" "heights" "[I" "TextRegions") ∈ nwl := nw_in 48 (by decide +kernel) rfl
theorem bn_49 : (Jvm.Cond.fieldLinkNest "TextRegions$Layout" (67 : Nat) "TextRegions$Dictionary" "heights" "[I" "TextRegions") ∈ nwl := nw_in 49 (by decide +kernel) rfl
theorem bn_51 : (Jvm.Cond.fieldLinkNest "TextRegions" (125 : Nat) "TextRegions$Dictionary" "samples" "[J" "TextRegions") ∈ nwl := nw_in 51 (by decide +kernel) rfl
theorem bn_52 : (Jvm.Cond.fieldLinkNest "TextRegions$Page" (36 : Nat) "TextRegions$Dictionary" "samples" "[J" "TextRegions") ∈ nwl := nw_in 52 (by decide +kernel) rfl
theorem bn_54 : (Jvm.Cond.fieldLinkNest "TextRegions$CodeNames" (32 : Nat) "TextRegions$Dictionary" "count" "I" "TextRegions") ∈ nwl := nw_in 54 (by decide +kernel) rfl
theorem bn_55 : (Jvm.Cond.fieldLinkNest "TextRegions" (101 : Nat) "TextRegions$Dictionary" "count" "I" "TextRegions") ∈ nwl := nw_in 55 (by decide +kernel) rfl
theorem bn_56 : (Jvm.Cond.fieldLinkNest "TextRegions$FrontNames" (22 : Nat) "TextRegions$Dictionary" "count" "I" "TextRegions") ∈ nwl := nw_in 56 (by decide +kernel) rfl
theorem bn_70 : (Jvm.Cond.methodLinkNest "TextRegions" (26 : Nat) ({ cls := "TextRegions$Page", name := "<init>", desc := "(II)V" } : Jvm.MethodName) "TextRegions") ∈ nwl := nw_in 70 (by decide +kernel) rfl
theorem bn_75 : (Jvm.Cond.fieldLinkNest "TextRegions" (206 : Nat) "TextRegions$Page" "width" "I" "TextRegions") ∈ nwl := nw_in 75 (by decide +kernel) rfl
theorem bn_77 : (Jvm.Cond.fieldLinkNest "TextRegions" (256 : Nat) "TextRegions$Page" "height" "I" "TextRegions") ∈ nwl := nw_in 77 (by decide +kernel) rfl
theorem bn_79 : (Jvm.Cond.fieldLinkNest "TextRegions" (202 : Nat) "TextRegions$Page" "dark" "[Z" "TextRegions") ∈ nwl := nw_in 79 (by decide +kernel) rfl
theorem bn_90 : (Jvm.Cond.methodLinkNest "TextRegions" (35 : Nat) ({ cls := "TextRegions$ByteRow", name := "<init>", desc := "()V" } : Jvm.MethodName) "TextRegions") ∈ nwl := nw_in 90 (by decide +kernel) rfl
theorem bn_95 : (Jvm.Cond.fieldLinkNest "TextRegions$BitWriter" (30 : Nat) "TextRegions$ByteRow" "bytes" "[I" "TextRegions") ∈ nwl := nw_in 95 (by decide +kernel) rfl
theorem bn_96 : (Jvm.Cond.fieldLinkNest "TextRegions$BitReader" (27 : Nat) "TextRegions$ByteRow" "bytes" "[I" "TextRegions") ∈ nwl := nw_in 96 (by decide +kernel) rfl
theorem bn_97 : (Jvm.Cond.fieldLinkNest "TextRegions" (212 : Nat) "TextRegions$ByteRow" "bytes" "[I" "TextRegions") ∈ nwl := nw_in 97 (by decide +kernel) rfl
theorem bn_99 : (Jvm.Cond.fieldLinkNest "TextRegions$BitWriter" (23 : Nat) "TextRegions$ByteRow" "count" "I" "TextRegions") ∈ nwl := nw_in 99 (by decide +kernel) rfl
theorem bn_100 : (Jvm.Cond.fieldLinkNest "TextRegions$BitReader" (22 : Nat) "TextRegions$ByteRow" "count" "I" "TextRegions") ∈ nwl := nw_in 100 (by decide +kernel) rfl
theorem bn_101 : (Jvm.Cond.fieldLinkNest "TextRegions" (209 : Nat) "TextRegions$ByteRow" "count" "I" "TextRegions") ∈ nwl := nw_in 101 (by decide +kernel) rfl
theorem bn_109 : (Jvm.Cond.methodLinkNest "TextRegions" (45 : Nat) ({ cls := "TextRegions$CodeNames", name := "<init>", desc := "(LTextRegions$Dictionary;)V" } : Jvm.MethodName) "TextRegions") ∈ nwl := nw_in 109 (by decide +kernel) rfl
theorem bn_131 : (Jvm.Cond.methodLinkNest "TextRegions" (50 : Nat) ({ cls := "TextRegions$FrontNames", name := "<init>", desc := "(LTextRegions$Dictionary;)V" } : Jvm.MethodName) "TextRegions") ∈ nwl := nw_in 131 (by decide +kernel) rfl
theorem bn_146 : (Jvm.Cond.methodLinkNest "TextRegions" (55 : Nat) ({ cls := "TextRegions$BitWriter", name := "<init>", desc := "(LTextRegions$ByteRow;)V" } : Jvm.MethodName) "TextRegions") ∈ nwl := nw_in 146 (by decide +kernel) rfl
theorem bn_153 : (Jvm.Cond.fieldLinkNest "TextRegions$Teller" (65 : Nat) "TextRegions$BitWriter" "count" "I" "TextRegions") ∈ nwl := nw_in 153 (by decide +kernel) rfl
theorem bn_161 : (Jvm.Cond.methodLinkNest "TextRegions" (58 : Nat) ({ cls := "TextRegions$Teller", name := "<init>", desc := "(LTextRegions$Names;LTextRegions$BitWriter;)V" } : Jvm.MethodName) "TextRegions") ∈ nwl := nw_in 161 (by decide +kernel) rfl
theorem bn_176 : (Jvm.Cond.methodLinkNest "TextRegions" (69 : Nat) ({ cls := "TextRegions$BitReader", name := "<init>", desc := "(LTextRegions$ByteRow;)V" } : Jvm.MethodName) "TextRegions") ∈ nwl := nw_in 176 (by decide +kernel) rfl
theorem bn_182 : (Jvm.Cond.fieldLinkNest "TextRegions$Reader" (19 : Nat) "TextRegions$BitReader" "place" "I" "TextRegions") ∈ nwl := nw_in 182 (by decide +kernel) rfl
theorem bn_184 : (Jvm.Cond.fieldLinkNest "TextRegions$Reader" (71 : Nat) "TextRegions$BitReader" "refusal" "I" "TextRegions") ∈ nwl := nw_in 184 (by decide +kernel) rfl
theorem bn_192 : (Jvm.Cond.methodLinkNest "TextRegions" (70 : Nat) ({ cls := "TextRegions$Reader", name := "<init>", desc := "(LTextRegions$Names;LTextRegions$BitReader;)V" } : Jvm.MethodName) "TextRegions") ∈ nwl := nw_in 192 (by decide +kernel) rfl
theorem bn_205 : (Jvm.Cond.methodLinkNest "TextRegions" (79 : Nat) ({ cls := "TextRegions$Layout", name := "<init>", desc := "(LTextRegions$Dictionary;)V" } : Jvm.MethodName) "TextRegions") ∈ nwl := nw_in 205 (by decide +kernel) rfl
theorem bn_210 : (Jvm.Cond.fieldLinkNest "TextRegions$Teller" (90 : Nat) "TextRegions$Layout" "symbols" "LTextRegions$Dictionary;" "TextRegions") ∈ nwl := nw_in 210 (by decide +kernel) rfl
theorem bn_211 : (Jvm.Cond.fieldLinkNest "TextRegions$Page" (26 : Nat) "TextRegions$Layout" "symbols" "LTextRegions$Dictionary;" "TextRegions") ∈ nwl := nw_in 211 (by decide +kernel) rfl
theorem bn_212 : (Jvm.Cond.fieldLinkNest "TextRegions$Reader" (106 : Nat) "TextRegions$Layout" "symbols" "LTextRegions$Dictionary;" "TextRegions") ∈ nwl := nw_in 212 (by decide +kernel) rfl
theorem bn_214 : (Jvm.Cond.fieldLinkNest "TextRegions$Teller" (48 : Nat) "TextRegions$Layout" "ways" "[I" "TextRegions") ∈ nwl := nw_in 214 (by decide +kernel) rfl
theorem bn_215 : (Jvm.Cond.fieldLinkNest "TextRegions$Reader" (45 : Nat) "TextRegions$Layout" "ways" "[I" "TextRegions") ∈ nwl := nw_in 215 (by decide +kernel) rfl
theorem bn_216 : (Jvm.Cond.fieldLinkNest "TextRegions$Page" (65 : Nat) "TextRegions$Layout" "ways" "[I" "TextRegions") ∈ nwl := nw_in 216 (by decide +kernel) rfl
theorem bn_217 : (Jvm.Cond.fieldLinkNest "TextRegions" (163 : Nat) "TextRegions$Layout" "ways" "[I" "TextRegions") ∈ nwl := nw_in 217 (by decide +kernel) rfl
theorem bn_219 : (Jvm.Cond.fieldLinkNest "TextRegions$Teller" (69 : Nat) "TextRegions$Layout" "symbolOf" "[I" "TextRegions") ∈ nwl := nw_in 219 (by decide +kernel) rfl
theorem bn_220 : (Jvm.Cond.fieldLinkNest "TextRegions$Page" (32 : Nat) "TextRegions$Layout" "symbolOf" "[I" "TextRegions") ∈ nwl := nw_in 220 (by decide +kernel) rfl
theorem bn_221 : (Jvm.Cond.fieldLinkNest "TextRegions" (149 : Nat) "TextRegions$Layout" "symbolOf" "[I" "TextRegions") ∈ nwl := nw_in 221 (by decide +kernel) rfl
theorem bn_222 : (Jvm.Cond.fieldLinkNest "TextRegions$Reader" (110 : Nat) "TextRegions$Layout" "symbolOf" "[I" "TextRegions") ∈ nwl := nw_in 222 (by decide +kernel) rfl
theorem bn_223 : (Jvm.Cond.fieldLinkNest "TextRegions$CodeNames" (83 : Nat) "TextRegions$Layout" "symbolOf" "[I" "TextRegions") ∈ nwl := nw_in 223 (by decide +kernel) rfl
theorem bn_225 : (Jvm.Cond.fieldLinkNest "TextRegions$Page" (59 : Nat) "TextRegions$Layout" "xs" "[I" "TextRegions") ∈ nwl := nw_in 225 (by decide +kernel) rfl
theorem bn_226 : (Jvm.Cond.fieldLinkNest "TextRegions" (234 : Nat) "TextRegions$Layout" "xs" "[I" "TextRegions") ∈ nwl := nw_in 226 (by decide +kernel) rfl
theorem bn_228 : (Jvm.Cond.fieldLinkNest "TextRegions$Page" (62 : Nat) "TextRegions$Layout" "ys" "[I" "TextRegions") ∈ nwl := nw_in 228 (by decide +kernel) rfl
theorem bn_229 : (Jvm.Cond.fieldLinkNest "TextRegions" (237 : Nat) "TextRegions$Layout" "ys" "[I" "TextRegions") ∈ nwl := nw_in 229 (by decide +kernel) rfl
theorem bn_231 : (Jvm.Cond.fieldLinkNest "TextRegions$Teller" (86 : Nat) "TextRegions$Layout" "differs" "[J" "TextRegions") ∈ nwl := nw_in 231 (by decide +kernel) rfl
theorem bn_232 : (Jvm.Cond.fieldLinkNest "TextRegions$Page" (42 : Nat) "TextRegions$Layout" "differs" "[J" "TextRegions") ∈ nwl := nw_in 232 (by decide +kernel) rfl
theorem bn_233 : (Jvm.Cond.fieldLinkNest "TextRegions" (155 : Nat) "TextRegions$Layout" "differs" "[J" "TextRegions") ∈ nwl := nw_in 233 (by decide +kernel) rfl
theorem bn_234 : (Jvm.Cond.fieldLinkNest "TextRegions$Reader" (118 : Nat) "TextRegions$Layout" "differs" "[J" "TextRegions") ∈ nwl := nw_in 234 (by decide +kernel) rfl
theorem bn_236 : (Jvm.Cond.fieldLinkNest "TextRegions$Teller" (66 : Nat) "TextRegions$Layout" "sequence" "[I" "TextRegions") ∈ nwl := nw_in 236 (by decide +kernel) rfl
theorem bn_237 : (Jvm.Cond.fieldLinkNest "TextRegions" (186 : Nat) "TextRegions$Layout" "sequence" "[I" "TextRegions") ∈ nwl := nw_in 237 (by decide +kernel) rfl
theorem bn_239 : (Jvm.Cond.fieldLinkNest "TextRegions$Teller" (36 : Nat) "TextRegions$Layout" "count" "I" "TextRegions") ∈ nwl := nw_in 239 (by decide +kernel) rfl
theorem bn_240 : (Jvm.Cond.fieldLinkNest "TextRegions" (143 : Nat) "TextRegions$Layout" "count" "I" "TextRegions") ∈ nwl := nw_in 240 (by decide +kernel) rfl
theorem bn_241 : (Jvm.Cond.fieldLinkNest "TextRegions$Reader" (103 : Nat) "TextRegions$Layout" "count" "I" "TextRegions") ∈ nwl := nw_in 241 (by decide +kernel) rfl
theorem bn_242 : (Jvm.Cond.fieldLinkNest "TextRegions$CodeNames" (80 : Nat) "TextRegions$Layout" "count" "I" "TextRegions") ∈ nwl := nw_in 242 (by decide +kernel) rfl
theorem bn_295 : (Jvm.Cond.methodLinkNest "TextRegions" (180 : Nat) ({ cls := "TextRegions$Layout", name := "arrange", desc := "()V" } : Jvm.MethodName) "TextRegions") ∈ nwl := nw_in 295 (by decide +kernel) rfl
theorem bn_319 : (Jvm.Cond.methodLinkNest "TextRegions" (183 : Nat) ({ cls := "TextRegions$Page", name := "lighten", desc := "()V" } : Jvm.MethodName) "TextRegions") ∈ nwl := nw_in 319 (by decide +kernel) rfl
theorem bn_323 : (Jvm.Cond.methodLinkNest "TextRegions" (189 : Nat) ({ cls := "TextRegions$Page", name := "lay", desc := "(LTextRegions$Layout;I)V" } : Jvm.MethodName) "TextRegions") ∈ nwl := nw_in 323 (by decide +kernel) rfl
theorem bn_327 : (Jvm.Cond.methodLinkNest "TextRegions$Page" (51 : Nat) ({ cls := "TextRegions$Dictionary", name := "sampleNumber", desc := "(III)I" } : Jvm.MethodName) "TextRegions") ∈ nwl := nw_in 327 (by decide +kernel) rfl
theorem bn_331 : (Jvm.Cond.methodLinkNest "TextRegions$Page" (55 : Nat) ({ cls := "TextRegions", name := "hasBit", desc := "(JI)Z" } : Jvm.MethodName) "TextRegions") ∈ nwl := nw_in 331 (by decide +kernel) rfl
theorem bn_342 : (Jvm.Cond.methodLinkNest "TextRegions$Page" (22 : Nat) ({ cls := "TextRegions", name := "isWithin", desc := "(III)Z" } : Jvm.MethodName) "TextRegions") ∈ nwl := nw_in 342 (by decide +kernel) rfl
theorem bn_348 : (Jvm.Cond.methodLinkNest "TextRegions" (193 : Nat) ({ cls := "TextRegions$Page", name := "countDark", desc := "()I" } : Jvm.MethodName) "TextRegions") ∈ nwl := nw_in 348 (by decide +kernel) rfl
theorem bn_356 : (Jvm.Cond.methodLinkNest "TextRegions" (168 : Nat) ({ cls := "TextRegions$Teller", name := "prepare", desc := "(LTextRegions$Layout;)V" } : Jvm.MethodName) "TextRegions") ∈ nwl := nw_in 356 (by decide +kernel) rfl
theorem bn_360 : (Jvm.Cond.methodLinkNest "TextRegions$Teller" (19 : Nat) ({ cls := "TextRegions$Layout", name := "arrange", desc := "()V" } : Jvm.MethodName) "TextRegions") ∈ nwl := nw_in 360 (by decide +kernel) rfl
theorem bn_393 : (Jvm.Cond.methodLinkNest "TextRegions" (176 : Nat) ({ cls := "TextRegions$Teller", name := "tellAll", desc := "(LTextRegions$Layout;Z)I" } : Jvm.MethodName) "TextRegions") ∈ nwl := nw_in 393 (by decide +kernel) rfl
theorem bn_397 : (Jvm.Cond.methodLinkNest "TextRegions$Teller" (30 : Nat) ({ cls := "TextRegions$BitWriter", name := "start", desc := "(Z)V" } : Jvm.MethodName) "TextRegions") ∈ nwl := nw_in 397 (by decide +kernel) rfl
theorem bn_401 : (Jvm.Cond.methodLinkNest "TextRegions$Teller" (40 : Nat) ({ cls := "TextRegions$BitWriter", name := "tellNumber", desc := "(I)V" } : Jvm.MethodName) "TextRegions") ∈ nwl := nw_in 401 (by decide +kernel) rfl
theorem bn_409 : (Jvm.Cond.methodLinkNest "TextRegions$BitWriter" (26 : Nat) ({ cls := "TextRegions$ByteRow", name := "append", desc := "(I)V" } : Jvm.MethodName) "TextRegions") ∈ nwl := nw_in 409 (by decide +kernel) rfl
theorem bn_413 : (Jvm.Cond.fieldLinkNest "TextRegions$Teller" (44 : Nat) "TextRegions" "WAYS_AS_TOLD" "[I" "TextRegions") ∈ nwl := nw_in 413 (by decide +kernel) rfl
theorem bn_415 : (Jvm.Cond.fieldLinkNest "TextRegions$Teller" (51 : Nat) "TextRegions" "BITS_OF_WAY" "[I" "TextRegions") ∈ nwl := nw_in 415 (by decide +kernel) rfl
theorem bn_417 : (Jvm.Cond.methodLinkNest "TextRegions$Teller" (54 : Nat) ({ cls := "TextRegions$BitWriter", name := "tellBits", desc := "(II)V" } : Jvm.MethodName) "TextRegions") ∈ nwl := nw_in 417 (by decide +kernel) rfl
theorem bn_427 : (Jvm.Cond.methodLinkNest "TextRegions$CodeNames" (48 : Nat) ({ cls := "TextRegions$BitWriter", name := "tellBits", desc := "(II)V" } : Jvm.MethodName) "TextRegions") ∈ nwl := nw_in 427 (by decide +kernel) rfl
theorem bn_441 : (Jvm.Cond.methodLinkNest "TextRegions$Teller" (72 : Nat) ({ cls := "TextRegions$Layout", name := "cornerS", desc := "(I)I" } : Jvm.MethodName) "TextRegions") ∈ nwl := nw_in 441 (by decide +kernel) rfl
theorem bn_445 : (Jvm.Cond.methodLinkNest "TextRegions$Teller" (76 : Nat) ({ cls := "TextRegions$Layout", name := "cornerT", desc := "(I)I" } : Jvm.MethodName) "TextRegions") ∈ nwl := nw_in 445 (by decide +kernel) rfl
theorem bn_446 : (Jvm.Cond.methodLinkNest "TextRegions$Teller" (79 : Nat) ({ cls := "TextRegions$BitWriter", name := "tellSigned", desc := "(I)V" } : Jvm.MethodName) "TextRegions") ∈ nwl := nw_in 446 (by decide +kernel) rfl
theorem bn_465 : (Jvm.Cond.methodLinkNest "TextRegions$FrontNames" (28 : Nat) ({ cls := "TextRegions$BitWriter", name := "tellNumber", desc := "(I)V" } : Jvm.MethodName) "TextRegions") ∈ nwl := nw_in 465 (by decide +kernel) rfl
theorem bn_470 : (Jvm.Cond.methodLinkNest "TextRegions$Teller" (94 : Nat) ({ cls := "TextRegions$Dictionary", name := "sampleCount", desc := "(I)I" } : Jvm.MethodName) "TextRegions") ∈ nwl := nw_in 470 (by decide +kernel) rfl
theorem bn_489 : (Jvm.Cond.methodLinkNest "TextRegions$Teller" (103 : Nat) ({ cls := "TextRegions$Layout", name := "nextS", desc := "(I)I" } : Jvm.MethodName) "TextRegions") ∈ nwl := nw_in 489 (by decide +kernel) rfl
theorem bn_498 : (Jvm.Cond.methodLinkNest "TextRegions" (225 : Nat) ({ cls := "TextRegions$Reader", name := "readAll", desc := "(LTextRegions$Layout;)I" } : Jvm.MethodName) "TextRegions") ∈ nwl := nw_in 498 (by decide +kernel) rfl
theorem bn_502 : (Jvm.Cond.methodLinkNest "TextRegions$Reader" (25 : Nat) ({ cls := "TextRegions$BitReader", name := "start", desc := "()V" } : Jvm.MethodName) "TextRegions") ∈ nwl := nw_in 502 (by decide +kernel) rfl
theorem bn_506 : (Jvm.Cond.methodLinkNest "TextRegions$Reader" (28 : Nat) ({ cls := "TextRegions$Layout", name := "empty", desc := "()V" } : Jvm.MethodName) "TextRegions") ∈ nwl := nw_in 506 (by decide +kernel) rfl
theorem bn_510 : (Jvm.Cond.methodLinkNest "TextRegions$Reader" (33 : Nat) ({ cls := "TextRegions$BitReader", name := "nextNumber", desc := "()I" } : Jvm.MethodName) "TextRegions") ∈ nwl := nw_in 510 (by decide +kernel) rfl
theorem bn_522 : (Jvm.Cond.methodLinkNest "TextRegions$Reader" (37 : Nat) ({ cls := "TextRegions$BitReader", name := "refuse", desc := "(I)V" } : Jvm.MethodName) "TextRegions") ∈ nwl := nw_in 522 (by decide +kernel) rfl
theorem bn_523 : (Jvm.Cond.fieldLinkNest "TextRegions$Reader" (41 : Nat) "TextRegions" "WAYS_AS_TOLD" "[I" "TextRegions") ∈ nwl := nw_in 523 (by decide +kernel) rfl
theorem bn_524 : (Jvm.Cond.fieldLinkNest "TextRegions$Reader" (48 : Nat) "TextRegions" "BITS_OF_WAY" "[I" "TextRegions") ∈ nwl := nw_in 524 (by decide +kernel) rfl
theorem bn_525 : (Jvm.Cond.methodLinkNest "TextRegions$Reader" (51 : Nat) ({ cls := "TextRegions$BitReader", name := "nextBits", desc := "(I)I" } : Jvm.MethodName) "TextRegions") ∈ nwl := nw_in 525 (by decide +kernel) rfl
theorem bn_529 : (Jvm.Cond.fieldLinkNest "TextRegions$Reader" (55 : Nat) "TextRegions" "MOST_OF_WAY" "[I" "TextRegions") ∈ nwl := nw_in 529 (by decide +kernel) rfl
theorem bn_540 : (Jvm.Cond.methodLinkNest "TextRegions$CodeNames" (54 : Nat) ({ cls := "TextRegions$BitReader", name := "nextBits", desc := "(I)I" } : Jvm.MethodName) "TextRegions") ∈ nwl := nw_in 540 (by decide +kernel) rfl
theorem bn_546 : (Jvm.Cond.methodLinkNest "TextRegions$CodeNames" (63 : Nat) ({ cls := "TextRegions$BitReader", name := "refuse", desc := "(I)V" } : Jvm.MethodName) "TextRegions") ∈ nwl := nw_in 546 (by decide +kernel) rfl
theorem bn_556 : (Jvm.Cond.methodLinkNest "TextRegions$Reader" (74 : Nat) ({ cls := "TextRegions$BitReader", name := "isRefused", desc := "()Z" } : Jvm.MethodName) "TextRegions") ∈ nwl := nw_in 556 (by decide +kernel) rfl
theorem bn_560 : (Jvm.Cond.methodLinkNest "TextRegions$Reader" (78 : Nat) ({ cls := "TextRegions$Layout", name := "nextS", desc := "(I)I" } : Jvm.MethodName) "TextRegions") ∈ nwl := nw_in 560 (by decide +kernel) rfl
theorem bn_561 : (Jvm.Cond.methodLinkNest "TextRegions$Reader" (81 : Nat) ({ cls := "TextRegions$BitReader", name := "nextSigned", desc := "()I" } : Jvm.MethodName) "TextRegions") ∈ nwl := nw_in 561 (by decide +kernel) rfl
theorem bn_580 : (Jvm.Cond.methodLinkNest "TextRegions$CodeNames" (73 : Nat) ({ cls := "TextRegions$BitReader", name := "nextBit", desc := "()I" } : Jvm.MethodName) "TextRegions") ∈ nwl := nw_in 580 (by decide +kernel) rfl
theorem bn_590 : (Jvm.Cond.methodLinkNest "TextRegions$FrontNames" (37 : Nat) ({ cls := "TextRegions$BitReader", name := "nextNumber", desc := "()I" } : Jvm.MethodName) "TextRegions") ∈ nwl := nw_in 590 (by decide +kernel) rfl
theorem bn_591 : (Jvm.Cond.methodLinkNest "TextRegions$FrontNames" (43 : Nat) ({ cls := "TextRegions$BitReader", name := "isRefused", desc := "()Z" } : Jvm.MethodName) "TextRegions") ∈ nwl := nw_in 591 (by decide +kernel) rfl
theorem bn_592 : (Jvm.Cond.methodLinkNest "TextRegions$FrontNames" (47 : Nat) ({ cls := "TextRegions$BitReader", name := "refuse", desc := "(I)V" } : Jvm.MethodName) "TextRegions") ∈ nwl := nw_in 592 (by decide +kernel) rfl
theorem bn_593 : (Jvm.Cond.methodLinkNest "TextRegions$Reader" (99 : Nat) ({ cls := "TextRegions$Layout", name := "addByCorner", desc := "(III)Z" } : Jvm.MethodName) "TextRegions") ∈ nwl := nw_in 593 (by decide +kernel) rfl
theorem bn_597 : (Jvm.Cond.methodLinkNest "TextRegions$Layout" (54 : Nat) ({ cls := "TextRegions", name := "isPlace", desc := "(I)Z" } : Jvm.MethodName) "TextRegions") ∈ nwl := nw_in 597 (by decide +kernel) rfl
theorem bn_609 : (Jvm.Cond.methodLinkNest "TextRegions$Reader" (92 : Nat) ({ cls := "TextRegions$BitReader", name := "nextBit", desc := "()I" } : Jvm.MethodName) "TextRegions") ∈ nwl := nw_in 609 (by decide +kernel) rfl
theorem bn_610 : (Jvm.Cond.methodLinkNest "TextRegions$Reader" (113 : Nat) ({ cls := "TextRegions$Dictionary", name := "sampleCount", desc := "(I)I" } : Jvm.MethodName) "TextRegions") ∈ nwl := nw_in 610 (by decide +kernel) rfl
theorem bn_611 : (Jvm.Cond.methodLinkNest "TextRegions$Reader" (122 : Nat) ({ cls := "TextRegions", name := "withBit", desc := "(JIZ)J" } : Jvm.MethodName) "TextRegions") ∈ nwl := nw_in 611 (by decide +kernel) rfl
theorem bn_615 : (Jvm.Cond.methodLinkNest "TextRegions$Reader" (68 : Nat) ({ cls := "TextRegions$BitReader", name := "readEnd", desc := "()V" } : Jvm.MethodName) "TextRegions") ∈ nwl := nw_in 615 (by decide +kernel) rfl
theorem bn_619 : (Jvm.Cond.methodLinkNest "TextRegions" (229 : Nat) ({ cls := "TextRegions$Reader", name := "bitsRead", desc := "()I" } : Jvm.MethodName) "TextRegions") ∈ nwl := nw_in 619 (by decide +kernel) rfl
theorem bn_631 : (Jvm.Cond.methodLinkNest "TextRegions" (259 : Nat) ({ cls := "TextRegions$Layout", name := "empty", desc := "()V" } : Jvm.MethodName) "TextRegions") ∈ nwl := nw_in 631 (by decide +kernel) rfl
theorem bn_728 : (Jvm.Cond.methodLinkNest "TextRegions" (109 : Nat) ({ cls := "TextRegions$Dictionary", name := "add", desc := "(II)I" } : Jvm.MethodName) "TextRegions") ∈ nwl := nw_in 728 (by decide +kernel) rfl
theorem bn_740 : (Jvm.Cond.methodLinkNest "TextRegions" (113 : Nat) ({ cls := "TextRegions$Dictionary", name := "has", desc := "(I)Z" } : Jvm.MethodName) "TextRegions") ∈ nwl := nw_in 740 (by decide +kernel) rfl
theorem bn_744 : (Jvm.Cond.methodLinkNest "TextRegions$Dictionary" (26 : Nat) ({ cls := "TextRegions", name := "isWithin", desc := "(III)Z" } : Jvm.MethodName) "TextRegions") ∈ nwl := nw_in 744 (by decide +kernel) rfl
theorem bn_745 : (Jvm.Cond.methodLinkNest "TextRegions" (117 : Nat) ({ cls := "TextRegions$Dictionary", name := "hasSample", desc := "(III)Z" } : Jvm.MethodName) "TextRegions") ∈ nwl := nw_in 745 (by decide +kernel) rfl
theorem bn_765 : (Jvm.Cond.methodLinkNest "TextRegions" (129 : Nat) ({ cls := "TextRegions$Dictionary", name := "sampleNumber", desc := "(III)I" } : Jvm.MethodName) "TextRegions") ∈ nwl := nw_in 765 (by decide +kernel) rfl
theorem bn_778 : (Jvm.Cond.methodLinkNest "TextRegions" (146 : Nat) ({ cls := "TextRegions$Layout", name := "add", desc := "(III)I" } : Jvm.MethodName) "TextRegions") ∈ nwl := nw_in 778 (by decide +kernel) rfl
theorem bn_786 : (Jvm.Cond.methodLinkNest "TextRegions" (148 : Nat) ({ cls := "TextRegions$Layout", name := "has", desc := "(I)Z" } : Jvm.MethodName) "TextRegions") ∈ nwl := nw_in 786 (by decide +kernel) rfl
theorem bn_790 : (Jvm.Cond.methodLinkNest "TextRegions$Layout" (39 : Nat) ({ cls := "TextRegions", name := "isWithin", desc := "(III)Z" } : Jvm.MethodName) "TextRegions") ∈ nwl := nw_in 790 (by decide +kernel) rfl
theorem bn_813 : (Jvm.Cond.methodLinkNest "TextRegions" (247 : Nat) ({ cls := "TextRegions$Layout", name := "strip", desc := "(I)I" } : Jvm.MethodName) "TextRegions") ∈ nwl := nw_in 813 (by decide +kernel) rfl
theorem bn_814 : (Jvm.Cond.methodLinkNest "TextRegions" (262 : Nat) ({ cls := "TextRegions$Layout", name := "swapWithNext", desc := "(I)V" } : Jvm.MethodName) "TextRegions") ∈ nwl := nw_in 814 (by decide +kernel) rfl
theorem bn_825 : (Jvm.Cond.methodLinkNest "TextRegions" (197 : Nat) ({ cls := "TextRegions$Page", name := "has", desc := "(II)Z" } : Jvm.MethodName) "TextRegions") ∈ nwl := nw_in 825 (by decide +kernel) rfl
theorem bn_844 : (Jvm.Cond.methodLinkNest "TextRegions" (219 : Nat) ({ cls := "TextRegions$ByteRow", name := "append", desc := "(I)V" } : Jvm.MethodName) "TextRegions") ∈ nwl := nw_in 844 (by decide +kernel) rfl
theorem bn_861 : (Jvm.Cond.methodLinkNest "TextRegions" (240 : Nat) ({ cls := "TextRegions$Layout", name := "cornerS", desc := "(I)I" } : Jvm.MethodName) "TextRegions") ∈ nwl := nw_in 861 (by decide +kernel) rfl
theorem bn_862 : (Jvm.Cond.methodLinkNest "TextRegions" (244 : Nat) ({ cls := "TextRegions$Layout", name := "cornerT", desc := "(I)I" } : Jvm.MethodName) "TextRegions") ∈ nwl := nw_in 862 (by decide +kernel) rfl
