-- ===== PART A: goes FIRST, ahead of the names: the tables' words, and 'selects' of the private methods out of them =====
/-- a private method of a class that the tables say can be made, by its rows of tables_1 -/
def lw_okq (q : MethodName × Nat) : Prop := (q.1.cls ≠ "java/lang/invoke/MethodHandle" ∧ q.1.cls ≠ "java/lang/invoke/VarHandle") ∧ Cond.instantiable q.1.cls q.2 ∈ tables_1 ∧ Cond.privateMethod q.1 ∈ tables_1 ∧ Cond.instanceMethod q.1 ∈ tables_1
theorem lw_p0 : lw_okq (⟨"MarkTreaties", "finding", "(I)I"⟩, 12) := ⟨⟨by decide +kernel, by decide +kernel⟩, List.mem_of_getElem? (i := 17) (by decide +kernel), List.mem_of_getElem? (i := 234) (by decide +kernel), List.mem_of_getElem? (i := 235) (by decide +kernel)⟩
theorem lw_p1 : lw_okq (⟨"MarkTreaties", "figuresOf", "(I)I"⟩, 12) := ⟨⟨by decide +kernel, by decide +kernel⟩, List.mem_of_getElem? (i := 17) (by decide +kernel), List.mem_of_getElem? (i := 239) (by decide +kernel), List.mem_of_getElem? (i := 240) (by decide +kernel)⟩
theorem lw_p2 : lw_okq (⟨"MarkTreaties$World", "sign", "(III)V"⟩, 9) := ⟨⟨by decide +kernel, by decide +kernel⟩, List.mem_of_getElem? (i := 25) (by decide +kernel), List.mem_of_getElem? (i := 262) (by decide +kernel), List.mem_of_getElem? (i := 263) (by decide +kernel)⟩
theorem lw_p3 : lw_okq (⟨"MarkTreaties$Treaty", "begin", "(IIII)V"⟩, 8) := ⟨⟨by decide +kernel, by decide +kernel⟩, List.mem_of_getElem? (i := 32) (by decide +kernel), List.mem_of_getElem? (i := 266) (by decide +kernel), List.mem_of_getElem? (i := 267) (by decide +kernel)⟩
theorem lw_p4 : lw_okq (⟨"MarkTreaties", "isTreaty", "(I)Z"⟩, 12) := ⟨⟨by decide +kernel, by decide +kernel⟩, List.mem_of_getElem? (i := 17) (by decide +kernel), List.mem_of_getElem? (i := 274) (by decide +kernel), List.mem_of_getElem? (i := 275) (by decide +kernel)⟩
theorem lw_p5 : lw_okq (⟨"MarkTreaties$Treaty", "tell", "(II)I"⟩, 8) := ⟨⟨by decide +kernel, by decide +kernel⟩, List.mem_of_getElem? (i := 32) (by decide +kernel), List.mem_of_getElem? (i := 278) (by decide +kernel), List.mem_of_getElem? (i := 279) (by decide +kernel)⟩
theorem lw_p6 : lw_okq (⟨"MarkTreaties$Treaty", "bears", "(I)I"⟩, 8) := ⟨⟨by decide +kernel, by decide +kernel⟩, List.mem_of_getElem? (i := 32) (by decide +kernel), List.mem_of_getElem? (i := 282) (by decide +kernel), List.mem_of_getElem? (i := 283) (by decide +kernel)⟩
theorem lw_p7 : lw_okq (⟨"MarkTreaties$Treaty", "fades", "()I"⟩, 8) := ⟨⟨by decide +kernel, by decide +kernel⟩, List.mem_of_getElem? (i := 32) (by decide +kernel), List.mem_of_getElem? (i := 286) (by decide +kernel), List.mem_of_getElem? (i := 287) (by decide +kernel)⟩
theorem lw_p8 : lw_okq (⟨"MarkTreaties$Treaty", "yields", "()I"⟩, 8) := ⟨⟨by decide +kernel, by decide +kernel⟩, List.mem_of_getElem? (i := 32) (by decide +kernel), List.mem_of_getElem? (i := 290) (by decide +kernel), List.mem_of_getElem? (i := 291) (by decide +kernel)⟩
theorem lw_p9 : lw_okq (⟨"MarkTreaties$Treaty", "renews", "()I"⟩, 8) := ⟨⟨by decide +kernel, by decide +kernel⟩, List.mem_of_getElem? (i := 32) (by decide +kernel), List.mem_of_getElem? (i := 300) (by decide +kernel), List.mem_of_getElem? (i := 301) (by decide +kernel)⟩
theorem lw_p10 : lw_okq (⟨"MarkTreaties$Treaty", "takes", "(II)Z"⟩, 8) := ⟨⟨by decide +kernel, by decide +kernel⟩, List.mem_of_getElem? (i := 32) (by decide +kernel), List.mem_of_getElem? (i := 308) (by decide +kernel), List.mem_of_getElem? (i := 309) (by decide +kernel)⟩
theorem lw_p11 : lw_okq (⟨"MarkTreaties$Treaty", "alter", "(II)V"⟩, 8) := ⟨⟨by decide +kernel, by decide +kernel⟩, List.mem_of_getElem? (i := 32) (by decide +kernel), List.mem_of_getElem? (i := 314) (by decide +kernel), List.mem_of_getElem? (i := 315) (by decide +kernel)⟩
theorem lw_p12 : lw_okq (⟨"MarkTreaties$World", "pairsAtWar", "()J"⟩, 9) := ⟨⟨by decide +kernel, by decide +kernel⟩, List.mem_of_getElem? (i := 25) (by decide +kernel), List.mem_of_getElem? (i := 322) (by decide +kernel), List.mem_of_getElem? (i := 323) (by decide +kernel)⟩
theorem lw_p13 : lw_okq (⟨"MarkTreaties$World", "passYears", "(I)V"⟩, 9) := ⟨⟨by decide +kernel, by decide +kernel⟩, List.mem_of_getElem? (i := 25) (by decide +kernel), List.mem_of_getElem? (i := 342) (by decide +kernel), List.mem_of_getElem? (i := 343) (by decide +kernel)⟩
theorem lw_p14 : lw_okq (⟨"MarkTreaties$World", "pass", "()V"⟩, 9) := ⟨⟨by decide +kernel, by decide +kernel⟩, List.mem_of_getElem? (i := 25) (by decide +kernel), List.mem_of_getElem? (i := 346) (by decide +kernel), List.mem_of_getElem? (i := 347) (by decide +kernel)⟩
theorem lw_p15 : lw_okq (⟨"MarkTreaties$Treaty", "live", "(II)I"⟩, 8) := ⟨⟨by decide +kernel, by decide +kernel⟩, List.mem_of_getElem? (i := 32) (by decide +kernel), List.mem_of_getElem? (i := 353) (by decide +kernel), List.mem_of_getElem? (i := 354) (by decide +kernel)⟩
def lw_privs_1 : List (MethodName × Nat) := [(⟨"MarkTreaties", "finding", "(I)I"⟩, 12), (⟨"MarkTreaties", "figuresOf", "(I)I"⟩, 12), (⟨"MarkTreaties$World", "sign", "(III)V"⟩, 9), (⟨"MarkTreaties$Treaty", "begin", "(IIII)V"⟩, 8), (⟨"MarkTreaties", "isTreaty", "(I)Z"⟩, 12), (⟨"MarkTreaties$Treaty", "tell", "(II)I"⟩, 8), (⟨"MarkTreaties$Treaty", "bears", "(I)I"⟩, 8), (⟨"MarkTreaties$Treaty", "fades", "()I"⟩, 8), (⟨"MarkTreaties$Treaty", "yields", "()I"⟩, 8), (⟨"MarkTreaties$Treaty", "renews", "()I"⟩, 8), (⟨"MarkTreaties$Treaty", "takes", "(II)Z"⟩, 8), (⟨"MarkTreaties$Treaty", "alter", "(II)V"⟩, 8), (⟨"MarkTreaties$World", "pairsAtWar", "()J"⟩, 9), (⟨"MarkTreaties$World", "passYears", "(I)V"⟩, 9), (⟨"MarkTreaties$World", "pass", "()V"⟩, 9), (⟨"MarkTreaties$Treaty", "live", "(II)I"⟩, 8)]
theorem lw_r1 : ∀ q ∈ lw_privs_1, lw_okq q := List.forall_mem_cons.mpr ⟨lw_p0, List.forall_mem_cons.mpr ⟨lw_p1, List.forall_mem_cons.mpr ⟨lw_p2, List.forall_mem_cons.mpr ⟨lw_p3, List.forall_mem_cons.mpr ⟨lw_p4, List.forall_mem_cons.mpr ⟨lw_p5, List.forall_mem_cons.mpr ⟨lw_p6, List.forall_mem_cons.mpr ⟨lw_p7, List.forall_mem_cons.mpr ⟨lw_p8, List.forall_mem_cons.mpr ⟨lw_p9, List.forall_mem_cons.mpr ⟨lw_p10, List.forall_mem_cons.mpr ⟨lw_p11, List.forall_mem_cons.mpr ⟨lw_p12, List.forall_mem_cons.mpr ⟨lw_p13, List.forall_mem_cons.mpr ⟨lw_p14, List.forall_mem_cons.mpr ⟨lw_p15, fun _ h => absurd h List.not_mem_nil⟩⟩⟩⟩⟩⟩⟩⟩⟩⟩⟩⟩⟩⟩⟩⟩
theorem lw_p16 : lw_okq (⟨"MarkTreaties$Treaty", "await", "(I)V"⟩, 8) := ⟨⟨by decide +kernel, by decide +kernel⟩, List.mem_of_getElem? (i := 32) (by decide +kernel), List.mem_of_getElem? (i := 357) (by decide +kernel), List.mem_of_getElem? (i := 358) (by decide +kernel)⟩
theorem lw_p17 : lw_okq (⟨"MarkTreaties$Treaty", "isOverborne", "(I)Z"⟩, 8) := ⟨⟨by decide +kernel, by decide +kernel⟩, List.mem_of_getElem? (i := 32) (by decide +kernel), List.mem_of_getElem? (i := 362) (by decide +kernel), List.mem_of_getElem? (i := 363) (by decide +kernel)⟩
theorem lw_p18 : lw_okq (⟨"MarkTreaties$Treaty", "fade", "()V"⟩, 8) := ⟨⟨by decide +kernel, by decide +kernel⟩, List.mem_of_getElem? (i := 32) (by decide +kernel), List.mem_of_getElem? (i := 366) (by decide +kernel), List.mem_of_getElem? (i := 367) (by decide +kernel)⟩
theorem lw_p19 : lw_okq (⟨"MarkTreaties$Treaty", "isToFade", "(I)Z"⟩, 8) := ⟨⟨by decide +kernel, by decide +kernel⟩, List.mem_of_getElem? (i := 32) (by decide +kernel), List.mem_of_getElem? (i := 370) (by decide +kernel), List.mem_of_getElem? (i := 371) (by decide +kernel)⟩
theorem lw_p20 : lw_okq (⟨"MarkTreaties$World", "inForce", "()I"⟩, 9) := ⟨⟨by decide +kernel, by decide +kernel⟩, List.mem_of_getElem? (i := 25) (by decide +kernel), List.mem_of_getElem? (i := 384) (by decide +kernel), List.mem_of_getElem? (i := 385) (by decide +kernel)⟩
theorem lw_p21 : lw_okq (⟨"MarkTreaties$World", "allBroken", "()I"⟩, 9) := ⟨⟨by decide +kernel, by decide +kernel⟩, List.mem_of_getElem? (i := 25) (by decide +kernel), List.mem_of_getElem? (i := 392) (by decide +kernel), List.mem_of_getElem? (i := 393) (by decide +kernel)⟩
theorem lw_p22 : lw_okq (⟨"MarkTreaties$World", "breaking", "()I"⟩, 9) := ⟨⟨by decide +kernel, by decide +kernel⟩, List.mem_of_getElem? (i := 25) (by decide +kernel), List.mem_of_getElem? (i := 402) (by decide +kernel), List.mem_of_getElem? (i := 403) (by decide +kernel)⟩
theorem lw_p23 : lw_okq (⟨"MarkTreaties$World", "marksInForce", "()I"⟩, 9) := ⟨⟨by decide +kernel, by decide +kernel⟩, List.mem_of_getElem? (i := 25) (by decide +kernel), List.mem_of_getElem? (i := 407) (by decide +kernel), List.mem_of_getElem? (i := 408) (by decide +kernel)⟩
theorem lw_p24 : lw_okq (⟨"MarkTreaties$World", "longestHeld", "()I"⟩, 9) := ⟨⟨by decide +kernel, by decide +kernel⟩, List.mem_of_getElem? (i := 25) (by decide +kernel), List.mem_of_getElem? (i := 411) (by decide +kernel), List.mem_of_getElem? (i := 412) (by decide +kernel)⟩
theorem lw_p25 : lw_okq (⟨"MarkTreaties", "foreseeUps", "(I)V"⟩, 12) := ⟨⟨by decide +kernel, by decide +kernel⟩, List.mem_of_getElem? (i := 17) (by decide +kernel), List.mem_of_getElem? (i := 419) (by decide +kernel), List.mem_of_getElem? (i := 420) (by decide +kernel)⟩
theorem lw_p26 : lw_okq (⟨"MarkTreaties", "tryAlone", "(I)V"⟩, 12) := ⟨⟨by decide +kernel, by decide +kernel⟩, List.mem_of_getElem? (i := 17) (by decide +kernel), List.mem_of_getElem? (i := 424) (by decide +kernel), List.mem_of_getElem? (i := 425) (by decide +kernel)⟩
theorem lw_p27 : lw_okq (⟨"MarkTreaties$Treaty", "become", "(LMarkTreaties$Treaty;)V"⟩, 8) := ⟨⟨by decide +kernel, by decide +kernel⟩, List.mem_of_getElem? (i := 32) (by decide +kernel), List.mem_of_getElem? (i := 428) (by decide +kernel), List.mem_of_getElem? (i := 429) (by decide +kernel)⟩
theorem lw_p28 : lw_okq (⟨"MarkTreaties$Treaty", "liveYears", "([III)I"⟩, 8) := ⟨⟨by decide +kernel, by decide +kernel⟩, List.mem_of_getElem? (i := 32) (by decide +kernel), List.mem_of_getElem? (i := 432) (by decide +kernel), List.mem_of_getElem? (i := 433) (by decide +kernel)⟩
theorem lw_p29 : lw_okq (⟨"MarkTreaties$World", "become", "(LMarkTreaties$World;)V"⟩, 9) := ⟨⟨by decide +kernel, by decide +kernel⟩, List.mem_of_getElem? (i := 25) (by decide +kernel), List.mem_of_getElem? (i := 441) (by decide +kernel), List.mem_of_getElem? (i := 442) (by decide +kernel)⟩
theorem lw_p30 : lw_okq (⟨"MarkTreaties", "foreseeStrains", "(I)V"⟩, 12) := ⟨⟨by decide +kernel, by decide +kernel⟩, List.mem_of_getElem? (i := 17) (by decide +kernel), List.mem_of_getElem? (i := 483) (by decide +kernel), List.mem_of_getElem? (i := 484) (by decide +kernel)⟩
theorem lw_p31 : lw_okq (⟨"MarkTreaties$Strains", "addOf", "(LMarkTreaties$Treaty;I)V"⟩, 3) := ⟨⟨by decide +kernel, by decide +kernel⟩, List.mem_of_getElem? (i := 126) (by decide +kernel), List.mem_of_getElem? (i := 487) (by decide +kernel), List.mem_of_getElem? (i := 488) (by decide +kernel)⟩
def lw_privs_2 : List (MethodName × Nat) := [(⟨"MarkTreaties$Treaty", "await", "(I)V"⟩, 8), (⟨"MarkTreaties$Treaty", "isOverborne", "(I)Z"⟩, 8), (⟨"MarkTreaties$Treaty", "fade", "()V"⟩, 8), (⟨"MarkTreaties$Treaty", "isToFade", "(I)Z"⟩, 8), (⟨"MarkTreaties$World", "inForce", "()I"⟩, 9), (⟨"MarkTreaties$World", "allBroken", "()I"⟩, 9), (⟨"MarkTreaties$World", "breaking", "()I"⟩, 9), (⟨"MarkTreaties$World", "marksInForce", "()I"⟩, 9), (⟨"MarkTreaties$World", "longestHeld", "()I"⟩, 9), (⟨"MarkTreaties", "foreseeUps", "(I)V"⟩, 12), (⟨"MarkTreaties", "tryAlone", "(I)V"⟩, 12), (⟨"MarkTreaties$Treaty", "become", "(LMarkTreaties$Treaty;)V"⟩, 8), (⟨"MarkTreaties$Treaty", "liveYears", "([III)I"⟩, 8), (⟨"MarkTreaties$World", "become", "(LMarkTreaties$World;)V"⟩, 9), (⟨"MarkTreaties", "foreseeStrains", "(I)V"⟩, 12), (⟨"MarkTreaties$Strains", "addOf", "(LMarkTreaties$Treaty;I)V"⟩, 3)]
theorem lw_r2 : ∀ q ∈ lw_privs_2, lw_okq q := List.forall_mem_cons.mpr ⟨lw_p16, List.forall_mem_cons.mpr ⟨lw_p17, List.forall_mem_cons.mpr ⟨lw_p18, List.forall_mem_cons.mpr ⟨lw_p19, List.forall_mem_cons.mpr ⟨lw_p20, List.forall_mem_cons.mpr ⟨lw_p21, List.forall_mem_cons.mpr ⟨lw_p22, List.forall_mem_cons.mpr ⟨lw_p23, List.forall_mem_cons.mpr ⟨lw_p24, List.forall_mem_cons.mpr ⟨lw_p25, List.forall_mem_cons.mpr ⟨lw_p26, List.forall_mem_cons.mpr ⟨lw_p27, List.forall_mem_cons.mpr ⟨lw_p28, List.forall_mem_cons.mpr ⟨lw_p29, List.forall_mem_cons.mpr ⟨lw_p30, List.forall_mem_cons.mpr ⟨lw_p31, fun _ h => absurd h List.not_mem_nil⟩⟩⟩⟩⟩⟩⟩⟩⟩⟩⟩⟩⟩⟩⟩⟩
theorem lw_p32 : lw_okq (⟨"MarkTreaties$Strains", "add", "(II)V"⟩, 3) := ⟨⟨by decide +kernel, by decide +kernel⟩, List.mem_of_getElem? (i := 126) (by decide +kernel), List.mem_of_getElem? (i := 491) (by decide +kernel), List.mem_of_getElem? (i := 492) (by decide +kernel)⟩
theorem lw_p33 : lw_okq (⟨"MarkTreaties$Strains", "areEasedBy", "(I)Z"⟩, 3) := ⟨⟨by decide +kernel, by decide +kernel⟩, List.mem_of_getElem? (i := 126) (by decide +kernel), List.mem_of_getElem? (i := 498) (by decide +kernel), List.mem_of_getElem? (i := 499) (by decide +kernel)⟩
theorem lw_p34 : lw_okq (⟨"MarkTreaties", "foreseeGains", "(I)V"⟩, 12) := ⟨⟨by decide +kernel, by decide +kernel⟩, List.mem_of_getElem? (i := 17) (by decide +kernel), List.mem_of_getElem? (i := 506) (by decide +kernel), List.mem_of_getElem? (i := 507) (by decide +kernel)⟩
theorem lw_p35 : lw_okq (⟨"MarkTreaties", "goldWithTorn", "(I)I"⟩, 12) := ⟨⟨by decide +kernel, by decide +kernel⟩, List.mem_of_getElem? (i := 17) (by decide +kernel), List.mem_of_getElem? (i := 510) (by decide +kernel), List.mem_of_getElem? (i := 511) (by decide +kernel)⟩
theorem lw_p36 : lw_okq (⟨"MarkTreaties", "faultOfSheetAndTreaty", "(II)I"⟩, 12) := ⟨⟨by decide +kernel, by decide +kernel⟩, List.mem_of_getElem? (i := 17) (by decide +kernel), List.mem_of_getElem? (i := 518) (by decide +kernel), List.mem_of_getElem? (i := 519) (by decide +kernel)⟩
theorem lw_p37 : lw_okq (⟨"MarkTreaties", "faultOfSheet", "(I)I"⟩, 12) := ⟨⟨by decide +kernel, by decide +kernel⟩, List.mem_of_getElem? (i := 17) (by decide +kernel), List.mem_of_getElem? (i := 522) (by decide +kernel), List.mem_of_getElem? (i := 523) (by decide +kernel)⟩
theorem lw_p38 : lw_okq (⟨"MarkTreaties", "isSheet", "(I)Z"⟩, 12) := ⟨⟨by decide +kernel, by decide +kernel⟩, List.mem_of_getElem? (i := 17) (by decide +kernel), List.mem_of_getElem? (i := 526) (by decide +kernel), List.mem_of_getElem? (i := 527) (by decide +kernel)⟩
theorem lw_p39 : lw_okq (⟨"MarkTreaties$Sheet", "isMissing", "()Z"⟩, 3) := ⟨⟨by decide +kernel, by decide +kernel⟩, List.mem_of_getElem? (i := 171) (by decide +kernel), List.mem_of_getElem? (i := 530) (by decide +kernel), List.mem_of_getElem? (i := 531) (by decide +kernel)⟩
theorem lw_p40 : lw_okq (⟨"MarkTreaties$Sheet", "lastTold", "(I)I"⟩, 3) := ⟨⟨by decide +kernel, by decide +kernel⟩, List.mem_of_getElem? (i := 171) (by decide +kernel), List.mem_of_getElem? (i := 534) (by decide +kernel), List.mem_of_getElem? (i := 535) (by decide +kernel)⟩
theorem lw_p41 : lw_okq (⟨"MarkTreaties", "figuresWeighing", "(II)I"⟩, 12) := ⟨⟨by decide +kernel, by decide +kernel⟩, List.mem_of_getElem? (i := 17) (by decide +kernel), List.mem_of_getElem? (i := 539) (by decide +kernel), List.mem_of_getElem? (i := 540) (by decide +kernel)⟩
theorem lw_p42 : lw_okq (⟨"MarkTreaties$Treaty", "fadesWithin", "(I)Z"⟩, 8) := ⟨⟨by decide +kernel, by decide +kernel⟩, List.mem_of_getElem? (i := 32) (by decide +kernel), List.mem_of_getElem? (i := 543) (by decide +kernel), List.mem_of_getElem? (i := 544) (by decide +kernel)⟩
theorem lw_p43 : lw_okq (⟨"MarkTreaties", "fitsMark", "(LMarkTreaties$Sheet;III)Z"⟩, 12) := ⟨⟨by decide +kernel, by decide +kernel⟩, List.mem_of_getElem? (i := 17) (by decide +kernel), List.mem_of_getElem? (i := 547) (by decide +kernel), List.mem_of_getElem? (i := 548) (by decide +kernel)⟩
theorem lw_p44 : lw_okq (⟨"MarkTreaties", "followsSheet", "(LMarkTreaties$Sheet;II)Z"⟩, 12) := ⟨⟨by decide +kernel, by decide +kernel⟩, List.mem_of_getElem? (i := 17) (by decide +kernel), List.mem_of_getElem? (i := 551) (by decide +kernel), List.mem_of_getElem? (i := 552) (by decide +kernel)⟩
theorem lw_p45 : lw_okq (⟨"MarkTreaties$Sheet", "allows", "(II)Z"⟩, 3) := ⟨⟨by decide +kernel, by decide +kernel⟩, List.mem_of_getElem? (i := 171) (by decide +kernel), List.mem_of_getElem? (i := 555) (by decide +kernel), List.mem_of_getElem? (i := 556) (by decide +kernel)⟩
theorem lw_p46 : lw_okq (⟨"MarkTreaties$World", "draw", "()I"⟩, 9) := ⟨⟨by decide +kernel, by decide +kernel⟩, List.mem_of_getElem? (i := 25) (by decide +kernel), List.mem_of_getElem? (i := 568) (by decide +kernel), List.mem_of_getElem? (i := 569) (by decide +kernel)⟩
theorem lw_p47 : lw_okq (⟨"MarkTreaties$Reader", "take", "(B)V"⟩, 6) := ⟨⟨by decide +kernel, by decide +kernel⟩, List.mem_of_getElem? (i := 143) (by decide +kernel), List.mem_of_getElem? (i := 591) (by decide +kernel), List.mem_of_getElem? (i := 592) (by decide +kernel)⟩
def lw_privs_3 : List (MethodName × Nat) := [(⟨"MarkTreaties$Strains", "add", "(II)V"⟩, 3), (⟨"MarkTreaties$Strains", "areEasedBy", "(I)Z"⟩, 3), (⟨"MarkTreaties", "foreseeGains", "(I)V"⟩, 12), (⟨"MarkTreaties", "goldWithTorn", "(I)I"⟩, 12), (⟨"MarkTreaties", "faultOfSheetAndTreaty", "(II)I"⟩, 12), (⟨"MarkTreaties", "faultOfSheet", "(I)I"⟩, 12), (⟨"MarkTreaties", "isSheet", "(I)Z"⟩, 12), (⟨"MarkTreaties$Sheet", "isMissing", "()Z"⟩, 3), (⟨"MarkTreaties$Sheet", "lastTold", "(I)I"⟩, 3), (⟨"MarkTreaties", "figuresWeighing", "(II)I"⟩, 12), (⟨"MarkTreaties$Treaty", "fadesWithin", "(I)Z"⟩, 8), (⟨"MarkTreaties", "fitsMark", "(LMarkTreaties$Sheet;III)Z"⟩, 12), (⟨"MarkTreaties", "followsSheet", "(LMarkTreaties$Sheet;II)Z"⟩, 12), (⟨"MarkTreaties$Sheet", "allows", "(II)Z"⟩, 3), (⟨"MarkTreaties$World", "draw", "()I"⟩, 9), (⟨"MarkTreaties$Reader", "take", "(B)V"⟩, 6)]
theorem lw_r3 : ∀ q ∈ lw_privs_3, lw_okq q := List.forall_mem_cons.mpr ⟨lw_p32, List.forall_mem_cons.mpr ⟨lw_p33, List.forall_mem_cons.mpr ⟨lw_p34, List.forall_mem_cons.mpr ⟨lw_p35, List.forall_mem_cons.mpr ⟨lw_p36, List.forall_mem_cons.mpr ⟨lw_p37, List.forall_mem_cons.mpr ⟨lw_p38, List.forall_mem_cons.mpr ⟨lw_p39, List.forall_mem_cons.mpr ⟨lw_p40, List.forall_mem_cons.mpr ⟨lw_p41, List.forall_mem_cons.mpr ⟨lw_p42, List.forall_mem_cons.mpr ⟨lw_p43, List.forall_mem_cons.mpr ⟨lw_p44, List.forall_mem_cons.mpr ⟨lw_p45, List.forall_mem_cons.mpr ⟨lw_p46, List.forall_mem_cons.mpr ⟨lw_p47, fun _ h => absurd h List.not_mem_nil⟩⟩⟩⟩⟩⟩⟩⟩⟩⟩⟩⟩⟩⟩⟩⟩
theorem lw_p48 : lw_okq (⟨"MarkTreaties$Reader", "readInto", "(LMarkTreaties$World;)I"⟩, 6) := ⟨⟨by decide +kernel, by decide +kernel⟩, List.mem_of_getElem? (i := 143) (by decide +kernel), List.mem_of_getElem? (i := 603) (by decide +kernel), List.mem_of_getElem? (i := 604) (by decide +kernel)⟩
theorem lw_p49 : lw_okq (⟨"MarkTreaties$Reader", "advance", "()V"⟩, 6) := ⟨⟨by decide +kernel, by decide +kernel⟩, List.mem_of_getElem? (i := 143) (by decide +kernel), List.mem_of_getElem? (i := 607) (by decide +kernel), List.mem_of_getElem? (i := 608) (by decide +kernel)⟩
theorem lw_p50 : lw_okq (⟨"MarkTreaties$Reader", "advanceLetters", "()V"⟩, 6) := ⟨⟨by decide +kernel, by decide +kernel⟩, List.mem_of_getElem? (i := 143) (by decide +kernel), List.mem_of_getElem? (i := 614) (by decide +kernel), List.mem_of_getElem? (i := 615) (by decide +kernel)⟩
theorem lw_p51 : lw_okq (⟨"MarkTreaties$Reader", "advanceDigits", "()V"⟩, 6) := ⟨⟨by decide +kernel, by decide +kernel⟩, List.mem_of_getElem? (i := 143) (by decide +kernel), List.mem_of_getElem? (i := 621) (by decide +kernel), List.mem_of_getElem? (i := 622) (by decide +kernel)⟩
theorem lw_p52 : lw_okq (⟨"MarkTreaties$Reader", "readItem", "(LMarkTreaties$World;)Z"⟩, 6) := ⟨⟨by decide +kernel, by decide +kernel⟩, List.mem_of_getElem? (i := 143) (by decide +kernel), List.mem_of_getElem? (i := 625) (by decide +kernel), List.mem_of_getElem? (i := 626) (by decide +kernel)⟩
theorem lw_p53 : lw_okq (⟨"MarkTreaties$Reader", "kindTold", "()I"⟩, 6) := ⟨⟨by decide +kernel, by decide +kernel⟩, List.mem_of_getElem? (i := 143) (by decide +kernel), List.mem_of_getElem? (i := 629) (by decide +kernel), List.mem_of_getElem? (i := 630) (by decide +kernel)⟩
theorem lw_p54 : lw_okq (⟨"MarkTreaties$Reader", "isWord", "(Ljava/lang/String;)Z"⟩, 6) := ⟨⟨by decide +kernel, by decide +kernel⟩, List.mem_of_getElem? (i := 143) (by decide +kernel), List.mem_of_getElem? (i := 634) (by decide +kernel), List.mem_of_getElem? (i := 635) (by decide +kernel)⟩
theorem lw_p55 : lw_okq (⟨"MarkTreaties$Reader", "readPowers", "(LMarkTreaties$World;I)Z"⟩, 6) := ⟨⟨by decide +kernel, by decide +kernel⟩, List.mem_of_getElem? (i := 143) (by decide +kernel), List.mem_of_getElem? (i := 692) (by decide +kernel), List.mem_of_getElem? (i := 693) (by decide +kernel)⟩
theorem lw_p56 : lw_okq (⟨"MarkTreaties$Reader", "passNumber", "(I)Z"⟩, 6) := ⟨⟨by decide +kernel, by decide +kernel⟩, List.mem_of_getElem? (i := 143) (by decide +kernel), List.mem_of_getElem? (i := 696) (by decide +kernel), List.mem_of_getElem? (i := 697) (by decide +kernel)⟩
theorem lw_p57 : lw_okq (⟨"MarkTreaties$Reader", "readTerms", "(LMarkTreaties$World;)Z"⟩, 6) := ⟨⟨by decide +kernel, by decide +kernel⟩, List.mem_of_getElem? (i := 143) (by decide +kernel), List.mem_of_getElem? (i := 701) (by decide +kernel), List.mem_of_getElem? (i := 702) (by decide +kernel)⟩
theorem lw_p58 : lw_okq (⟨"MarkTreaties$Reader", "readEvent", "(LMarkTreaties$World;)Z"⟩, 6) := ⟨⟨by decide +kernel, by decide +kernel⟩, List.mem_of_getElem? (i := 143) (by decide +kernel), List.mem_of_getElem? (i := 712) (by decide +kernel), List.mem_of_getElem? (i := 713) (by decide +kernel)⟩
theorem lw_p59 : lw_okq (⟨"MarkTreaties$Treaty", "isA", "(I)Z"⟩, 8) := ⟨⟨by decide +kernel, by decide +kernel⟩, List.mem_of_getElem? (i := 32) (by decide +kernel), List.mem_of_getElem? (i := 724) (by decide +kernel), List.mem_of_getElem? (i := 725) (by decide +kernel)⟩
theorem lw_p60 : lw_okq (⟨"MarkTreaties$Sheet", "begin", "(II)V"⟩, 3) := ⟨⟨by decide +kernel, by decide +kernel⟩, List.mem_of_getElem? (i := 171) (by decide +kernel), List.mem_of_getElem? (i := 734) (by decide +kernel), List.mem_of_getElem? (i := 735) (by decide +kernel)⟩
theorem lw_p61 : lw_okq (⟨"MarkTreaties$Sheet", "put", "(II)V"⟩, 3) := ⟨⟨by decide +kernel, by decide +kernel⟩, List.mem_of_getElem? (i := 171) (by decide +kernel), List.mem_of_getElem? (i := 742) (by decide +kernel), List.mem_of_getElem? (i := 743) (by decide +kernel)⟩
theorem lw_p62 : lw_okq (⟨"MarkTreaties$Sheet", "hasRange", "(II)Z"⟩, 3) := ⟨⟨by decide +kernel, by decide +kernel⟩, List.mem_of_getElem? (i := 171) (by decide +kernel), List.mem_of_getElem? (i := 750) (by decide +kernel), List.mem_of_getElem? (i := 751) (by decide +kernel)⟩
theorem lw_p63 : lw_okq (⟨"MarkTreaties$World", "spotsHolding", "()I"⟩, 9) := ⟨⟨by decide +kernel, by decide +kernel⟩, List.mem_of_getElem? (i := 25) (by decide +kernel), List.mem_of_getElem? (i := 779) (by decide +kernel), List.mem_of_getElem? (i := 780) (by decide +kernel)⟩
def lw_privs_4 : List (MethodName × Nat) := [(⟨"MarkTreaties$Reader", "readInto", "(LMarkTreaties$World;)I"⟩, 6), (⟨"MarkTreaties$Reader", "advance", "()V"⟩, 6), (⟨"MarkTreaties$Reader", "advanceLetters", "()V"⟩, 6), (⟨"MarkTreaties$Reader", "advanceDigits", "()V"⟩, 6), (⟨"MarkTreaties$Reader", "readItem", "(LMarkTreaties$World;)Z"⟩, 6), (⟨"MarkTreaties$Reader", "kindTold", "()I"⟩, 6), (⟨"MarkTreaties$Reader", "isWord", "(Ljava/lang/String;)Z"⟩, 6), (⟨"MarkTreaties$Reader", "readPowers", "(LMarkTreaties$World;I)Z"⟩, 6), (⟨"MarkTreaties$Reader", "passNumber", "(I)Z"⟩, 6), (⟨"MarkTreaties$Reader", "readTerms", "(LMarkTreaties$World;)Z"⟩, 6), (⟨"MarkTreaties$Reader", "readEvent", "(LMarkTreaties$World;)Z"⟩, 6), (⟨"MarkTreaties$Treaty", "isA", "(I)Z"⟩, 8), (⟨"MarkTreaties$Sheet", "begin", "(II)V"⟩, 3), (⟨"MarkTreaties$Sheet", "put", "(II)V"⟩, 3), (⟨"MarkTreaties$Sheet", "hasRange", "(II)Z"⟩, 3), (⟨"MarkTreaties$World", "spotsHolding", "()I"⟩, 9)]
theorem lw_r4 : ∀ q ∈ lw_privs_4, lw_okq q := List.forall_mem_cons.mpr ⟨lw_p48, List.forall_mem_cons.mpr ⟨lw_p49, List.forall_mem_cons.mpr ⟨lw_p50, List.forall_mem_cons.mpr ⟨lw_p51, List.forall_mem_cons.mpr ⟨lw_p52, List.forall_mem_cons.mpr ⟨lw_p53, List.forall_mem_cons.mpr ⟨lw_p54, List.forall_mem_cons.mpr ⟨lw_p55, List.forall_mem_cons.mpr ⟨lw_p56, List.forall_mem_cons.mpr ⟨lw_p57, List.forall_mem_cons.mpr ⟨lw_p58, List.forall_mem_cons.mpr ⟨lw_p59, List.forall_mem_cons.mpr ⟨lw_p60, List.forall_mem_cons.mpr ⟨lw_p61, List.forall_mem_cons.mpr ⟨lw_p62, List.forall_mem_cons.mpr ⟨lw_p63, fun _ h => absurd h List.not_mem_nil⟩⟩⟩⟩⟩⟩⟩⟩⟩⟩⟩⟩⟩⟩⟩⟩
theorem lw_p64 : lw_okq (⟨"MarkTreatiesModel", "become", "(II)I"⟩, 21) := ⟨⟨by decide +kernel, by decide +kernel⟩, List.mem_of_getElem? (i := 787) (by decide +kernel), List.mem_of_getElem? (i := 876) (by decide +kernel), List.mem_of_getElem? (i := 877) (by decide +kernel)⟩
theorem lw_p65 : lw_okq (⟨"MarkTreatiesModel", "finding", "(I)I"⟩, 21) := ⟨⟨by decide +kernel, by decide +kernel⟩, List.mem_of_getElem? (i := 787) (by decide +kernel), List.mem_of_getElem? (i := 881) (by decide +kernel), List.mem_of_getElem? (i := 882) (by decide +kernel)⟩
theorem lw_p66 : lw_okq (⟨"MarkTreatiesModel", "comes", "(III)I"⟩, 21) := ⟨⟨by decide +kernel, by decide +kernel⟩, List.mem_of_getElem? (i := 787) (by decide +kernel), List.mem_of_getElem? (i := 911) (by decide +kernel), List.mem_of_getElem? (i := 912) (by decide +kernel)⟩
theorem lw_p67 : lw_okq (⟨"MarkTreatiesModel", "isTreaty", "(I)Z"⟩, 21) := ⟨⟨by decide +kernel, by decide +kernel⟩, List.mem_of_getElem? (i := 787) (by decide +kernel), List.mem_of_getElem? (i := 922) (by decide +kernel), List.mem_of_getElem? (i := 923) (by decide +kernel)⟩
theorem lw_p68 : lw_okq (⟨"MarkTreatiesModel", "told", "(II)I"⟩, 21) := ⟨⟨by decide +kernel, by decide +kernel⟩, List.mem_of_getElem? (i := 787) (by decide +kernel), List.mem_of_getElem? (i := 926) (by decide +kernel), List.mem_of_getElem? (i := 927) (by decide +kernel)⟩
theorem lw_p69 : lw_okq (⟨"MarkTreatiesModel", "bears", "(I)I"⟩, 21) := ⟨⟨by decide +kernel, by decide +kernel⟩, List.mem_of_getElem? (i := 787) (by decide +kernel), List.mem_of_getElem? (i := 930) (by decide +kernel), List.mem_of_getElem? (i := 931) (by decide +kernel)⟩
theorem lw_p70 : lw_okq (⟨"MarkTreatiesModel", "treatyIs", "(II)I"⟩, 21) := ⟨⟨by decide +kernel, by decide +kernel⟩, List.mem_of_getElem? (i := 787) (by decide +kernel), List.mem_of_getElem? (i := 934) (by decide +kernel), List.mem_of_getElem? (i := 935) (by decide +kernel)⟩
theorem lw_p71 : lw_okq (⟨"MarkTreatiesModel", "fades", "(I)I"⟩, 21) := ⟨⟨by decide +kernel, by decide +kernel⟩, List.mem_of_getElem? (i := 787) (by decide +kernel), List.mem_of_getElem? (i := 938) (by decide +kernel), List.mem_of_getElem? (i := 939) (by decide +kernel)⟩
theorem lw_p72 : lw_okq (⟨"MarkTreatiesModel", "yields", "(I)I"⟩, 21) := ⟨⟨by decide +kernel, by decide +kernel⟩, List.mem_of_getElem? (i := 787) (by decide +kernel), List.mem_of_getElem? (i := 942) (by decide +kernel), List.mem_of_getElem? (i := 943) (by decide +kernel)⟩
theorem lw_p73 : lw_okq (⟨"MarkTreatiesModel", "renews", "(I)I"⟩, 21) := ⟨⟨by decide +kernel, by decide +kernel⟩, List.mem_of_getElem? (i := 787) (by decide +kernel), List.mem_of_getElem? (i := 949) (by decide +kernel), List.mem_of_getElem? (i := 950) (by decide +kernel)⟩
theorem lw_p74 : lw_okq (⟨"MarkTreatiesModel", "upIn", "(I)I"⟩, 21) := ⟨⟨by decide +kernel, by decide +kernel⟩, List.mem_of_getElem? (i := 787) (by decide +kernel), List.mem_of_getElem? (i := 953) (by decide +kernel), List.mem_of_getElem? (i := 954) (by decide +kernel)⟩
theorem lw_p75 : lw_okq (⟨"MarkTreatiesModel", "isField", "(III)Z"⟩, 21) := ⟨⟨by decide +kernel, by decide +kernel⟩, List.mem_of_getElem? (i := 787) (by decide +kernel), List.mem_of_getElem? (i := 961) (by decide +kernel), List.mem_of_getElem? (i := 962) (by decide +kernel)⟩
theorem lw_p76 : lw_okq (⟨"MarkTreatiesModel", "isWar", "(II)Z"⟩, 21) := ⟨⟨by decide +kernel, by decide +kernel⟩, List.mem_of_getElem? (i := 787) (by decide +kernel), List.mem_of_getElem? (i := 969) (by decide +kernel), List.mem_of_getElem? (i := 970) (by decide +kernel)⟩
theorem lw_p77 : lw_okq (⟨"MarkTreatiesModel", "areBetween", "(III)Z"⟩, 21) := ⟨⟨by decide +kernel, by decide +kernel⟩, List.mem_of_getElem? (i := 787) (by decide +kernel), List.mem_of_getElem? (i := 973) (by decide +kernel), List.mem_of_getElem? (i := 974) (by decide +kernel)⟩
theorem lw_p78 : lw_okq (⟨"MarkTreatiesModel", "yearsGo", "(I)V"⟩, 21) := ⟨⟨by decide +kernel, by decide +kernel⟩, List.mem_of_getElem? (i := 787) (by decide +kernel), List.mem_of_getElem? (i := 983) (by decide +kernel), List.mem_of_getElem? (i := 984) (by decide +kernel)⟩
theorem lw_p79 : lw_okq (⟨"MarkTreatiesModel", "year", "()V"⟩, 21) := ⟨⟨by decide +kernel, by decide +kernel⟩, List.mem_of_getElem? (i := 787) (by decide +kernel), List.mem_of_getElem? (i := 987) (by decide +kernel), List.mem_of_getElem? (i := 988) (by decide +kernel)⟩
def lw_privs_5 : List (MethodName × Nat) := [(⟨"MarkTreatiesModel", "become", "(II)I"⟩, 21), (⟨"MarkTreatiesModel", "finding", "(I)I"⟩, 21), (⟨"MarkTreatiesModel", "comes", "(III)I"⟩, 21), (⟨"MarkTreatiesModel", "isTreaty", "(I)Z"⟩, 21), (⟨"MarkTreatiesModel", "told", "(II)I"⟩, 21), (⟨"MarkTreatiesModel", "bears", "(I)I"⟩, 21), (⟨"MarkTreatiesModel", "treatyIs", "(II)I"⟩, 21), (⟨"MarkTreatiesModel", "fades", "(I)I"⟩, 21), (⟨"MarkTreatiesModel", "yields", "(I)I"⟩, 21), (⟨"MarkTreatiesModel", "renews", "(I)I"⟩, 21), (⟨"MarkTreatiesModel", "upIn", "(I)I"⟩, 21), (⟨"MarkTreatiesModel", "isField", "(III)Z"⟩, 21), (⟨"MarkTreatiesModel", "isWar", "(II)Z"⟩, 21), (⟨"MarkTreatiesModel", "areBetween", "(III)Z"⟩, 21), (⟨"MarkTreatiesModel", "yearsGo", "(I)V"⟩, 21), (⟨"MarkTreatiesModel", "year", "()V"⟩, 21)]
theorem lw_r5 : ∀ q ∈ lw_privs_5, lw_okq q := List.forall_mem_cons.mpr ⟨lw_p64, List.forall_mem_cons.mpr ⟨lw_p65, List.forall_mem_cons.mpr ⟨lw_p66, List.forall_mem_cons.mpr ⟨lw_p67, List.forall_mem_cons.mpr ⟨lw_p68, List.forall_mem_cons.mpr ⟨lw_p69, List.forall_mem_cons.mpr ⟨lw_p70, List.forall_mem_cons.mpr ⟨lw_p71, List.forall_mem_cons.mpr ⟨lw_p72, List.forall_mem_cons.mpr ⟨lw_p73, List.forall_mem_cons.mpr ⟨lw_p74, List.forall_mem_cons.mpr ⟨lw_p75, List.forall_mem_cons.mpr ⟨lw_p76, List.forall_mem_cons.mpr ⟨lw_p77, List.forall_mem_cons.mpr ⟨lw_p78, List.forall_mem_cons.mpr ⟨lw_p79, fun _ h => absurd h List.not_mem_nil⟩⟩⟩⟩⟩⟩⟩⟩⟩⟩⟩⟩⟩⟩⟩⟩
theorem lw_p80 : lw_okq (⟨"MarkTreatiesModel", "holds", "(I)V"⟩, 21) := ⟨⟨by decide +kernel, by decide +kernel⟩, List.mem_of_getElem? (i := 787) (by decide +kernel), List.mem_of_getElem? (i := 991) (by decide +kernel), List.mem_of_getElem? (i := 992) (by decide +kernel)⟩
theorem lw_p81 : lw_okq (⟨"MarkTreatiesModel", "more", "(III)V"⟩, 21) := ⟨⟨by decide +kernel, by decide +kernel⟩, List.mem_of_getElem? (i := 787) (by decide +kernel), List.mem_of_getElem? (i := 995) (by decide +kernel), List.mem_of_getElem? (i := 996) (by decide +kernel)⟩
theorem lw_p82 : lw_okq (⟨"MarkTreatiesModel", "fadesNow", "(I)V"⟩, 21) := ⟨⟨by decide +kernel, by decide +kernel⟩, List.mem_of_getElem? (i := 787) (by decide +kernel), List.mem_of_getElem? (i := 1000) (by decide +kernel), List.mem_of_getElem? (i := 1001) (by decide +kernel)⟩
theorem lw_p83 : lw_okq (⟨"MarkTreatiesModel", "waits", "(I)V"⟩, 21) := ⟨⟨by decide +kernel, by decide +kernel⟩, List.mem_of_getElem? (i := 787) (by decide +kernel), List.mem_of_getElem? (i := 1004) (by decide +kernel), List.mem_of_getElem? (i := 1005) (by decide +kernel)⟩
theorem lw_p84 : lw_okq (⟨"MarkTreatiesModel", "inForce", "()I"⟩, 21) := ⟨⟨by decide +kernel, by decide +kernel⟩, List.mem_of_getElem? (i := 787) (by decide +kernel), List.mem_of_getElem? (i := 1008) (by decide +kernel), List.mem_of_getElem? (i := 1009) (by decide +kernel)⟩
theorem lw_p85 : lw_okq (⟨"MarkTreatiesModel", "sumOf", "(I)I"⟩, 21) := ⟨⟨by decide +kernel, by decide +kernel⟩, List.mem_of_getElem? (i := 787) (by decide +kernel), List.mem_of_getElem? (i := 1016) (by decide +kernel), List.mem_of_getElem? (i := 1017) (by decide +kernel)⟩
theorem lw_p86 : lw_okq (⟨"MarkTreatiesModel", "pairsAtWar", "()I"⟩, 21) := ⟨⟨by decide +kernel, by decide +kernel⟩, List.mem_of_getElem? (i := 787) (by decide +kernel), List.mem_of_getElem? (i := 1020) (by decide +kernel), List.mem_of_getElem? (i := 1021) (by decide +kernel)⟩
theorem lw_p87 : lw_okq (⟨"MarkTreatiesModel", "wouldBreak", "()I"⟩, 21) := ⟨⟨by decide +kernel, by decide +kernel⟩, List.mem_of_getElem? (i := 787) (by decide +kernel), List.mem_of_getElem? (i := 1024) (by decide +kernel), List.mem_of_getElem? (i := 1025) (by decide +kernel)⟩
theorem lw_p88 : lw_okq (⟨"MarkTreatiesModel", "marked", "()I"⟩, 21) := ⟨⟨by decide +kernel, by decide +kernel⟩, List.mem_of_getElem? (i := 787) (by decide +kernel), List.mem_of_getElem? (i := 1028) (by decide +kernel), List.mem_of_getElem? (i := 1029) (by decide +kernel)⟩
theorem lw_p89 : lw_okq (⟨"MarkTreatiesModel", "heldLongest", "()I"⟩, 21) := ⟨⟨by decide +kernel, by decide +kernel⟩, List.mem_of_getElem? (i := 787) (by decide +kernel), List.mem_of_getElem? (i := 1032) (by decide +kernel), List.mem_of_getElem? (i := 1033) (by decide +kernel)⟩
theorem lw_p90 : lw_okq (⟨"MarkTreatiesModel", "putBack", "(I)I"⟩, 21) := ⟨⟨by decide +kernel, by decide +kernel⟩, List.mem_of_getElem? (i := 787) (by decide +kernel), List.mem_of_getElem? (i := 1043) (by decide +kernel), List.mem_of_getElem? (i := 1044) (by decide +kernel)⟩
theorem lw_p91 : lw_okq (⟨"MarkTreatiesModel", "behind", "(II)I"⟩, 21) := ⟨⟨by decide +kernel, by decide +kernel⟩, List.mem_of_getElem? (i := 787) (by decide +kernel), List.mem_of_getElem? (i := 1051) (by decide +kernel), List.mem_of_getElem? (i := 1052) (by decide +kernel)⟩
theorem lw_p92 : lw_okq (⟨"MarkTreatiesModel", "yearsTo", "(II)I"⟩, 21) := ⟨⟨by decide +kernel, by decide +kernel⟩, List.mem_of_getElem? (i := 787) (by decide +kernel), List.mem_of_getElem? (i := 1059) (by decide +kernel), List.mem_of_getElem? (i := 1060) (by decide +kernel)⟩
theorem lw_p93 : lw_okq (⟨"MarkTreatiesModel", "orNone", "(I)I"⟩, 21) := ⟨⟨by decide +kernel, by decide +kernel⟩, List.mem_of_getElem? (i := 787) (by decide +kernel), List.mem_of_getElem? (i := 1063) (by decide +kernel), List.mem_of_getElem? (i := 1064) (by decide +kernel)⟩
theorem lw_p94 : lw_okq (⟨"MarkTreatiesModel", "isLulled", "(II)Z"⟩, 21) := ⟨⟨by decide +kernel, by decide +kernel⟩, List.mem_of_getElem? (i := 787) (by decide +kernel), List.mem_of_getElem? (i := 1099) (by decide +kernel), List.mem_of_getElem? (i := 1100) (by decide +kernel)⟩
theorem lw_p95 : lw_okq (⟨"MarkTreatiesModel", "goldTorn", "(II)I"⟩, 21) := ⟨⟨by decide +kernel, by decide +kernel⟩, List.mem_of_getElem? (i := 787) (by decide +kernel), List.mem_of_getElem? (i := 1107) (by decide +kernel), List.mem_of_getElem? (i := 1108) (by decide +kernel)⟩
def lw_privs_6 : List (MethodName × Nat) := [(⟨"MarkTreatiesModel", "holds", "(I)V"⟩, 21), (⟨"MarkTreatiesModel", "more", "(III)V"⟩, 21), (⟨"MarkTreatiesModel", "fadesNow", "(I)V"⟩, 21), (⟨"MarkTreatiesModel", "waits", "(I)V"⟩, 21), (⟨"MarkTreatiesModel", "inForce", "()I"⟩, 21), (⟨"MarkTreatiesModel", "sumOf", "(I)I"⟩, 21), (⟨"MarkTreatiesModel", "pairsAtWar", "()I"⟩, 21), (⟨"MarkTreatiesModel", "wouldBreak", "()I"⟩, 21), (⟨"MarkTreatiesModel", "marked", "()I"⟩, 21), (⟨"MarkTreatiesModel", "heldLongest", "()I"⟩, 21), (⟨"MarkTreatiesModel", "putBack", "(I)I"⟩, 21), (⟨"MarkTreatiesModel", "behind", "(II)I"⟩, 21), (⟨"MarkTreatiesModel", "yearsTo", "(II)I"⟩, 21), (⟨"MarkTreatiesModel", "orNone", "(I)I"⟩, 21), (⟨"MarkTreatiesModel", "isLulled", "(II)Z"⟩, 21), (⟨"MarkTreatiesModel", "goldTorn", "(II)I"⟩, 21)]
theorem lw_r6 : ∀ q ∈ lw_privs_6, lw_okq q := List.forall_mem_cons.mpr ⟨lw_p80, List.forall_mem_cons.mpr ⟨lw_p81, List.forall_mem_cons.mpr ⟨lw_p82, List.forall_mem_cons.mpr ⟨lw_p83, List.forall_mem_cons.mpr ⟨lw_p84, List.forall_mem_cons.mpr ⟨lw_p85, List.forall_mem_cons.mpr ⟨lw_p86, List.forall_mem_cons.mpr ⟨lw_p87, List.forall_mem_cons.mpr ⟨lw_p88, List.forall_mem_cons.mpr ⟨lw_p89, List.forall_mem_cons.mpr ⟨lw_p90, List.forall_mem_cons.mpr ⟨lw_p91, List.forall_mem_cons.mpr ⟨lw_p92, List.forall_mem_cons.mpr ⟨lw_p93, List.forall_mem_cons.mpr ⟨lw_p94, List.forall_mem_cons.mpr ⟨lw_p95, fun _ h => absurd h List.not_mem_nil⟩⟩⟩⟩⟩⟩⟩⟩⟩⟩⟩⟩⟩⟩⟩⟩
theorem lw_p96 : lw_okq (⟨"MarkTreatiesModel", "lacks", "(IZ)I"⟩, 21) := ⟨⟨by decide +kernel, by decide +kernel⟩, List.mem_of_getElem? (i := 787) (by decide +kernel), List.mem_of_getElem? (i := 1115) (by decide +kernel), List.mem_of_getElem? (i := 1116) (by decide +kernel)⟩
theorem lw_p97 : lw_okq (⟨"MarkTreatiesModel", "isSo", "(III)Z"⟩, 21) := ⟨⟨by decide +kernel, by decide +kernel⟩, List.mem_of_getElem? (i := 787) (by decide +kernel), List.mem_of_getElem? (i := 1123) (by decide +kernel), List.mem_of_getElem? (i := 1124) (by decide +kernel)⟩
theorem lw_p98 : lw_okq (⟨"MarkTreatiesModel", "drawn", "()I"⟩, 21) := ⟨⟨by decide +kernel, by decide +kernel⟩, List.mem_of_getElem? (i := 787) (by decide +kernel), List.mem_of_getElem? (i := 1135) (by decide +kernel), List.mem_of_getElem? (i := 1136) (by decide +kernel)⟩
theorem lw_p99 : lw_okq (⟨"MarkTreatiesModel", "token", "()V"⟩, 21) := ⟨⟨by decide +kernel, by decide +kernel⟩, List.mem_of_getElem? (i := 787) (by decide +kernel), List.mem_of_getElem? (i := 1160) (by decide +kernel), List.mem_of_getElem? (i := 1161) (by decide +kernel)⟩
theorem lw_p100 : lw_okq (⟨"MarkTreatiesModel", "byteAt", "(I)I"⟩, 21) := ⟨⟨by decide +kernel, by decide +kernel⟩, List.mem_of_getElem? (i := 787) (by decide +kernel), List.mem_of_getElem? (i := 1164) (by decide +kernel), List.mem_of_getElem? (i := 1165) (by decide +kernel)⟩
theorem lw_p101 : lw_okq (⟨"MarkTreatiesModel", "readItem", "()V"⟩, 21) := ⟨⟨by decide +kernel, by decide +kernel⟩, List.mem_of_getElem? (i := 787) (by decide +kernel), List.mem_of_getElem? (i := 1168) (by decide +kernel), List.mem_of_getElem? (i := 1169) (by decide +kernel)⟩
theorem lw_p102 : lw_okq (⟨"MarkTreatiesModel", "isWord", "(Ljava/lang/String;)Z"⟩, 21) := ⟨⟨by decide +kernel, by decide +kernel⟩, List.mem_of_getElem? (i := 787) (by decide +kernel), List.mem_of_getElem? (i := 1172) (by decide +kernel), List.mem_of_getElem? (i := 1173) (by decide +kernel)⟩
theorem lw_p103 : lw_okq (⟨"MarkTreatiesModel", "readTreaty", "(I)V"⟩, 21) := ⟨⟨by decide +kernel, by decide +kernel⟩, List.mem_of_getElem? (i := 787) (by decide +kernel), List.mem_of_getElem? (i := 1178) (by decide +kernel), List.mem_of_getElem? (i := 1179) (by decide +kernel)⟩
theorem lw_p104 : lw_okq (⟨"MarkTreatiesModel", "must", "(Z)V"⟩, 21) := ⟨⟨by decide +kernel, by decide +kernel⟩, List.mem_of_getElem? (i := 787) (by decide +kernel), List.mem_of_getElem? (i := 1182) (by decide +kernel), List.mem_of_getElem? (i := 1183) (by decide +kernel)⟩
theorem lw_p105 : lw_okq (⟨"MarkTreatiesModel", "number", "(II)I"⟩, 21) := ⟨⟨by decide +kernel, by decide +kernel⟩, List.mem_of_getElem? (i := 787) (by decide +kernel), List.mem_of_getElem? (i := 1186) (by decide +kernel), List.mem_of_getElem? (i := 1187) (by decide +kernel)⟩
theorem lw_p106 : lw_okq (⟨"MarkTreatiesModel", "otherThan", "(I)I"⟩, 21) := ⟨⟨by decide +kernel, by decide +kernel⟩, List.mem_of_getElem? (i := 787) (by decide +kernel), List.mem_of_getElem? (i := 1190) (by decide +kernel), List.mem_of_getElem? (i := 1191) (by decide +kernel)⟩
theorem lw_p107 : lw_okq (⟨"MarkTreatiesModel", "takesWord", "(Ljava/lang/String;)Z"⟩, 21) := ⟨⟨by decide +kernel, by decide +kernel⟩, List.mem_of_getElem? (i := 787) (by decide +kernel), List.mem_of_getElem? (i := 1195) (by decide +kernel), List.mem_of_getElem? (i := 1196) (by decide +kernel)⟩
theorem lw_p108 : lw_okq (⟨"MarkTreatiesModel", "addItem", "(IIIIII)V"⟩, 21) := ⟨⟨by decide +kernel, by decide +kernel⟩, List.mem_of_getElem? (i := 787) (by decide +kernel), List.mem_of_getElem? (i := 1201) (by decide +kernel), List.mem_of_getElem? (i := 1202) (by decide +kernel)⟩
theorem lw_p109 : lw_okq (⟨"MarkTreatiesModel", "isToldSo", "(I)V"⟩, 21) := ⟨⟨by decide +kernel, by decide +kernel⟩, List.mem_of_getElem? (i := 787) (by decide +kernel), List.mem_of_getElem? (i := 1208) (by decide +kernel), List.mem_of_getElem? (i := 1209) (by decide +kernel)⟩
def lw_privs_7 : List (MethodName × Nat) := [(⟨"MarkTreatiesModel", "lacks", "(IZ)I"⟩, 21), (⟨"MarkTreatiesModel", "isSo", "(III)Z"⟩, 21), (⟨"MarkTreatiesModel", "drawn", "()I"⟩, 21), (⟨"MarkTreatiesModel", "token", "()V"⟩, 21), (⟨"MarkTreatiesModel", "byteAt", "(I)I"⟩, 21), (⟨"MarkTreatiesModel", "readItem", "()V"⟩, 21), (⟨"MarkTreatiesModel", "isWord", "(Ljava/lang/String;)Z"⟩, 21), (⟨"MarkTreatiesModel", "readTreaty", "(I)V"⟩, 21), (⟨"MarkTreatiesModel", "must", "(Z)V"⟩, 21), (⟨"MarkTreatiesModel", "number", "(II)I"⟩, 21), (⟨"MarkTreatiesModel", "otherThan", "(I)I"⟩, 21), (⟨"MarkTreatiesModel", "takesWord", "(Ljava/lang/String;)Z"⟩, 21), (⟨"MarkTreatiesModel", "addItem", "(IIIIII)V"⟩, 21), (⟨"MarkTreatiesModel", "isToldSo", "(I)V"⟩, 21)]
theorem lw_r7 : ∀ q ∈ lw_privs_7, lw_okq q := List.forall_mem_cons.mpr ⟨lw_p96, List.forall_mem_cons.mpr ⟨lw_p97, List.forall_mem_cons.mpr ⟨lw_p98, List.forall_mem_cons.mpr ⟨lw_p99, List.forall_mem_cons.mpr ⟨lw_p100, List.forall_mem_cons.mpr ⟨lw_p101, List.forall_mem_cons.mpr ⟨lw_p102, List.forall_mem_cons.mpr ⟨lw_p103, List.forall_mem_cons.mpr ⟨lw_p104, List.forall_mem_cons.mpr ⟨lw_p105, List.forall_mem_cons.mpr ⟨lw_p106, List.forall_mem_cons.mpr ⟨lw_p107, List.forall_mem_cons.mpr ⟨lw_p108, List.forall_mem_cons.mpr ⟨lw_p109, fun _ h => absurd h List.not_mem_nil⟩⟩⟩⟩⟩⟩⟩⟩⟩⟩⟩⟩⟩⟩
def lw_privs : List (MethodName × Nat) := lw_privs_1 ++ (lw_privs_2 ++ (lw_privs_3 ++ (lw_privs_4 ++ (lw_privs_5 ++ (lw_privs_6 ++ (lw_privs_7))))))
def lw_tbl : List Cond := k2_sels lw_privs ++ tables_1
theorem lw_privs_ok : ∀ q ∈ lw_privs, lw_okq q := by
  show ∀ q ∈ lw_privs_1 ++ (lw_privs_2 ++ (lw_privs_3 ++ (lw_privs_4 ++ (lw_privs_5 ++ (lw_privs_6 ++ (lw_privs_7)))))), lw_okq q
  exact List.forall_mem_append.mpr ⟨lw_r1, List.forall_mem_append.mpr ⟨lw_r2, List.forall_mem_append.mpr ⟨lw_r3, List.forall_mem_append.mpr ⟨lw_r4, List.forall_mem_append.mpr ⟨lw_r5, List.forall_mem_append.mpr ⟨lw_r6, lw_r7⟩⟩⟩⟩⟩⟩
def lw_g : List Cond := lw_tbl.filter goodWord
theorem lw_in {w : Cond} (i : Nat) (h : lw_tbl[i]? = some w) (hg : goodWord w = true) : w ∈ lw_g := List.mem_filter.mpr ⟨List.mem_of_getElem? h, hg⟩
def lw_isN : Cond → Bool
  | .fieldLinkNest .. => true
  | .methodLinkNest .. => true
  | _ => false
def lw_n : List Cond := lw_tbl.filter lw_isN
theorem lw_inn {w : Cond} (i : Nat) (h : lw_tbl[i]? = some w) (hg : lw_isN w = true) : w ∈ lw_n := List.mem_filter.mpr ⟨List.mem_of_getElem? h, hg⟩
theorem lw_gg (w : Cond) (h : w ∈ lw_g) : (w.onTables && w.keeps) = true ∨ ∃ ty, w = .arrayClass ty := good_of_word (List.mem_filter.mp h).2
def RX0 : String := "MarkTreaties$Reader"
def TX0 : u_T := fun k => match k with
  | 0 => ("MarkTreaties$Reader", "tape", "[B", true)
  | 1 => ("MarkTreaties$Reader", "length", "I", false)
  | 2 => ("MarkTreaties$Reader", "token", "I", false)
  | 3 => ("MarkTreaties$Reader", "begin", "I", false)
  | 4 => ("MarkTreaties$Reader", "end", "I", false)
  | _ => ("MarkTreaties$Reader", "value", "I", false)
def tyX0 : Nat → FieldType := fun k => match k with
  | 0 => .array .byte
  | 1 => .int
  | 2 => .int
  | 3 => .int
  | 4 => .int
  | _ => .int
theorem nmX0 : ∀ a, a < 6 → ∀ b, b < 6 → a ≠ b → (TX0 a).2.1 ≠ (TX0 b).2.1 := by decide +kernel
theorem tyX0_ok : ∀ k, k < 6 → parseFieldDescriptor (TX0 k).2.2.1 = some (tyX0 k) := by decide +kernel
abbrev cX0_init : ByteArray := prog_2_method_1_code
def yX0_init : MethodName := ⟨RX0, "<init>", "()V"⟩
abbrev cX0_take : ByteArray := prog_2_method_2_code
def yX0_take : MethodName := ⟨RX0, "take", "(B)V"⟩
abbrev cX0_readInto : ByteArray := prog_2_method_3_code
def yX0_readInto : MethodName := ⟨RX0, "readInto", "(LMarkTreaties$World;)I"⟩
abbrev cX0_readItem : ByteArray := prog_2_method_4_code
def yX0_readItem : MethodName := ⟨RX0, "readItem", "(LMarkTreaties$World;)Z"⟩
abbrev cX0_readEvent : ByteArray := prog_2_method_5_code
def yX0_readEvent : MethodName := ⟨RX0, "readEvent", "(LMarkTreaties$World;)Z"⟩
abbrev cX0_readPowers : ByteArray := prog_2_method_6_code
def yX0_readPowers : MethodName := ⟨RX0, "readPowers", "(LMarkTreaties$World;I)Z"⟩
abbrev cX0_readTerms : ByteArray := prog_2_method_7_code
def yX0_readTerms : MethodName := ⟨RX0, "readTerms", "(LMarkTreaties$World;)Z"⟩
abbrev cX0_kindTold : ByteArray := prog_2_method_8_code
def yX0_kindTold : MethodName := ⟨RX0, "kindTold", "()I"⟩
abbrev cX0_isWord : ByteArray := prog_2_method_9_code
def yX0_isWord : MethodName := ⟨RX0, "isWord", "(Ljava/lang/String;)Z"⟩
abbrev cX0_passNumber : ByteArray := prog_2_method_10_code
def yX0_passNumber : MethodName := ⟨RX0, "passNumber", "(I)Z"⟩
abbrev cX0_advance : ByteArray := prog_2_method_11_code
def yX0_advance : MethodName := ⟨RX0, "advance", "()V"⟩
abbrev cX0_advanceLetters : ByteArray := prog_2_method_12_code
def yX0_advanceLetters : MethodName := ⟨RX0, "advanceLetters", "()V"⟩
abbrev cX0_advanceDigits : ByteArray := prog_2_method_13_code
def yX0_advanceDigits : MethodName := ⟨RX0, "advanceDigits", "()V"⟩
abbrev cX0_isLetter : ByteArray := prog_2_method_14_code
def yX0_isLetter : MethodName := ⟨RX0, "isLetter", "(I)Z"⟩
abbrev cX0_isDigit : ByteArray := prog_2_method_15_code
def yX0_isDigit : MethodName := ⟨RX0, "isDigit", "(I)Z"⟩
def RX1 : String := "MarkTreaties$Sheet"
def TX1 : u_T := fun k => match k with
  | 0 => ("MarkTreaties$Sheet", "bits", "I", false)
  | 1 => ("MarkTreaties$Sheet", "length", "I", false)
  | _ => ("MarkTreaties$Sheet", "numbers", "[I", true)
def tyX1 : Nat → FieldType := fun k => match k with
  | 0 => .int
  | 1 => .int
  | _ => .array .int
theorem nmX1 : ∀ a, a < 3 → ∀ b, b < 3 → a ≠ b → (TX1 a).2.1 ≠ (TX1 b).2.1 := by decide +kernel
theorem tyX1_ok : ∀ k, k < 3 → parseFieldDescriptor (TX1 k).2.2.1 = some (tyX1 k) := by decide +kernel
abbrev cX1_init : ByteArray := prog_3_method_1_code
def yX1_init : MethodName := ⟨RX1, "<init>", "()V"⟩
abbrev cX1_isMissing : ByteArray := prog_3_method_2_code
def yX1_isMissing : MethodName := ⟨RX1, "isMissing", "()Z"⟩
abbrev cX1_begin : ByteArray := prog_3_method_3_code
def yX1_begin : MethodName := ⟨RX1, "begin", "(II)V"⟩
abbrev cX1_put : ByteArray := prog_3_method_4_code
def yX1_put : MethodName := ⟨RX1, "put", "(II)V"⟩
abbrev cX1_allows : ByteArray := prog_3_method_5_code
def yX1_allows : MethodName := ⟨RX1, "allows", "(II)Z"⟩
abbrev cX1_hasRange : ByteArray := prog_3_method_6_code
def yX1_hasRange : MethodName := ⟨RX1, "hasRange", "(II)Z"⟩
abbrev cX1_lastTold : ByteArray := prog_3_method_7_code
def yX1_lastTold : MethodName := ⟨RX1, "lastTold", "(I)I"⟩
def RX2 : String := "MarkTreaties$Strains"
def TX2 : u_T := fun k => match k with
  | 0 => ("MarkTreaties$Strains", "figures", "[I", true)
  | 1 => ("MarkTreaties$Strains", "borne", "[I", true)
  | _ => ("MarkTreaties$Strains", "size", "I", false)
def tyX2 : Nat → FieldType := fun k => match k with
  | 0 => .array .int
  | 1 => .array .int
  | _ => .int
theorem nmX2 : ∀ a, a < 3 → ∀ b, b < 3 → a ≠ b → (TX2 a).2.1 ≠ (TX2 b).2.1 := by decide +kernel
theorem tyX2_ok : ∀ k, k < 3 → parseFieldDescriptor (TX2 k).2.2.1 = some (tyX2 k) := by decide +kernel
abbrev cX2_init : ByteArray := prog_4_method_1_code
def yX2_init : MethodName := ⟨RX2, "<init>", "()V"⟩
abbrev cX2_addOf : ByteArray := prog_4_method_2_code
def yX2_addOf : MethodName := ⟨RX2, "addOf", "(LMarkTreaties$Treaty;I)V"⟩
abbrev cX2_add : ByteArray := prog_4_method_3_code
def yX2_add : MethodName := ⟨RX2, "add", "(II)V"⟩
abbrev cX2_areEasedBy : ByteArray := prog_4_method_4_code
def yX2_areEasedBy : MethodName := ⟨RX2, "areEasedBy", "(I)Z"⟩
def RX3 : String := "MarkTreaties$Treaty"
def TX3 : u_T := fun k => match k with
  | 0 => ("MarkTreaties$Treaty", "kind", "I", false)
  | 1 => ("MarkTreaties$Treaty", "first", "I", false)
  | 2 => ("MarkTreaties$Treaty", "other", "I", false)
  | 3 => ("MarkTreaties$Treaty", "mark", "I", false)
  | 4 => ("MarkTreaties$Treaty", "force", "I", false)
  | 5 => ("MarkTreaties$Treaty", "held", "I", false)
  | 6 => ("MarkTreaties$Treaty", "waits", "I", false)
  | _ => ("MarkTreaties$Treaty", "broken", "I", false)
def tyX3 : Nat → FieldType := fun k => match k with
  | 0 => .int
  | 1 => .int
  | 2 => .int
  | 3 => .int
  | 4 => .int
  | 5 => .int
  | 6 => .int
  | _ => .int
theorem nmX3 : ∀ a, a < 8 → ∀ b, b < 8 → a ≠ b → (TX3 a).2.1 ≠ (TX3 b).2.1 := by decide +kernel
theorem tyX3_ok : ∀ k, k < 8 → parseFieldDescriptor (TX3 k).2.2.1 = some (tyX3 k) := by decide +kernel
abbrev cX3_init : ByteArray := prog_5_method_1_code
def yX3_init : MethodName := ⟨RX3, "<init>", "()V"⟩
abbrev cX3_begin : ByteArray := prog_5_method_2_code
def yX3_begin : MethodName := ⟨RX3, "begin", "(IIII)V"⟩
abbrev cX3_become : ByteArray := prog_5_method_3_code
def yX3_become : MethodName := ⟨RX3, "become", "(LMarkTreaties$Treaty;)V"⟩
abbrev cX3_tell : ByteArray := prog_5_method_4_code
def yX3_tell : MethodName := ⟨RX3, "tell", "(II)I"⟩
abbrev cX3_takes : ByteArray := prog_5_method_5_code
def yX3_takes : MethodName := ⟨RX3, "takes", "(II)Z"⟩
abbrev cX3_alter : ByteArray := prog_5_method_6_code
def yX3_alter : MethodName := ⟨RX3, "alter", "(II)V"⟩
abbrev cX3_isA : ByteArray := prog_5_method_7_code
def yX3_isA : MethodName := ⟨RX3, "isA", "(I)Z"⟩
abbrev cX3_bears : ByteArray := prog_5_method_8_code
def yX3_bears : MethodName := ⟨RX3, "bears", "(I)I"⟩
abbrev cX3_fades : ByteArray := prog_5_method_9_code
def yX3_fades : MethodName := ⟨RX3, "fades", "()I"⟩
abbrev cX3_yields : ByteArray := prog_5_method_10_code
def yX3_yields : MethodName := ⟨RX3, "yields", "()I"⟩
abbrev cX3_renews : ByteArray := prog_5_method_11_code
def yX3_renews : MethodName := ⟨RX3, "renews", "()I"⟩
abbrev cX3_isOverborne : ByteArray := prog_5_method_12_code
def yX3_isOverborne : MethodName := ⟨RX3, "isOverborne", "(I)Z"⟩
abbrev cX3_live : ByteArray := prog_5_method_13_code
def yX3_live : MethodName := ⟨RX3, "live", "(II)I"⟩
abbrev cX3_liveYears : ByteArray := prog_5_method_14_code
def yX3_liveYears : MethodName := ⟨RX3, "liveYears", "([III)I"⟩
abbrev cX3_await : ByteArray := prog_5_method_15_code
def yX3_await : MethodName := ⟨RX3, "await", "(I)V"⟩
abbrev cX3_fade : ByteArray := prog_5_method_16_code
def yX3_fade : MethodName := ⟨RX3, "fade", "()V"⟩
abbrev cX3_isToFade : ByteArray := prog_5_method_17_code
def yX3_isToFade : MethodName := ⟨RX3, "isToFade", "(I)Z"⟩
abbrev cX3_fadesWithin : ByteArray := prog_5_method_18_code
def yX3_fadesWithin : MethodName := ⟨RX3, "fadesWithin", "(I)Z"⟩
def RX4 : String := "MarkTreaties$World"
def TX4 : u_T := fun k => match k with
  | 0 => ("MarkTreaties$World", "yard", "I", false)
  | 1 => ("MarkTreaties$World", "up", "I", false)
  | 2 => ("MarkTreaties$World", "list", "[I", true)
  | 3 => ("MarkTreaties$World", "gold", "I", false)
  | 4 => ("MarkTreaties$World", "year", "I", false)
  | 5 => ("MarkTreaties$World", "z", "I", false)
  | 6 => ("MarkTreaties$World", "treaties", "[LMarkTreaties$Treaty;", true)
  | 7 => ("MarkTreaties$World", "size", "I", false)
  | _ => ("MarkTreaties$World", "spots", "[I", true)
def tyX4 : Nat → FieldType := fun k => match k with
  | 0 => .int
  | 1 => .int
  | 2 => .array .int
  | 3 => .int
  | 4 => .int
  | 5 => .int
  | 6 => .array (.object "MarkTreaties$Treaty")
  | 7 => .int
  | _ => .array .int
theorem nmX4 : ∀ a, a < 9 → ∀ b, b < 9 → a ≠ b → (TX4 a).2.1 ≠ (TX4 b).2.1 := by decide +kernel
theorem tyX4_ok : ∀ k, k < 9 → parseFieldDescriptor (TX4 k).2.2.1 = some (tyX4 k) := by decide +kernel
abbrev cX4_init : ByteArray := prog_6_method_1_code
def yX4_init : MethodName := ⟨RX4, "<init>", "()V"⟩
abbrev cX4_become : ByteArray := prog_6_method_2_code
def yX4_become : MethodName := ⟨RX4, "become", "(LMarkTreaties$World;)V"⟩
abbrev cX4_sign : ByteArray := prog_6_method_3_code
def yX4_sign : MethodName := ⟨RX4, "sign", "(III)V"⟩
abbrev cX4_draw : ByteArray := prog_6_method_4_code
def yX4_draw : MethodName := ⟨RX4, "draw", "()I"⟩
abbrev cX4_passYears : ByteArray := prog_6_method_5_code
def yX4_passYears : MethodName := ⟨RX4, "passYears", "(I)V"⟩
abbrev cX4_pass : ByteArray := prog_6_method_6_code
def yX4_pass : MethodName := ⟨RX4, "pass", "()V"⟩
abbrev cX4_inForce : ByteArray := prog_6_method_7_code
def yX4_inForce : MethodName := ⟨RX4, "inForce", "()I"⟩
abbrev cX4_breaking : ByteArray := prog_6_method_8_code
def yX4_breaking : MethodName := ⟨RX4, "breaking", "()I"⟩
abbrev cX4_marksInForce : ByteArray := prog_6_method_9_code
def yX4_marksInForce : MethodName := ⟨RX4, "marksInForce", "()I"⟩
abbrev cX4_longestHeld : ByteArray := prog_6_method_10_code
def yX4_longestHeld : MethodName := ⟨RX4, "longestHeld", "()I"⟩
abbrev cX4_allBroken : ByteArray := prog_6_method_11_code
def yX4_allBroken : MethodName := ⟨RX4, "allBroken", "()I"⟩
abbrev cX4_spotsHolding : ByteArray := prog_6_method_12_code
def yX4_spotsHolding : MethodName := ⟨RX4, "spotsHolding", "()I"⟩
abbrev cX4_pairsAtWar : ByteArray := prog_6_method_13_code
def yX4_pairsAtWar : MethodName := ⟨RX4, "pairsAtWar", "()J"⟩
def RX5 : String := "MarkTreaties"
def TX5 : u_T := fun k => match k with
  | 0 => ("MarkTreaties", "world", "LMarkTreaties$World;", true)
  | 1 => ("MarkTreaties", "kept", "LMarkTreaties$World;", true)
  | 2 => ("MarkTreaties", "isKept", "Z", false)
  | 3 => ("MarkTreaties", "trial", "LMarkTreaties$World;", true)
  | 4 => ("MarkTreaties", "alone", "LMarkTreaties$Treaty;", true)
  | 5 => ("MarkTreaties", "ups", "[I", true)
  | 6 => ("MarkTreaties", "strains", "LMarkTreaties$Strains;", true)
  | 7 => ("MarkTreaties", "gains", "[I", true)
  | 8 => ("MarkTreaties", "tornGains", "[I", true)
  | 9 => ("MarkTreaties", "reader", "LMarkTreaties$Reader;", true)
  | 10 => ("MarkTreaties", "sheets", "[LMarkTreaties$Sheet;", true)
  | _ => ("MarkTreaties", "findings", "[I", true)
def tyX5 : Nat → FieldType := fun k => match k with
  | 0 => .object "MarkTreaties$World"
  | 1 => .object "MarkTreaties$World"
  | 2 => .boolean
  | 3 => .object "MarkTreaties$World"
  | 4 => .object "MarkTreaties$Treaty"
  | 5 => .array .int
  | 6 => .object "MarkTreaties$Strains"
  | 7 => .array .int
  | 8 => .array .int
  | 9 => .object "MarkTreaties$Reader"
  | 10 => .array (.object "MarkTreaties$Sheet")
  | _ => .array .int
theorem nmX5 : ∀ a, a < 12 → ∀ b, b < 12 → a ≠ b → (TX5 a).2.1 ≠ (TX5 b).2.1 := by decide +kernel
theorem tyX5_ok : ∀ k, k < 12 → parseFieldDescriptor (TX5 k).2.2.1 = some (tyX5 k) := by decide +kernel
abbrev cX5_init : ByteArray := prog_1_method_1_code
def yX5_init : MethodName := ⟨RX5, "<init>", "()V"⟩
abbrev cX5_set : ByteArray := prog_1_method_2_code
def yX5_set : MethodName := ⟨RX5, "set", "(II)I"⟩
abbrev cX5_seen : ByteArray := prog_1_method_3_code
def yX5_seen : MethodName := ⟨RX5, "seen", "(I)I"⟩
abbrev cX5_event : ByteArray := prog_1_method_4_code
def yX5_event : MethodName := ⟨RX5, "event", "(II)I"⟩
abbrev cX5_listed : ByteArray := prog_1_method_5_code
def yX5_listed : MethodName := ⟨RX5, "listed", "(I)I"⟩
abbrev cX5_treaty : ByteArray := prog_1_method_6_code
def yX5_treaty : MethodName := ⟨RX5, "treaty", "(III)I"⟩
abbrev cX5_of : ByteArray := prog_1_method_7_code
def yX5_of : MethodName := ⟨RX5, "of", "(II)I"⟩
abbrev cX5_change : ByteArray := prog_1_method_8_code
def yX5_change : MethodName := ⟨RX5, "change", "(III)I"⟩
abbrev cX5_wars : ByteArray := prog_1_method_9_code
def yX5_wars : MethodName := ⟨RX5, "wars", "(I)I"⟩
abbrev cX5_go : ByteArray := prog_1_method_10_code
def yX5_go : MethodName := ⟨RX5, "go", "(I)I"⟩
abbrev cX5_now : ByteArray := prog_1_method_11_code
def yX5_now : MethodName := ⟨RX5, "now", "(I)I"⟩
abbrev cX5_ahead : ByteArray := prog_1_method_12_code
def yX5_ahead : MethodName := ⟨RX5, "ahead", "(III)I"⟩
abbrev cX5_gold : ByteArray := prog_1_method_13_code
def yX5_gold : MethodName := ⟨RX5, "gold", "(I)I"⟩
abbrev cX5_breaks : ByteArray := prog_1_method_14_code
def yX5_breaks : MethodName := ⟨RX5, "breaks", "(I)I"⟩
abbrev cX5_war : ByteArray := prog_1_method_15_code
def yX5_war : MethodName := ⟨RX5, "war", "(II)I"⟩
abbrev cX5_peace : ByteArray := prog_1_method_16_code
def yX5_peace : MethodName := ⟨RX5, "peace", "()I"⟩
abbrev cX5_when : ByteArray := prog_1_method_17_code
def yX5_when : MethodName := ⟨RX5, "when", "(II)I"⟩
abbrev cX5_yardFor : ByteArray := prog_1_method_18_code
def yX5_yardFor : MethodName := ⟨RX5, "yardFor", "(I)I"⟩
abbrev cX5_kindFor : ByteArray := prog_1_method_19_code
def yX5_kindFor : MethodName := ⟨RX5, "kindFor", "(II)I"⟩
abbrev cX5_strike : ByteArray := prog_1_method_20_code
def yX5_strike : MethodName := ⟨RX5, "strike", "(II)I"⟩
abbrev cX5_lull : ByteArray := prog_1_method_21_code
def yX5_lull : MethodName := ⟨RX5, "lull", "(I)I"⟩
abbrev cX5_tear : ByteArray := prog_1_method_22_code
def yX5_tear : MethodName := ⟨RX5, "tear", "(II)I"⟩
abbrev cX5_fits : ByteArray := prog_1_method_23_code
def yX5_fits : MethodName := ⟨RX5, "fits", "(II)I"⟩
abbrev cX5_kinds : ByteArray := prog_1_method_24_code
def yX5_kinds : MethodName := ⟨RX5, "kinds", "(II)I"⟩
abbrev cX5_wakings : ByteArray := prog_1_method_25_code
def yX5_wakings : MethodName := ⟨RX5, "wakings", "(I)I"⟩
abbrev cX5_odds : ByteArray := prog_1_method_26_code
def yX5_odds : MethodName := ⟨RX5, "odds", "(III)J"⟩
abbrev cX5_seed : ByteArray := prog_1_method_27_code
def yX5_seed : MethodName := ⟨RX5, "seed", "(I)I"⟩
abbrev cX5_feed : ByteArray := prog_1_method_28_code
def yX5_feed : MethodName := ⟨RX5, "feed", "(II)I"⟩
abbrev cX5_wipe : ByteArray := prog_1_method_29_code
def yX5_wipe : MethodName := ⟨RX5, "wipe", "()I"⟩
abbrev cX5_text : ByteArray := prog_1_method_30_code
def yX5_text : MethodName := ⟨RX5, "text", "()I"⟩
abbrev cX5_hold : ByteArray := prog_1_method_31_code
def yX5_hold : MethodName := ⟨RX5, "hold", "(II)I"⟩
abbrev cX5_as : ByteArray := prog_1_method_32_code
def yX5_as : MethodName := ⟨RX5, "as", "(II)I"⟩
abbrev cX5_sheet : ByteArray := prog_1_method_33_code
def yX5_sheet : MethodName := ⟨RX5, "sheet", "(III)I"⟩
abbrev cX5_write : ByteArray := prog_1_method_34_code
def yX5_write : MethodName := ⟨RX5, "write", "(III)I"⟩
abbrev cX5_copy : ByteArray := prog_1_method_35_code
def yX5_copy : MethodName := ⟨RX5, "copy", "(IIIII)I"⟩
abbrev cX5_load : ByteArray := prog_1_method_36_code
def yX5_load : MethodName := ⟨RX5, "load", "(I)I"⟩
abbrev cX5_judge : ByteArray := prog_1_method_37_code
def yX5_judge : MethodName := ⟨RX5, "judge", "(I)I"⟩
abbrev cX5_image : ByteArray := prog_1_method_38_code
def yX5_image : MethodName := ⟨RX5, "image", "()I"⟩
abbrev cX5_undo : ByteArray := prog_1_method_39_code
def yX5_undo : MethodName := ⟨RX5, "undo", "()I"⟩
abbrev cX5_forget : ByteArray := prog_1_method_40_code
def yX5_forget : MethodName := ⟨RX5, "forget", "()I"⟩
abbrev cX5_count : ByteArray := prog_1_method_41_code
def yX5_count : MethodName := ⟨RX5, "count", "(I)I"⟩
abbrev cX5_status : ByteArray := prog_1_method_42_code
def yX5_status : MethodName := ⟨RX5, "status", "(I)I"⟩
abbrev cX5_finding : ByteArray := prog_1_method_43_code
def yX5_finding : MethodName := ⟨RX5, "finding", "(I)I"⟩
abbrev cX5_isWithin : ByteArray := prog_1_method_44_code
def yX5_isWithin : MethodName := ⟨RX5, "isWithin", "(II)Z"⟩
abbrev cX5_isPair : ByteArray := prog_1_method_45_code
def yX5_isPair : MethodName := ⟨RX5, "isPair", "(II)Z"⟩
abbrev cX5_pair : ByteArray := prog_1_method_46_code
def yX5_pair : MethodName := ⟨RX5, "pair", "(II)J"⟩
abbrev cX5_isTreaty : ByteArray := prog_1_method_47_code
def yX5_isTreaty : MethodName := ⟨RX5, "isTreaty", "(I)Z"⟩
abbrev cX5_isSheet : ByteArray := prog_1_method_48_code
def yX5_isSheet : MethodName := ⟨RX5, "isSheet", "(I)Z"⟩
abbrev cX5_figuresOf : ByteArray := prog_1_method_49_code
def yX5_figuresOf : MethodName := ⟨RX5, "figuresOf", "(I)I"⟩
abbrev cX5_faultOfSheet : ByteArray := prog_1_method_50_code
def yX5_faultOfSheet : MethodName := ⟨RX5, "faultOfSheet", "(I)I"⟩
abbrev cX5_faultOfSheetAndTreaty : ByteArray := prog_1_method_51_code
def yX5_faultOfSheetAndTreaty : MethodName := ⟨RX5, "faultOfSheetAndTreaty", "(II)I"⟩
abbrev cX5_tryAlone : ByteArray := prog_1_method_52_code
def yX5_tryAlone : MethodName := ⟨RX5, "tryAlone", "(I)V"⟩
abbrev cX5_foreseeUps : ByteArray := prog_1_method_53_code
def yX5_foreseeUps : MethodName := ⟨RX5, "foreseeUps", "(I)V"⟩
abbrev cX5_figuresWeighing : ByteArray := prog_1_method_54_code
def yX5_figuresWeighing : MethodName := ⟨RX5, "figuresWeighing", "(II)I"⟩
abbrev cX5_fitsMark : ByteArray := prog_1_method_55_code
def yX5_fitsMark : MethodName := ⟨RX5, "fitsMark", "(LMarkTreaties$Sheet;III)Z"⟩
abbrev cX5_followsSheet : ByteArray := prog_1_method_56_code
def yX5_followsSheet : MethodName := ⟨RX5, "followsSheet", "(LMarkTreaties$Sheet;II)Z"⟩
abbrev cX5_foreseeStrains : ByteArray := prog_1_method_57_code
def yX5_foreseeStrains : MethodName := ⟨RX5, "foreseeStrains", "(I)V"⟩
abbrev cX5_foreseeGains : ByteArray := prog_1_method_58_code
def yX5_foreseeGains : MethodName := ⟨RX5, "foreseeGains", "(I)V"⟩
abbrev cX5_goldWithTorn : ByteArray := prog_1_method_59_code
def yX5_goldWithTorn : MethodName := ⟨RX5, "goldWithTorn", "(I)I"⟩
abbrev cX5_toggled : ByteArray := prog_1_method_60_code
def yX5_toggled : MethodName := ⟨RX5, "toggled", "(II)I"⟩
abbrev cX5_sharedDivisor : ByteArray := prog_1_method_61_code
def yX5_sharedDivisor : MethodName := ⟨RX5, "sharedDivisor", "(II)I"⟩
abbrev cX5_power : ByteArray := prog_1_method_62_code
def yX5_power : MethodName := ⟨RX5, "power", "(II)J"⟩
def RX6 : String := "MarkTreatiesModel"
def TX6 : u_T := fun k => match k with
  | 0 => ("MarkTreatiesModel", "now", "[I", true)
  | 1 => ("MarkTreatiesModel", "kept", "[I", true)
  | 2 => ("MarkTreatiesModel", "aside", "[I", true)
  | 3 => ("MarkTreatiesModel", "isKept", "Z", false)
  | 4 => ("MarkTreatiesModel", "found", "[I", true)
  | 5 => ("MarkTreatiesModel", "broke", "I", false)
  | 6 => ("MarkTreatiesModel", "tape", "[I", true)
  | 7 => ("MarkTreatiesModel", "taped", "I", false)
  | 8 => ("MarkTreatiesModel", "begins", "I", false)
  | 9 => ("MarkTreatiesModel", "ends", "I", false)
  | 10 => ("MarkTreatiesModel", "sort", "I", false)
  | 11 => ("MarkTreatiesModel", "value", "I", false)
  | 12 => ("MarkTreatiesModel", "isWrong", "Z", false)
  | 13 => ("MarkTreatiesModel", "kindNames", "[Ljava/lang/String;", true)
  | 14 => ("MarkTreatiesModel", "items", "[I", true)
  | 15 => ("MarkTreatiesModel", "itemMany", "I", false)
  | 16 => ("MarkTreatiesModel", "treatiesThen", "I", false)
  | 17 => ("MarkTreatiesModel", "widths", "[I", true)
  | 18 => ("MarkTreatiesModel", "sizes", "[I", true)
  | 19 => ("MarkTreatiesModel", "numbers", "[I", true)
  | _ => ("MarkTreatiesModel", "moved", "[I", true)
def tyX6 : Nat → FieldType := fun k => match k with
  | 0 => .array .int
  | 1 => .array .int
  | 2 => .array .int
  | 3 => .boolean
  | 4 => .array .int
  | 5 => .int
  | 6 => .array .int
  | 7 => .int
  | 8 => .int
  | 9 => .int
  | 10 => .int
  | 11 => .int
  | 12 => .boolean
  | 13 => .array (.object "java/lang/String")
  | 14 => .array .int
  | 15 => .int
  | 16 => .int
  | 17 => .array .int
  | 18 => .array .int
  | 19 => .array .int
  | _ => .array .int
theorem nmX6 : ∀ a, a < 21 → ∀ b, b < 21 → a ≠ b → (TX6 a).2.1 ≠ (TX6 b).2.1 := by decide +kernel
theorem tyX6_ok : ∀ k, k < 21 → parseFieldDescriptor (TX6 k).2.2.1 = some (tyX6 k) := by decide +kernel
abbrev cX6_init : ByteArray := prog_8_method_1_code
def yX6_init : MethodName := ⟨RX6, "<init>", "()V"⟩
abbrev cX6_finding : ByteArray := prog_8_method_2_code
def yX6_finding : MethodName := ⟨RX6, "finding", "(I)I"⟩
abbrev cX6_within : ByteArray := prog_8_method_3_code
def yX6_within : MethodName := ⟨RX6, "within", "(III)Z"⟩
abbrev cX6_become : ByteArray := prog_8_method_4_code
def yX6_become : MethodName := ⟨RX6, "become", "(II)I"⟩
abbrev cX6_copyRow : ByteArray := prog_8_method_5_code
def yX6_copyRow : MethodName := ⟨RX6, "copyRow", "([I[I)V"⟩
abbrev cX6_putBack : ByteArray := prog_8_method_6_code
def yX6_putBack : MethodName := ⟨RX6, "putBack", "(I)I"⟩
abbrev cX6_orNone : ByteArray := prog_8_method_7_code
def yX6_orNone : MethodName := ⟨RX6, "orNone", "(I)I"⟩
abbrev cX6_bits : ByteArray := prog_8_method_8_code
def yX6_bits : MethodName := ⟨RX6, "bits", "(I)I"⟩
abbrev cX6_isFigures : ByteArray := prog_8_method_9_code
def yX6_isFigures : MethodName := ⟨RX6, "isFigures", "(I)Z"⟩
abbrev cX6_isPower : ByteArray := prog_8_method_10_code
def yX6_isPower : MethodName := ⟨RX6, "isPower", "(I)Z"⟩
abbrev cX6_set : ByteArray := prog_8_method_11_code
def yX6_set : MethodName := ⟨RX6, "set", "(II)I"⟩
abbrev cX6_seen : ByteArray := prog_8_method_12_code
def yX6_seen : MethodName := ⟨RX6, "seen", "(I)I"⟩
abbrev cX6_isPlace : ByteArray := prog_8_method_13_code
def yX6_isPlace : MethodName := ⟨RX6, "isPlace", "(I)Z"⟩
abbrev cX6_event : ByteArray := prog_8_method_14_code
def yX6_event : MethodName := ⟨RX6, "event", "(II)I"⟩
abbrev cX6_listed : ByteArray := prog_8_method_15_code
def yX6_listed : MethodName := ⟨RX6, "listed", "(I)I"⟩
abbrev cX6_treatyAt : ByteArray := prog_8_method_16_code
def yX6_treatyAt : MethodName := ⟨RX6, "treatyAt", "(II)I"⟩
abbrev cX6_treatyIs : ByteArray := prog_8_method_17_code
def yX6_treatyIs : MethodName := ⟨RX6, "treatyIs", "(II)I"⟩
abbrev cX6_isTreaty : ByteArray := prog_8_method_18_code
def yX6_isTreaty : MethodName := ⟨RX6, "isTreaty", "(I)Z"⟩
abbrev cX6_isKind : ByteArray := prog_8_method_19_code
def yX6_isKind : MethodName := ⟨RX6, "isKind", "(I)Z"⟩
abbrev cX6_comes : ByteArray := prog_8_method_20_code
def yX6_comes : MethodName := ⟨RX6, "comes", "(III)I"⟩
abbrev cX6_treaty : ByteArray := prog_8_method_21_code
def yX6_treaty : MethodName := ⟨RX6, "treaty", "(III)I"⟩
abbrev cX6_bears : ByteArray := prog_8_method_22_code
def yX6_bears : MethodName := ⟨RX6, "bears", "(I)I"⟩
abbrev cX6_fades : ByteArray := prog_8_method_23_code
def yX6_fades : MethodName := ⟨RX6, "fades", "(I)I"⟩
abbrev cX6_yields : ByteArray := prog_8_method_24_code
def yX6_yields : MethodName := ⟨RX6, "yields", "(I)I"⟩
abbrev cX6_renews : ByteArray := prog_8_method_25_code
def yX6_renews : MethodName := ⟨RX6, "renews", "(I)I"⟩
abbrev cX6_upIn : ByteArray := prog_8_method_26_code
def yX6_upIn : MethodName := ⟨RX6, "upIn", "(I)I"⟩
abbrev cX6_told : ByteArray := prog_8_method_27_code
def yX6_told : MethodName := ⟨RX6, "told", "(II)I"⟩
abbrev cX6_of : ByteArray := prog_8_method_28_code
def yX6_of : MethodName := ⟨RX6, "of", "(II)I"⟩
abbrev cX6_isField : ByteArray := prog_8_method_29_code
def yX6_isField : MethodName := ⟨RX6, "isField", "(III)Z"⟩
abbrev cX6_change : ByteArray := prog_8_method_30_code
def yX6_change : MethodName := ⟨RX6, "change", "(III)I"⟩
abbrev cX6_areBetween : ByteArray := prog_8_method_31_code
def yX6_areBetween : MethodName := ⟨RX6, "areBetween", "(III)Z"⟩
abbrev cX6_isWar : ByteArray := prog_8_method_32_code
def yX6_isWar : MethodName := ⟨RX6, "isWar", "(II)Z"⟩
abbrev cX6_wars : ByteArray := prog_8_method_33_code
def yX6_wars : MethodName := ⟨RX6, "wars", "(I)I"⟩
abbrev cX6_pairsAtWar : ByteArray := prog_8_method_34_code
def yX6_pairsAtWar : MethodName := ⟨RX6, "pairsAtWar", "()I"⟩
abbrev cX6_more : ByteArray := prog_8_method_35_code
def yX6_more : MethodName := ⟨RX6, "more", "(III)V"⟩
abbrev cX6_fadesNow : ByteArray := prog_8_method_36_code
def yX6_fadesNow : MethodName := ⟨RX6, "fadesNow", "(I)V"⟩
abbrev cX6_holds : ByteArray := prog_8_method_37_code
def yX6_holds : MethodName := ⟨RX6, "holds", "(I)V"⟩
abbrev cX6_waits : ByteArray := prog_8_method_38_code
def yX6_waits : MethodName := ⟨RX6, "waits", "(I)V"⟩
abbrev cX6_year : ByteArray := prog_8_method_39_code
def yX6_year : MethodName := ⟨RX6, "year", "()V"⟩
abbrev cX6_yearsGo : ByteArray := prog_8_method_40_code
def yX6_yearsGo : MethodName := ⟨RX6, "yearsGo", "(I)V"⟩
abbrev cX6_sumOf : ByteArray := prog_8_method_41_code
def yX6_sumOf : MethodName := ⟨RX6, "sumOf", "(I)I"⟩
abbrev cX6_inForce : ByteArray := prog_8_method_42_code
def yX6_inForce : MethodName := ⟨RX6, "inForce", "()I"⟩
abbrev cX6_go : ByteArray := prog_8_method_43_code
def yX6_go : MethodName := ⟨RX6, "go", "(I)I"⟩
abbrev cX6_wouldBreak : ByteArray := prog_8_method_44_code
def yX6_wouldBreak : MethodName := ⟨RX6, "wouldBreak", "()I"⟩
abbrev cX6_marked : ByteArray := prog_8_method_45_code
def yX6_marked : MethodName := ⟨RX6, "marked", "()I"⟩
abbrev cX6_heldLongest : ByteArray := prog_8_method_46_code
def yX6_heldLongest : MethodName := ⟨RX6, "heldLongest", "()I"⟩
abbrev cX6_now : ByteArray := prog_8_method_47_code
def yX6_now : MethodName := ⟨RX6, "now", "(I)I"⟩
abbrev cX6_behind : ByteArray := prog_8_method_48_code
def yX6_behind : MethodName := ⟨RX6, "behind", "(II)I"⟩
abbrev cX6_ahead : ByteArray := prog_8_method_49_code
def yX6_ahead : MethodName := ⟨RX6, "ahead", "(III)I"⟩
abbrev cX6_gold : ByteArray := prog_8_method_50_code
def yX6_gold : MethodName := ⟨RX6, "gold", "(I)I"⟩
abbrev cX6_yearsTo : ByteArray := prog_8_method_51_code
def yX6_yearsTo : MethodName := ⟨RX6, "yearsTo", "(II)I"⟩
abbrev cX6_breaks : ByteArray := prog_8_method_52_code
def yX6_breaks : MethodName := ⟨RX6, "breaks", "(I)I"⟩
abbrev cX6_war : ByteArray := prog_8_method_53_code
def yX6_war : MethodName := ⟨RX6, "war", "(II)I"⟩
abbrev cX6_peace : ByteArray := prog_8_method_54_code
def yX6_peace : MethodName := ⟨RX6, "peace", "()I"⟩
abbrev cX6_when : ByteArray := prog_8_method_55_code
def yX6_when : MethodName := ⟨RX6, "when", "(II)I"⟩
abbrev cX6_isThought : ByteArray := prog_8_method_56_code
def yX6_isThought : MethodName := ⟨RX6, "isThought", "(I)Z"⟩
abbrev cX6_yardFor : ByteArray := prog_8_method_57_code
def yX6_yardFor : MethodName := ⟨RX6, "yardFor", "(I)I"⟩
abbrev cX6_kindFor : ByteArray := prog_8_method_58_code
def yX6_kindFor : MethodName := ⟨RX6, "kindFor", "(II)I"⟩
abbrev cX6_strike : ByteArray := prog_8_method_59_code
def yX6_strike : MethodName := ⟨RX6, "strike", "(II)I"⟩
abbrev cX6_isLulled : ByteArray := prog_8_method_60_code
def yX6_isLulled : MethodName := ⟨RX6, "isLulled", "(II)Z"⟩
abbrev cX6_lull : ByteArray := prog_8_method_61_code
def yX6_lull : MethodName := ⟨RX6, "lull", "(I)I"⟩
abbrev cX6_goldTorn : ByteArray := prog_8_method_62_code
def yX6_goldTorn : MethodName := ⟨RX6, "goldTorn", "(II)I"⟩
abbrev cX6_tear : ByteArray := prog_8_method_63_code
def yX6_tear : MethodName := ⟨RX6, "tear", "(II)I"⟩
abbrev cX6_lacks : ByteArray := prog_8_method_64_code
def yX6_lacks : MethodName := ⟨RX6, "lacks", "(IZ)I"⟩
abbrev cX6_isSo : ByteArray := prog_8_method_65_code
def yX6_isSo : MethodName := ⟨RX6, "isSo", "(III)Z"⟩
abbrev cX6_fits : ByteArray := prog_8_method_66_code
def yX6_fits : MethodName := ⟨RX6, "fits", "(II)I"⟩
abbrev cX6_kinds : ByteArray := prog_8_method_67_code
def yX6_kinds : MethodName := ⟨RX6, "kinds", "(II)I"⟩
abbrev cX6_drawn : ByteArray := prog_8_method_68_code
def yX6_drawn : MethodName := ⟨RX6, "drawn", "()I"⟩
abbrev cX6_wakings : ByteArray := prog_8_method_69_code
def yX6_wakings : MethodName := ⟨RX6, "wakings", "(I)I"⟩
abbrev cX6_odds : ByteArray := prog_8_method_70_code
def yX6_odds : MethodName := ⟨RX6, "odds", "(III)J"⟩
abbrev cX6_seed : ByteArray := prog_8_method_71_code
def yX6_seed : MethodName := ⟨RX6, "seed", "(I)I"⟩
abbrev cX6_feed : ByteArray := prog_8_method_72_code
def yX6_feed : MethodName := ⟨RX6, "feed", "(II)I"⟩
abbrev cX6_wipe : ByteArray := prog_8_method_73_code
def yX6_wipe : MethodName := ⟨RX6, "wipe", "()I"⟩
abbrev cX6_byteAt : ByteArray := prog_8_method_74_code
def yX6_byteAt : MethodName := ⟨RX6, "byteAt", "(I)I"⟩
abbrev cX6_token : ByteArray := prog_8_method_75_code
def yX6_token : MethodName := ⟨RX6, "token", "()V"⟩
abbrev cX6_isWord : ByteArray := prog_8_method_76_code
def yX6_isWord : MethodName := ⟨RX6, "isWord", "(Ljava/lang/String;)Z"⟩
abbrev cX6_must : ByteArray := prog_8_method_77_code
def yX6_must : MethodName := ⟨RX6, "must", "(Z)V"⟩
abbrev cX6_number : ByteArray := prog_8_method_78_code
def yX6_number : MethodName := ⟨RX6, "number", "(II)I"⟩
abbrev cX6_addItem : ByteArray := prog_8_method_79_code
def yX6_addItem : MethodName := ⟨RX6, "addItem", "(IIIIII)V"⟩
abbrev cX6_takesWord : ByteArray := prog_8_method_80_code
def yX6_takesWord : MethodName := ⟨RX6, "takesWord", "(Ljava/lang/String;)Z"⟩
abbrev cX6_otherThan : ByteArray := prog_8_method_81_code
def yX6_otherThan : MethodName := ⟨RX6, "otherThan", "(I)I"⟩
abbrev cX6_readTreaty : ByteArray := prog_8_method_82_code
def yX6_readTreaty : MethodName := ⟨RX6, "readTreaty", "(I)V"⟩
abbrev cX6_readItem : ByteArray := prog_8_method_83_code
def yX6_readItem : MethodName := ⟨RX6, "readItem", "()V"⟩
abbrev cX6_isToldSo : ByteArray := prog_8_method_84_code
def yX6_isToldSo : MethodName := ⟨RX6, "isToldSo", "(I)V"⟩
abbrev cX6_text : ByteArray := prog_8_method_85_code
def yX6_text : MethodName := ⟨RX6, "text", "()I"⟩
abbrev cX6_isSpot : ByteArray := prog_8_method_86_code
def yX6_isSpot : MethodName := ⟨RX6, "isSpot", "(I)Z"⟩
abbrev cX6_hold : ByteArray := prog_8_method_87_code
def yX6_hold : MethodName := ⟨RX6, "hold", "(II)I"⟩
abbrev cX6_as : ByteArray := prog_8_method_88_code
def yX6_as : MethodName := ⟨RX6, "as", "(II)I"⟩
abbrev cX6_isSheet : ByteArray := prog_8_method_89_code
def yX6_isSheet : MethodName := ⟨RX6, "isSheet", "(I)Z"⟩
abbrev cX6_cutTo : ByteArray := prog_8_method_90_code
def yX6_cutTo : MethodName := ⟨RX6, "cutTo", "(II)I"⟩
abbrev cX6_sheet : ByteArray := prog_8_method_91_code
def yX6_sheet : MethodName := ⟨RX6, "sheet", "(III)I"⟩
abbrev cX6_write : ByteArray := prog_8_method_92_code
def yX6_write : MethodName := ⟨RX6, "write", "(III)I"⟩
abbrev cX6_copy : ByteArray := prog_8_method_93_code
def yX6_copy : MethodName := ⟨RX6, "copy", "(IIIII)I"⟩
abbrev cX6_above : ByteArray := prog_8_method_94_code
def yX6_above : MethodName := ⟨RX6, "above", "(I)I"⟩
abbrev cX6_isUnder : ByteArray := prog_8_method_95_code
def yX6_isUnder : MethodName := ⟨RX6, "isUnder", "(II)Z"⟩
abbrev cX6_load : ByteArray := prog_8_method_96_code
def yX6_load : MethodName := ⟨RX6, "load", "(I)I"⟩
abbrev cX6_judge : ByteArray := prog_8_method_97_code
def yX6_judge : MethodName := ⟨RX6, "judge", "(I)I"⟩
abbrev cX6_image : ByteArray := prog_8_method_98_code
def yX6_image : MethodName := ⟨RX6, "image", "()I"⟩
abbrev cX6_undo : ByteArray := prog_8_method_99_code
def yX6_undo : MethodName := ⟨RX6, "undo", "()I"⟩
abbrev cX6_forget : ByteArray := prog_8_method_100_code
def yX6_forget : MethodName := ⟨RX6, "forget", "()I"⟩
abbrev cX6_count : ByteArray := prog_8_method_101_code
def yX6_count : MethodName := ⟨RX6, "count", "(I)I"⟩
abbrev cX6_status : ByteArray := prog_8_method_102_code
def yX6_status : MethodName := ⟨RX6, "status", "(I)I"⟩
def RJ6 : String := "java/lang/Integer"
def TJ6 : u_T := fun k => match k with
  | _ => ("", "", "", false)
def tyJ6 : Nat → FieldType := fun k => match k with
  | _ => .int
theorem nmJ6 : ∀ a, a < 0 → ∀ b, b < 0 → a ≠ b → (TJ6 a).2.1 ≠ (TJ6 b).2.1 := by decide +kernel
theorem tyJ6_ok : ∀ k, k < 0 → parseFieldDescriptor (TJ6 k).2.2.1 = some (tyJ6 k) := by decide +kernel
abbrev cJ6_highestOneBit_0f7a4 : ByteArray := prog_9_method_45_code
def yJ6_highestOneBit_0f7a4 : MethodName := ⟨RJ6, "highestOneBit", "(I)I"⟩
abbrev cJ6_numberOfLeadingZeros_0f7a4 : ByteArray := prog_9_method_47_code
def yJ6_numberOfLeadingZeros_0f7a4 : MethodName := ⟨RJ6, "numberOfLeadingZeros", "(I)I"⟩
abbrev cJ6_bitCount_0f7a4 : ByteArray := prog_9_method_49_code
def yJ6_bitCount_0f7a4 : MethodName := ⟨RJ6, "bitCount", "(I)I"⟩
def RJ13 : String := "java/lang/Long"
def TJ13 : u_T := fun k => match k with
  | _ => ("", "", "", false)
def tyJ13 : Nat → FieldType := fun k => match k with
  | _ => .int
theorem nmJ13 : ∀ a, a < 0 → ∀ b, b < 0 → a ≠ b → (TJ13 a).2.1 ≠ (TJ13 b).2.1 := by decide +kernel
theorem tyJ13_ok : ∀ k, k < 0 → parseFieldDescriptor (TJ13 k).2.2.1 = some (tyJ13 k) := by decide +kernel
abbrev cJ13_bitCount_95d88 : ByteArray := prog_10_method_50_code
def yJ13_bitCount_95d88 : MethodName := ⟨RJ13, "bitCount", "(J)I"⟩
def RJ9 : String := "java/lang/Math"
def TJ9 : u_T := fun k => match k with
  | _ => ("", "", "", false)
def tyJ9 : Nat → FieldType := fun k => match k with
  | _ => .int
theorem nmJ9 : ∀ a, a < 0 → ∀ b, b < 0 → a ≠ b → (TJ9 a).2.1 ≠ (TJ9 b).2.1 := by decide +kernel
theorem tyJ9_ok : ∀ k, k < 0 → parseFieldDescriptor (TJ9 k).2.2.1 = some (tyJ9 k) := by decide +kernel
abbrev cJ9_max_7cf53 : ByteArray := prog_11_method_65_code
def yJ9_max_7cf53 : MethodName := ⟨RJ9, "max", "(II)I"⟩
abbrev cJ9_min_7cf53 : ByteArray := prog_11_method_69_code
def yJ9_min_7cf53 : MethodName := ⟨RJ9, "min", "(II)I"⟩
def RJ0 : String := "java/lang/String"
def TJ0 : u_T := fun k => match k with
  | _ => ("", "", "", false)
def tyJ0 : Nat → FieldType := fun k => match k with
  | _ => .int
theorem nmJ0 : ∀ a, a < 0 → ∀ b, b < 0 → a ≠ b → (TJ0 a).2.1 ≠ (TJ0 b).2.1 := by decide +kernel
theorem tyJ0_ok : ∀ k, k < 0 → parseFieldDescriptor (TJ0 k).2.2.1 = some (tyJ0 k) := by decide +kernel
abbrev cJ0_length_8abf5 : ByteArray := prog_12_method_54_code
def yJ0_length_8abf5 : MethodName := ⟨RJ0, "length", "()I"⟩
abbrev cJ0_charAt_5068e : ByteArray := prog_12_method_56_code
def yJ0_charAt_5068e : MethodName := ⟨RJ0, "charAt", "(I)C"⟩
abbrev cJ0_coder_7d493 : ByteArray := prog_12_method_152_code
def yJ0_coder_7d493 : MethodName := ⟨RJ0, "coder", "()B"⟩
abbrev cJ0_isLatin1_aae02 : ByteArray := prog_12_method_154_code
def yJ0_isLatin1_aae02 : MethodName := ⟨RJ0, "isLatin1", "()Z"⟩
abbrev cJ0_checkIndex_df160 : ByteArray := prog_12_method_155_code
def yJ0_checkIndex_df160 : MethodName := ⟨RJ0, "checkIndex", "(II)V"⟩
def RJ1 : String := "java/lang/StringLatin1"
def TJ1 : u_T := fun k => match k with
  | _ => ("", "", "", false)
def tyJ1 : Nat → FieldType := fun k => match k with
  | _ => .int
theorem nmJ1 : ∀ a, a < 0 → ∀ b, b < 0 → a ≠ b → (TJ1 a).2.1 ≠ (TJ1 b).2.1 := by decide +kernel
theorem tyJ1_ok : ∀ k, k < 0 → parseFieldDescriptor (TJ1 k).2.2.1 = some (tyJ1 k) := by decide +kernel
abbrev cJ1_charAt_3b067 : ByteArray := prog_13_method_2_code
def yJ1_charAt_3b067 : MethodName := ⟨RJ1, "charAt", "([BI)C"⟩
def RJ2 : String := "java/lang/StringUTF16"
def TJ2 : u_T := fun k => match k with
  | _ => ("", "", "", false)
def tyJ2 : Nat → FieldType := fun k => match k with
  | _ => .int
theorem nmJ2 : ∀ a, a < 0 → ∀ b, b < 0 → a ≠ b → (TJ2 a).2.1 ≠ (TJ2 b).2.1 := by decide +kernel
theorem tyJ2_ok : ∀ k, k < 0 → parseFieldDescriptor (TJ2 k).2.2.1 = some (tyJ2 k) := by decide +kernel
abbrev cJ2_getChar_3b067 : ByteArray := prog_14_method_5_code
def yJ2_getChar_3b067 : MethodName := ⟨RJ2, "getChar", "([BI)C"⟩
abbrev cJ2_length_9d52b : ByteArray := prog_14_method_6_code
def yJ2_length_9d52b : MethodName := ⟨RJ2, "length", "([B)I"⟩
abbrev cJ2_charAt_3b067 : ByteArray := prog_14_method_83_code
def yJ2_charAt_3b067 : MethodName := ⟨RJ2, "charAt", "([BI)C"⟩
abbrev cJ2_checkIndex_2214a : ByteArray := prog_14_method_91_code
def yJ2_checkIndex_2214a : MethodName := ⟨RJ2, "checkIndex", "(I[B)V"⟩
def RJ10 : String := "java/lang/System"
def TJ10 : u_T := fun k => match k with
  | _ => ("", "", "", false)
def tyJ10 : Nat → FieldType := fun k => match k with
  | _ => .int
theorem nmJ10 : ∀ a, a < 0 → ∀ b, b < 0 → a ≠ b → (TJ10 a).2.1 ≠ (TJ10 b).2.1 := by decide +kernel
theorem tyJ10_ok : ∀ k, k < 0 → parseFieldDescriptor (TJ10 k).2.2.1 = some (tyJ10 k) := by decide +kernel
def RJ3 : String := "jdk/internal/util/Preconditions"
def TJ3 : u_T := fun k => match k with
  | _ => ("", "", "", false)
def tyJ3 : Nat → FieldType := fun k => match k with
  | _ => .int
theorem nmJ3 : ∀ a, a < 0 → ∀ b, b < 0 → a ≠ b → (TJ3 a).2.1 ≠ (TJ3 b).2.1 := by decide +kernel
theorem tyJ3_ok : ∀ k, k < 0 → parseFieldDescriptor (TJ3 k).2.2.1 = some (tyJ3 k) := by decide +kernel
abbrev cJ3_checkIndex_8e157 : ByteArray := prog_16_method_11_code
def yJ3_checkIndex_8e157 : MethodName := ⟨RJ3, "checkIndex", "(IILjava/util/function/BiFunction;)I"⟩
def RL : String := "MarkTreatiesLaw"
abbrev cL_law : ByteArray := code
def yL_law : MethodName := ⟨RL, "law", "([I)Z"⟩
theorem in_X0 : ∀ w ∈ u_ws RX0 TX0 6, w ∈ lw_g := by decide +kernel
theorem in_X1 : ∀ w ∈ u_ws RX1 TX1 3, w ∈ lw_g := by decide +kernel
theorem in_X2 : ∀ w ∈ u_ws RX2 TX2 3, w ∈ lw_g := by decide +kernel
theorem in_X3 : ∀ w ∈ u_ws RX3 TX3 8, w ∈ lw_g := by decide +kernel
theorem in_X4 : ∀ w ∈ u_ws RX4 TX4 9, w ∈ lw_g := by decide +kernel
theorem in_X5 : ∀ w ∈ u_ws RX5 TX5 12, w ∈ lw_g := by decide +kernel
theorem in_X6 : ∀ w ∈ u_ws RX6 TX6 21, w ∈ lw_g := by decide +kernel
abbrev mt_cl : List vw_C := [(RX0, TX0, 6), (RX1, TX1, 3), (RX2, TX2, 3), (RX3, TX3, 8), (RX4, TX4, 9), (RX5, TX5, 12), (RX6, TX6, 21)]
