section
-- ===== PART A: goes FIRST, ahead of the names: the tables' words, and 'selects' of the private methods out of them =====
/-- a private method of a class that the tables say can be made, by its rows of tables_1 -/
def lw_okq (q : MethodName × Nat) : Prop := (q.1.cls ≠ "java/lang/invoke/MethodHandle" ∧ q.1.cls ≠ "java/lang/invoke/VarHandle") ∧ Cond.instantiable q.1.cls q.2 ∈ tables_1 ∧ Cond.privateMethod q.1 ∈ tables_1 ∧ Cond.instanceMethod q.1 ∈ tables_1
theorem lw_p0 : lw_okq (⟨"MarkTreaties", "finding", "(I)I"⟩, 12) := ⟨⟨by decide +kernel, by decide +kernel⟩, List.mem_of_getElem? (i := 17) (by decide +kernel), List.mem_of_getElem? (i := 234) (by decide +kernel), List.mem_of_getElem? (i := 235) (by decide +kernel)⟩
theorem lw_p1 : lw_okq (⟨"MarkTreaties", "figuresOf", "(I)I"⟩, 12) := ⟨⟨by decide +kernel, by decide +kernel⟩, List.mem_of_getElem? (i := 17) (by decide +kernel), List.mem_of_getElem? (i := 239) (by decide +kernel), List.mem_of_getElem? (i := 240) (by decide +kernel)⟩
theorem lw_p2 : lw_okq (⟨"MarkTreaties$World", "sign", "(III)V"⟩, 9) := ⟨⟨by decide +kernel, by decide +kernel⟩, List.mem_of_getElem? (i := 25) (by decide +kernel), List.mem_of_getElem? (i := 262) (by decide +kernel), List.mem_of_getElem? (i := 263) (by decide +kernel)⟩
theorem lw_p3 : lw_okq (⟨"MarkTreaties$Treaty", "begin", "(IIII)V"⟩, 8) := ⟨⟨by decide +kernel, by decide +kernel⟩, List.mem_of_getElem? (i := 32) (by decide +kernel), List.mem_of_getElem? (i := 266) (by decide +kernel), List.mem_of_getElem? (i := 267) (by decide +kernel)⟩
theorem lw_p4 : lw_okq (⟨"MarkTreaties", "isTreaty", "(I)Z"⟩, 12) := ⟨⟨by decide +kernel, by decide +kernel⟩, List.mem_of_getElem? (i := 17) (by decide +kernel), List.mem_of_getElem? (i := 274) (by decide +kernel), List.mem_of_getElem? (i := 275) (by decide +kernel)⟩
theorem lw_p5 : lw_okq (⟨"MarkTreaties$Treaty", "tell", "(II)I"⟩, 8) := ⟨⟨by decide +kernel, by decide +kernel⟩, List.mem_of_getElem? (i := 32) (by decide +kernel), List.mem_of_getElem? (i := 278) (by decide +kernel), List.mem_of_getElem? (i := 279) (by decide +kernel)⟩
theorem lw_p6 : lw_okq (⟨"MarkTreaties$Treaty", "bears", "(I)I"⟩, 8) := ⟨⟨by decide +kernel, by decide +kernel⟩, List.mem_of_getElem? (i := 32) (by decide +kernel), List.mem_of_getElem? (i := 282) (by decide +kernel), List.mem_of_getElem? (i := 283) (by decide +kernel)⟩
theorem lw_p7 : lw_okq (⟨"MarkTreaties$Treaty", "fades", "()I"⟩, 8) := ⟨⟨by decide +kernel, by decide +kernel⟩, List.mem_of_getElem? (i := 32) (by decide +kernel), List.mem_of_getElem? (i := 286) (by decide +kernel), List.mem_of_getElem? (i := 287) (by decide +kernel)⟩
theorem lw_p8 : lw_okq (⟨"MarkTreaties$Treaty", "yields", "()I"⟩, 8) := ⟨⟨by decide +kernel, by decide +kernel⟩, List.mem_of_getElem? (i := 32) (by decide +kernel), List.mem_of_getElem? (i := 290) (by decide +kernel), List.mem_of_getElem? (i := 291) (by decide +kernel)⟩
theorem lw_p9 : lw_okq (⟨"MarkTreaties$Treaty", "renews", "()I"⟩, 8) := ⟨⟨by decide +kernel, by decide +kernel⟩, List.mem_of_getElem? (i := 32) (by decide +kernel), List.mem_of_getElem? (i := 300) (by decide +kernel), List.mem_of_getElem? (i := 301) (by decide +kernel)⟩
theorem lw_p10 : lw_okq (⟨"MarkTreaties$Treaty", "takes", "(II)Z"⟩, 8) := ⟨⟨by decide +kernel, by decide +kernel⟩, List.mem_of_getElem? (i := 32) (by decide +kernel), List.mem_of_getElem? (i := 308) (by decide +kernel), List.mem_of_getElem? (i := 309) (by decide +kernel)⟩
theorem lw_p11 : lw_okq (⟨"MarkTreaties$Treaty", "alter", "(II)V"⟩, 8) := ⟨⟨by decide +kernel, by decide +kernel⟩, List.mem_of_getElem? (i := 32) (by decide +kernel), List.mem_of_getElem? (i := 314) (by decide +kernel), List.mem_of_getElem? (i := 315) (by decide +kernel)⟩
theorem lw_p12 : lw_okq (⟨"MarkTreaties$World", "pairsAtWar", "()J"⟩, 9) := ⟨⟨by decide +kernel, by decide +kernel⟩, List.mem_of_getElem? (i := 25) (by decide +kernel), List.mem_of_getElem? (i := 322) (by decide +kernel), List.mem_of_getElem? (i := 323) (by decide +kernel)⟩
theorem lw_p13 : lw_okq (⟨"MarkTreaties$World", "passYears", "(I)V"⟩, 9) := ⟨⟨by decide +kernel, by decide +kernel⟩, List.mem_of_getElem? (i := 25) (by decide +kernel), List.mem_of_getElem? (i := 342) (by decide +kernel), List.mem_of_getElem? (i := 343) (by decide +kernel)⟩
theorem lw_p14 : lw_okq (⟨"MarkTreaties$World", "pass", "()V"⟩, 9) := ⟨⟨by decide +kernel, by decide +kernel⟩, List.mem_of_getElem? (i := 25) (by decide +kernel), List.mem_of_getElem? (i := 346) (by decide +kernel), List.mem_of_getElem? (i := 347) (by decide +kernel)⟩
theorem lw_p15 : lw_okq (⟨"MarkTreaties$Treaty", "live", "(II)I"⟩, 8) := ⟨⟨by decide +kernel, by decide +kernel⟩, List.mem_of_getElem? (i := 32) (by decide +kernel), List.mem_of_getElem? (i := 353) (by decide +kernel), List.mem_of_getElem? (i := 354) (by decide +kernel)⟩
def lw_privs_1 : List (MethodName × Nat) := [(⟨"MarkTreaties", "finding", "(I)I"⟩, 12), (⟨"MarkTreaties", "figuresOf", "(I)I"⟩, 12), (⟨"MarkTreaties$World", "sign", "(III)V"⟩, 9), (⟨"MarkTreaties$Treaty", "begin", "(IIII)V"⟩, 8), (⟨"MarkTreaties", "isTreaty", "(I)Z"⟩, 12), (⟨"MarkTreaties$Treaty", "tell", "(II)I"⟩, 8), (⟨"MarkTreaties$Treaty", "bears", "(I)I"⟩, 8), (⟨"MarkTreaties$Treaty", "fades", "()I"⟩, 8), (⟨"MarkTreaties$Treaty", "yields", "()I"⟩, 8), (⟨"MarkTreaties$Treaty", "renews", "()I"⟩, 8), (⟨"MarkTreaties$Treaty", "takes", "(II)Z"⟩, 8), (⟨"MarkTreaties$Treaty", "alter", "(II)V"⟩, 8), (⟨"MarkTreaties$World", "pairsAtWar", "()J"⟩, 9), (⟨"MarkTreaties$World", "passYears", "(I)V"⟩, 9), (⟨"MarkTreaties$World", "pass", "()V"⟩, 9), (⟨"MarkTreaties$Treaty", "live", "(II)I"⟩, 8)]
theorem lw_r1 : ∀ q ∈ lw_privs_1, lw_okq q := List.forall_mem_cons.mpr ⟨lw_p0, List.forall_mem_cons.mpr ⟨lw_p1, List.forall_mem_cons.mpr ⟨lw_p2, List.forall_mem_cons.mpr ⟨lw_p3, List.forall_mem_cons.mpr ⟨lw_p4, List.forall_mem_cons.mpr ⟨lw_p5, List.forall_mem_cons.mpr ⟨lw_p6, List.forall_mem_cons.mpr ⟨lw_p7, List.forall_mem_cons.mpr ⟨lw_p8, List.forall_mem_cons.mpr ⟨lw_p9, List.forall_mem_cons.mpr ⟨lw_p10, List.forall_mem_cons.mpr ⟨lw_p11, List.forall_mem_cons.mpr ⟨lw_p12, List.forall_mem_cons.mpr ⟨lw_p13, List.forall_mem_cons.mpr ⟨lw_p14, List.forall_mem_cons.mpr ⟨lw_p15, fun _ h => absurd h List.not_mem_nil⟩⟩⟩⟩⟩⟩⟩⟩⟩⟩⟩⟩⟩⟩⟩⟩
theorem lw_p16 : lw_okq (⟨"MarkTreaties$Treaty", "await", "(I)V"⟩, 8) := ⟨⟨by decide +kernel, by decide +kernel⟩, List.mem_of_getElem? (i := 32) (by decide +kernel), List.mem_of_getElem? (i := 357) (by decide +kernel), List.mem_of_getElem? (i := 358) (by decide +kernel)⟩
theorem lw_p17 : lw_okq (⟨"MarkTreaties$Treaty", "isOverborne", "(I)Z"⟩, 8) := ⟨⟨by decide +kernel, by decide +kernel⟩, List.mem_of_getElem? (i := 32) (by decide +kernel), List.mem_of_getElem? (i := 362) (by decide +kernel), List.mem_of_getElem? (i := 363) (by decide +kernel)⟩
theorem lw_p18 : lw_okq (⟨"MarkTreaties$Treaty", "fade", "()V"⟩, 8) := ⟨⟨by decide +kernel, by decide +kernel⟩, List.mem_of_getElem? (i := 32) (by decide +kernel), List.mem_of_getElem? (i := 366) (by decide +kernel), List.mem_of_getElem? (i := 367) (by decide +kernel)⟩
theorem lw_p19 : lw_okq (⟨"MarkTreaties$Treaty", "isToFade", "(I)Z"⟩, 8) := ⟨⟨by decide +kernel, by decide +kernel⟩, List.mem_of_getElem? (i := 32) (by decide +kernel), List.mem_of_getElem? (i := 370) (by decide +kernel), List.mem_of_getElem? (i := 371) (by decide +kernel)⟩
theorem lw_p20 : lw_okq (⟨"MarkTreaties$World", "inForce", "()I"⟩, 9) := ⟨⟨by decide +kernel, by decide +kernel⟩, List.mem_of_getElem? (i := 25) (by decide +kernel), List.mem_of_getElem? (i := 384) (by decide +kernel), List.mem_of_getElem? (i := 385) (by decide +kernel)⟩
theorem lw_p21 : lw_okq (⟨"MarkTreaties$World", "allBroken", "()I"⟩, 9) := ⟨⟨by decide +kernel, by decide +kernel⟩, List.mem_of_getElem? (i := 25) (by decide +kernel), List.mem_of_getElem? (i := 392) (by decide +kernel), List.mem_of_getElem? (i := 393) (by decide +kernel)⟩
theorem lw_p22 : lw_okq (⟨"MarkTreaties$World", "breaking", "()I"⟩, 9) := ⟨⟨by decide +kernel, by decide +kernel⟩, List.mem_of_getElem? (i := 25) (by decide +kernel), List.mem_of_getElem? (i := 402) (by decide +kernel), List.mem_of_getElem? (i := 403) (by decide +kernel)⟩
theorem lw_p23 : lw_okq (⟨"MarkTreaties$World", "marksInForce", "()I"⟩, 9) := ⟨⟨by decide +kernel, by decide +kernel⟩, List.mem_of_getElem? (i := 25) (by decide +kernel), List.mem_of_getElem? (i := 407) (by decide +kernel), List.mem_of_getElem? (i := 408) (by decide +kernel)⟩
theorem lw_p24 : lw_okq (⟨"MarkTreaties$World", "longestHeld", "()I"⟩, 9) := ⟨⟨by decide +kernel, by decide +kernel⟩, List.mem_of_getElem? (i := 25) (by decide +kernel), List.mem_of_getElem? (i := 411) (by decide +kernel), List.mem_of_getElem? (i := 412) (by decide +kernel)⟩
theorem lw_p25 : lw_okq (⟨"MarkTreaties", "foreseeUps", "(I)V"⟩, 12) := ⟨⟨by decide +kernel, by decide +kernel⟩, List.mem_of_getElem? (i := 17) (by decide +kernel), List.mem_of_getElem? (i := 419) (by decide +kernel), List.mem_of_getElem? (i := 420) (by decide +kernel)⟩
theorem lw_p26 : lw_okq (⟨"MarkTreaties", "tryAlone", "(I)V"⟩, 12) := ⟨⟨by decide +kernel, by decide +kernel⟩, List.mem_of_getElem? (i := 17) (by decide +kernel), List.mem_of_getElem? (i := 424) (by decide +kernel), List.mem_of_getElem? (i := 425) (by decide +kernel)⟩
theorem lw_p27 : lw_okq (⟨"MarkTreaties$Treaty", "become", "(LMarkTreaties$Treaty;)V"⟩, 8) := ⟨⟨by decide +kernel, by decide +kernel⟩, List.mem_of_getElem? (i := 32) (by decide +kernel), List.mem_of_getElem? (i := 428) (by decide +kernel), List.mem_of_getElem? (i := 429) (by decide +kernel)⟩
theorem lw_p28 : lw_okq (⟨"MarkTreaties$Treaty", "liveYears", "([III)I"⟩, 8) := ⟨⟨by decide +kernel, by decide +kernel⟩, List.mem_of_getElem? (i := 32) (by decide +kernel), List.mem_of_getElem? (i := 432) (by decide +kernel), List.mem_of_getElem? (i := 433) (by decide +kernel)⟩
theorem lw_p29 : lw_okq (⟨"MarkTreaties$World", "become", "(LMarkTreaties$World;)V"⟩, 9) := ⟨⟨by decide +kernel, by decide +kernel⟩, List.mem_of_getElem? (i := 25) (by decide +kernel), List.mem_of_getElem? (i := 441) (by decide +kernel), List.mem_of_getElem? (i := 442) (by decide +kernel)⟩
theorem lw_p30 : lw_okq (⟨"MarkTreaties", "foreseeStrains", "(I)V"⟩, 12) := ⟨⟨by decide +kernel, by decide +kernel⟩, List.mem_of_getElem? (i := 17) (by decide +kernel), List.mem_of_getElem? (i := 483) (by decide +kernel), List.mem_of_getElem? (i := 484) (by decide +kernel)⟩
theorem lw_p31 : lw_okq (⟨"MarkTreaties$Strains", "addOf", "(LMarkTreaties$Treaty;I)V"⟩, 3) := ⟨⟨by decide +kernel, by decide +kernel⟩, List.mem_of_getElem? (i := 126) (by decide +kernel), List.mem_of_getElem? (i := 487) (by decide +kernel), List.mem_of_getElem? (i := 488) (by decide +kernel)⟩
def lw_privs_2 : List (MethodName × Nat) := [(⟨"MarkTreaties$Treaty", "await", "(I)V"⟩, 8), (⟨"MarkTreaties$Treaty", "isOverborne", "(I)Z"⟩, 8), (⟨"MarkTreaties$Treaty", "fade", "()V"⟩, 8), (⟨"MarkTreaties$Treaty", "isToFade", "(I)Z"⟩, 8), (⟨"MarkTreaties$World", "inForce", "()I"⟩, 9), (⟨"MarkTreaties$World", "allBroken", "()I"⟩, 9), (⟨"MarkTreaties$World", "breaking", "()I"⟩, 9), (⟨"MarkTreaties$World", "marksInForce", "()I"⟩, 9), (⟨"MarkTreaties$World", "longestHeld", "()I"⟩, 9), (⟨"MarkTreaties", "foreseeUps", "(I)V"⟩, 12), (⟨"MarkTreaties", "tryAlone", "(I)V"⟩, 12), (⟨"MarkTreaties$Treaty", "become", "(LMarkTreaties$Treaty;)V"⟩, 8), (⟨"MarkTreaties$Treaty", "liveYears", "([III)I"⟩, 8), (⟨"MarkTreaties$World", "become", "(LMarkTreaties$World;)V"⟩, 9), (⟨"MarkTreaties", "foreseeStrains", "(I)V"⟩, 12), (⟨"MarkTreaties$Strains", "addOf", "(LMarkTreaties$Treaty;I)V"⟩, 3)]
theorem lw_r2 : ∀ q ∈ lw_privs_2, lw_okq q := List.forall_mem_cons.mpr ⟨lw_p16, List.forall_mem_cons.mpr ⟨lw_p17, List.forall_mem_cons.mpr ⟨lw_p18, List.forall_mem_cons.mpr ⟨lw_p19, List.forall_mem_cons.mpr ⟨lw_p20, List.forall_mem_cons.mpr ⟨lw_p21, List.forall_mem_cons.mpr ⟨lw_p22, List.forall_mem_cons.mpr ⟨lw_p23, List.forall_mem_cons.mpr ⟨lw_p24, List.forall_mem_cons.mpr ⟨lw_p25, List.forall_mem_cons.mpr ⟨lw_p26, List.forall_mem_cons.mpr ⟨lw_p27, List.forall_mem_cons.mpr ⟨lw_p28, List.forall_mem_cons.mpr ⟨lw_p29, List.forall_mem_cons.mpr ⟨lw_p30, List.forall_mem_cons.mpr ⟨lw_p31, fun _ h => absurd h List.not_mem_nil⟩⟩⟩⟩⟩⟩⟩⟩⟩⟩⟩⟩⟩⟩⟩⟩
theorem lw_p32 : lw_okq (⟨"MarkTreaties$Strains", "add", "(II)V"⟩, 3) := ⟨⟨by decide +kernel, by decide +kernel⟩, List.mem_of_getElem? (i := 126) (by decide +kernel), List.mem_of_getElem? (i := 491) (by decide +kernel), List.mem_of_getElem? (i := 492) (by decide +kernel)⟩
theorem lw_p33 : lw_okq (⟨"MarkTreaties$Strains", "areEasedBy", "(I)Z"⟩, 3) := ⟨⟨by decide +kernel, by decide +kernel⟩, List.mem_of_getElem? (i := 126) (by decide +kernel), List.mem_of_getElem? (i := 498) (by decide +kernel), List.mem_of_getElem? (i := 499) (by decide +kernel)⟩
theorem lw_p34 : lw_okq (⟨"MarkTreaties", "foreseeGains", "(I)V"⟩, 12) := ⟨⟨by decide +kernel, by decide +kernel⟩, List.mem_of_getElem? (i := 17) (by decide +kernel), List.mem_of_getElem? (i := 506) (by decide +kernel), List.mem_of_getElem? (i := 507) (by decide +kernel)⟩
theorem lw_p35 : lw_okq (⟨"MarkTreaties", "goldWithTorn", "(I)I"⟩, 12) := ⟨⟨by decide +kernel, by decide +kernel⟩, List.mem_of_getElem? (i := 17) (by decide +kernel), List.mem_of_getElem? (i := 510) (by decide +kernel), List.mem_of_getElem? (i := 511) (by decide +kernel)⟩
theorem lw_p36 : lw_okq (⟨"MarkTreaties", "faultOfSheetAndTreaty", "(II)I"⟩, 12) := ⟨⟨by decide +kernel, by decide +kernel⟩, List.mem_of_getElem? (i := 17) (by decide +kernel), List.mem_of_getElem? (i := 518) (by decide +kernel), List.mem_of_getElem? (i := 519) (by decide +kernel)⟩
theorem lw_p37 : lw_okq (⟨"MarkTreaties", "faultOfSheet", "(I)I"⟩, 12) := ⟨⟨by decide +kernel, by decide +kernel⟩, List.mem_of_getElem? (i := 17) (by decide +kernel), List.mem_of_getElem? (i := 522) (by decide +kernel), List.mem_of_getElem? (i := 523) (by decide +kernel)⟩
theorem lw_p38 : lw_okq (⟨"MarkTreaties", "isSheet", "(I)Z"⟩, 12) := ⟨⟨by decide +kernel, by decide +kernel⟩, List.mem_of_getElem? (i := 17) (by decide +kernel), List.mem_of_getElem? (i := 526) (by decide +kernel), List.mem_of_getElem? (i := 527) (by decide +kernel)⟩
theorem lw_p39 : lw_okq (⟨"MarkTreaties$Sheet", "isMissing", "()Z"⟩, 3) := ⟨⟨by decide +kernel, by decide +kernel⟩, List.mem_of_getElem? (i := 171) (by decide +kernel), List.mem_of_getElem? (i := 530) (by decide +kernel), List.mem_of_getElem? (i := 531) (by decide +kernel)⟩
theorem lw_p40 : lw_okq (⟨"MarkTreaties$Sheet", "lastTold", "(I)I"⟩, 3) := ⟨⟨by decide +kernel, by decide +kernel⟩, List.mem_of_getElem? (i := 171) (by decide +kernel), List.mem_of_getElem? (i := 534) (by decide +kernel), List.mem_of_getElem? (i := 535) (by decide +kernel)⟩
theorem lw_p41 : lw_okq (⟨"MarkTreaties", "figuresWeighing", "(II)I"⟩, 12) := ⟨⟨by decide +kernel, by decide +kernel⟩, List.mem_of_getElem? (i := 17) (by decide +kernel), List.mem_of_getElem? (i := 539) (by decide +kernel), List.mem_of_getElem? (i := 540) (by decide +kernel)⟩
theorem lw_p42 : lw_okq (⟨"MarkTreaties$Treaty", "fadesWithin", "(I)Z"⟩, 8) := ⟨⟨by decide +kernel, by decide +kernel⟩, List.mem_of_getElem? (i := 32) (by decide +kernel), List.mem_of_getElem? (i := 543) (by decide +kernel), List.mem_of_getElem? (i := 544) (by decide +kernel)⟩
theorem lw_p43 : lw_okq (⟨"MarkTreaties", "fitsMark", "(LMarkTreaties$Sheet;III)Z"⟩, 12) := ⟨⟨by decide +kernel, by decide +kernel⟩, List.mem_of_getElem? (i := 17) (by decide +kernel), List.mem_of_getElem? (i := 547) (by decide +kernel), List.mem_of_getElem? (i := 548) (by decide +kernel)⟩
theorem lw_p44 : lw_okq (⟨"MarkTreaties", "followsSheet", "(LMarkTreaties$Sheet;II)Z"⟩, 12) := ⟨⟨by decide +kernel, by decide +kernel⟩, List.mem_of_getElem? (i := 17) (by decide +kernel), List.mem_of_getElem? (i := 551) (by decide +kernel), List.mem_of_getElem? (i := 552) (by decide +kernel)⟩
theorem lw_p45 : lw_okq (⟨"MarkTreaties$Sheet", "allows", "(II)Z"⟩, 3) := ⟨⟨by decide +kernel, by decide +kernel⟩, List.mem_of_getElem? (i := 171) (by decide +kernel), List.mem_of_getElem? (i := 555) (by decide +kernel), List.mem_of_getElem? (i := 556) (by decide +kernel)⟩
theorem lw_p46 : lw_okq (⟨"MarkTreaties$World", "draw", "()I"⟩, 9) := ⟨⟨by decide +kernel, by decide +kernel⟩, List.mem_of_getElem? (i := 25) (by decide +kernel), List.mem_of_getElem? (i := 568) (by decide +kernel), List.mem_of_getElem? (i := 569) (by decide +kernel)⟩
theorem lw_p47 : lw_okq (⟨"MarkTreaties$Reader", "take", "(B)V"⟩, 6) := ⟨⟨by decide +kernel, by decide +kernel⟩, List.mem_of_getElem? (i := 143) (by decide +kernel), List.mem_of_getElem? (i := 591) (by decide +kernel), List.mem_of_getElem? (i := 592) (by decide +kernel)⟩
def lw_privs_3 : List (MethodName × Nat) := [(⟨"MarkTreaties$Strains", "add", "(II)V"⟩, 3), (⟨"MarkTreaties$Strains", "areEasedBy", "(I)Z"⟩, 3), (⟨"MarkTreaties", "foreseeGains", "(I)V"⟩, 12), (⟨"MarkTreaties", "goldWithTorn", "(I)I"⟩, 12), (⟨"MarkTreaties", "faultOfSheetAndTreaty", "(II)I"⟩, 12), (⟨"MarkTreaties", "faultOfSheet", "(I)I"⟩, 12), (⟨"MarkTreaties", "isSheet", "(I)Z"⟩, 12), (⟨"MarkTreaties$Sheet", "isMissing", "()Z"⟩, 3), (⟨"MarkTreaties$Sheet", "lastTold", "(I)I"⟩, 3), (⟨"MarkTreaties", "figuresWeighing", "(II)I"⟩, 12), (⟨"MarkTreaties$Treaty", "fadesWithin", "(I)Z"⟩, 8), (⟨"MarkTreaties", "fitsMark", "(LMarkTreaties$Sheet;III)Z"⟩, 12), (⟨"MarkTreaties", "followsSheet", "(LMarkTreaties$Sheet;II)Z"⟩, 12), (⟨"MarkTreaties$Sheet", "allows", "(II)Z"⟩, 3), (⟨"MarkTreaties$World", "draw", "()I"⟩, 9), (⟨"MarkTreaties$Reader", "take", "(B)V"⟩, 6)]
theorem lw_r3 : ∀ q ∈ lw_privs_3, lw_okq q := List.forall_mem_cons.mpr ⟨lw_p32, List.forall_mem_cons.mpr ⟨lw_p33, List.forall_mem_cons.mpr ⟨lw_p34, List.forall_mem_cons.mpr ⟨lw_p35, List.forall_mem_cons.mpr ⟨lw_p36, List.forall_mem_cons.mpr ⟨lw_p37, List.forall_mem_cons.mpr ⟨lw_p38, List.forall_mem_cons.mpr ⟨lw_p39, List.forall_mem_cons.mpr ⟨lw_p40, List.forall_mem_cons.mpr ⟨lw_p41, List.forall_mem_cons.mpr ⟨lw_p42, List.forall_mem_cons.mpr ⟨lw_p43, List.forall_mem_cons.mpr ⟨lw_p44, List.forall_mem_cons.mpr ⟨lw_p45, List.forall_mem_cons.mpr ⟨lw_p46, List.forall_mem_cons.mpr ⟨lw_p47, fun _ h => absurd h List.not_mem_nil⟩⟩⟩⟩⟩⟩⟩⟩⟩⟩⟩⟩⟩⟩⟩⟩
theorem lw_p48 : lw_okq (⟨"MarkTreaties$Reader", "readInto", "(LMarkTreaties$World;)I"⟩, 6) := ⟨⟨by decide +kernel, by decide +kernel⟩, List.mem_of_getElem? (i := 143) (by decide +kernel), List.mem_of_getElem? (i := 603) (by decide +kernel), List.mem_of_getElem? (i := 604) (by decide +kernel)⟩
theorem lw_p49 : lw_okq (⟨"MarkTreaties$Reader", "advance", "()V"⟩, 6) := ⟨⟨by decide +kernel, by decide +kernel⟩, List.mem_of_getElem? (i := 143) (by decide +kernel), List.mem_of_getElem? (i := 607) (by decide +kernel), List.mem_of_getElem? (i := 608) (by decide +kernel)⟩
theorem lw_p50 : lw_okq (⟨"MarkTreaties$Reader", "advanceLetters", "()V"⟩, 6) := ⟨⟨by decide +kernel, by decide +kernel⟩, List.mem_of_getElem? (i := 143) (by decide +kernel), List.mem_of_getElem? (i := 614) (by decide +kernel), List.mem_of_getElem? (i := 615) (by decide +kernel)⟩
theorem lw_p51 : lw_okq (⟨"MarkTreaties$Reader", "advanceDigits", "()V"⟩, 6) := ⟨⟨by decide +kernel, by decide +kernel⟩, List.mem_of_getElem? (i := 143) (by decide +kernel), List.mem_of_getElem? (i := 621) (by decide +kernel), List.mem_of_getElem? (i := 622) (by decide +kernel)⟩
theorem lw_p52 : lw_okq (⟨"MarkTreaties$Reader", "readItem", "(LMarkTreaties$World;)Z"⟩, 6) := ⟨⟨by decide +kernel, by decide +kernel⟩, List.mem_of_getElem? (i := 143) (by decide +kernel), List.mem_of_getElem? (i := 625) (by decide +kernel), List.mem_of_getElem? (i := 626) (by decide +kernel)⟩
theorem lw_p53 : lw_okq (⟨"MarkTreaties$Reader", "kindTold", "()I"⟩, 6) := ⟨⟨by decide +kernel, by decide +kernel⟩, List.mem_of_getElem? (i := 143) (by decide +kernel), List.mem_of_getElem? (i := 629) (by decide +kernel), List.mem_of_getElem? (i := 630) (by decide +kernel)⟩
theorem lw_p54 : lw_okq (⟨"MarkTreaties$Reader", "isWord", "(Ljava/lang/String;)Z"⟩, 6) := ⟨⟨by decide +kernel, by decide +kernel⟩, List.mem_of_getElem? (i := 143) (by decide +kernel), List.mem_of_getElem? (i := 634) (by decide +kernel), List.mem_of_getElem? (i := 635) (by decide +kernel)⟩
theorem lw_p55 : lw_okq (⟨"MarkTreaties$Reader", "readPowers", "(LMarkTreaties$World;I)Z"⟩, 6) := ⟨⟨by decide +kernel, by decide +kernel⟩, List.mem_of_getElem? (i := 143) (by decide +kernel), List.mem_of_getElem? (i := 692) (by decide +kernel), List.mem_of_getElem? (i := 693) (by decide +kernel)⟩
theorem lw_p56 : lw_okq (⟨"MarkTreaties$Reader", "passNumber", "(I)Z"⟩, 6) := ⟨⟨by decide +kernel, by decide +kernel⟩, List.mem_of_getElem? (i := 143) (by decide +kernel), List.mem_of_getElem? (i := 696) (by decide +kernel), List.mem_of_getElem? (i := 697) (by decide +kernel)⟩
theorem lw_p57 : lw_okq (⟨"MarkTreaties$Reader", "readTerms", "(LMarkTreaties$World;)Z"⟩, 6) := ⟨⟨by decide +kernel, by decide +kernel⟩, List.mem_of_getElem? (i := 143) (by decide +kernel), List.mem_of_getElem? (i := 701) (by decide +kernel), List.mem_of_getElem? (i := 702) (by decide +kernel)⟩
theorem lw_p58 : lw_okq (⟨"MarkTreaties$Reader", "readEvent", "(LMarkTreaties$World;)Z"⟩, 6) := ⟨⟨by decide +kernel, by decide +kernel⟩, List.mem_of_getElem? (i := 143) (by decide +kernel), List.mem_of_getElem? (i := 712) (by decide +kernel), List.mem_of_getElem? (i := 713) (by decide +kernel)⟩
theorem lw_p59 : lw_okq (⟨"MarkTreaties$Treaty", "isA", "(I)Z"⟩, 8) := ⟨⟨by decide +kernel, by decide +kernel⟩, List.mem_of_getElem? (i := 32) (by decide +kernel), List.mem_of_getElem? (i := 724) (by decide +kernel), List.mem_of_getElem? (i := 725) (by decide +kernel)⟩
theorem lw_p60 : lw_okq (⟨"MarkTreaties$Sheet", "begin", "(II)V"⟩, 3) := ⟨⟨by decide +kernel, by decide +kernel⟩, List.mem_of_getElem? (i := 171) (by decide +kernel), List.mem_of_getElem? (i := 734) (by decide +kernel), List.mem_of_getElem? (i := 735) (by decide +kernel)⟩
theorem lw_p61 : lw_okq (⟨"MarkTreaties$Sheet", "put", "(II)V"⟩, 3) := ⟨⟨by decide +kernel, by decide +kernel⟩, List.mem_of_getElem? (i := 171) (by decide +kernel), List.mem_of_getElem? (i := 742) (by decide +kernel), List.mem_of_getElem? (i := 743) (by decide +kernel)⟩
theorem lw_p62 : lw_okq (⟨"MarkTreaties$Sheet", "hasRange", "(II)Z"⟩, 3) := ⟨⟨by decide +kernel, by decide +kernel⟩, List.mem_of_getElem? (i := 171) (by decide +kernel), List.mem_of_getElem? (i := 750) (by decide +kernel), List.mem_of_getElem? (i := 751) (by decide +kernel)⟩
theorem lw_p63 : lw_okq (⟨"MarkTreaties$World", "spotsHolding", "()I"⟩, 9) := ⟨⟨by decide +kernel, by decide +kernel⟩, List.mem_of_getElem? (i := 25) (by decide +kernel), List.mem_of_getElem? (i := 779) (by decide +kernel), List.mem_of_getElem? (i := 780) (by decide +kernel)⟩
def lw_privs_4 : List (MethodName × Nat) := [(⟨"MarkTreaties$Reader", "readInto", "(LMarkTreaties$World;)I"⟩, 6), (⟨"MarkTreaties$Reader", "advance", "()V"⟩, 6), (⟨"MarkTreaties$Reader", "advanceLetters", "()V"⟩, 6), (⟨"MarkTreaties$Reader", "advanceDigits", "()V"⟩, 6), (⟨"MarkTreaties$Reader", "readItem", "(LMarkTreaties$World;)Z"⟩, 6), (⟨"MarkTreaties$Reader", "kindTold", "()I"⟩, 6), (⟨"MarkTreaties$Reader", "isWord", "(Ljava/lang/String;)Z"⟩, 6), (⟨"MarkTreaties$Reader", "readPowers", "(LMarkTreaties$World;I)Z"⟩, 6), (⟨"MarkTreaties$Reader", "passNumber", "(I)Z"⟩, 6), (⟨"MarkTreaties$Reader", "readTerms", "(LMarkTreaties$World;)Z"⟩, 6), (⟨"MarkTreaties$Reader", "readEvent", "(LMarkTreaties$World;)Z"⟩, 6), (⟨"MarkTreaties$Treaty", "isA", "(I)Z"⟩, 8), (⟨"MarkTreaties$Sheet", "begin", "(II)V"⟩, 3), (⟨"MarkTreaties$Sheet", "put", "(II)V"⟩, 3), (⟨"MarkTreaties$Sheet", "hasRange", "(II)Z"⟩, 3), (⟨"MarkTreaties$World", "spotsHolding", "()I"⟩, 9)]
theorem lw_r4 : ∀ q ∈ lw_privs_4, lw_okq q := List.forall_mem_cons.mpr ⟨lw_p48, List.forall_mem_cons.mpr ⟨lw_p49, List.forall_mem_cons.mpr ⟨lw_p50, List.forall_mem_cons.mpr ⟨lw_p51, List.forall_mem_cons.mpr ⟨lw_p52, List.forall_mem_cons.mpr ⟨lw_p53, List.forall_mem_cons.mpr ⟨lw_p54, List.forall_mem_cons.mpr ⟨lw_p55, List.forall_mem_cons.mpr ⟨lw_p56, List.forall_mem_cons.mpr ⟨lw_p57, List.forall_mem_cons.mpr ⟨lw_p58, List.forall_mem_cons.mpr ⟨lw_p59, List.forall_mem_cons.mpr ⟨lw_p60, List.forall_mem_cons.mpr ⟨lw_p61, List.forall_mem_cons.mpr ⟨lw_p62, List.forall_mem_cons.mpr ⟨lw_p63, fun _ h => absurd h List.not_mem_nil⟩⟩⟩⟩⟩⟩⟩⟩⟩⟩⟩⟩⟩⟩⟩⟩
theorem lw_p64 : lw_okq (⟨"MarkTreatiesModel", "become", "(II)I"⟩, 21) := ⟨⟨by decide +kernel, by decide +kernel⟩, List.mem_of_getElem? (i := 787) (by decide +kernel), List.mem_of_getElem? (i := 876) (by decide +kernel), List.mem_of_getElem? (i := 877) (by decide +kernel)⟩
theorem lw_p65 : lw_okq (⟨"MarkTreatiesModel", "finding", "(I)I"⟩, 21) := ⟨⟨by decide +kernel, by decide +kernel⟩, List.mem_of_getElem? (i := 787) (by decide +kernel), List.mem_of_getElem? (i := 881) (by decide +kernel), List.mem_of_getElem? (i := 882) (by decide +kernel)⟩
theorem lw_p66 : lw_okq (⟨"MarkTreatiesModel", "comes", "(III)I"⟩, 21) := ⟨⟨by decide +kernel, by decide +kernel⟩, List.mem_of_getElem? (i := 787) (by decide +kernel), List.mem_of_getElem? (i := 911) (by decide +kernel), List.mem_of_getElem? (i := 912) (by decide +kernel)⟩
theorem lw_p67 : lw_okq (⟨"MarkTreatiesModel", "isTreaty", "(I)Z"⟩, 21) := ⟨⟨by decide +kernel, by decide +kernel⟩, List.mem_of_getElem? (i := 787) (by decide +kernel), List.mem_of_getElem? (i := 922) (by decide +kernel), List.mem_of_getElem? (i := 923) (by decide +kernel)⟩
theorem lw_p68 : lw_okq (⟨"MarkTreatiesModel", "told", "(II)I"⟩, 21) := ⟨⟨by decide +kernel, by decide +kernel⟩, List.mem_of_getElem? (i := 787) (by decide +kernel), List.mem_of_getElem? (i := 926) (by decide +kernel), List.mem_of_getElem? (i := 927) (by decide +kernel)⟩
theorem lw_p69 : lw_okq (⟨"MarkTreatiesModel", "bears", "(I)I"⟩, 21) := ⟨⟨by decide +kernel, by decide +kernel⟩, List.mem_of_getElem? (i := 787) (by decide +kernel), List.mem_of_getElem? (i := 930) (by decide +kernel), List.mem_of_getElem? (i := 931) (by decide +kernel)⟩
theorem lw_p70 : lw_okq (⟨"MarkTreatiesModel", "treatyIs", "(II)I"⟩, 21) := ⟨⟨by decide +kernel, by decide +kernel⟩, List.mem_of_getElem? (i := 787) (by decide +kernel), List.mem_of_getElem? (i := 934) (by decide +kernel), List.mem_of_getElem? (i := 935) (by decide +kernel)⟩
theorem lw_p71 : lw_okq (⟨"MarkTreatiesModel", "fades", "(I)I"⟩, 21) := ⟨⟨by decide +kernel, by decide +kernel⟩, List.mem_of_getElem? (i := 787) (by decide +kernel), List.mem_of_getElem? (i := 938) (by decide +kernel), List.mem_of_getElem? (i := 939) (by decide +kernel)⟩
theorem lw_p72 : lw_okq (⟨"MarkTreatiesModel", "yields", "(I)I"⟩, 21) := ⟨⟨by decide +kernel, by decide +kernel⟩, List.mem_of_getElem? (i := 787) (by decide +kernel), List.mem_of_getElem? (i := 942) (by decide +kernel), List.mem_of_getElem? (i := 943) (by decide +kernel)⟩
theorem lw_p73 : lw_okq (⟨"MarkTreatiesModel", "renews", "(I)I"⟩, 21) := ⟨⟨by decide +kernel, by decide +kernel⟩, List.mem_of_getElem? (i := 787) (by decide +kernel), List.mem_of_getElem? (i := 949) (by decide +kernel), List.mem_of_getElem? (i := 950) (by decide +kernel)⟩
theorem lw_p74 : lw_okq (⟨"MarkTreatiesModel", "upIn", "(I)I"⟩, 21) := ⟨⟨by decide +kernel, by decide +kernel⟩, List.mem_of_getElem? (i := 787) (by decide +kernel), List.mem_of_getElem? (i := 953) (by decide +kernel), List.mem_of_getElem? (i := 954) (by decide +kernel)⟩
theorem lw_p75 : lw_okq (⟨"MarkTreatiesModel", "isField", "(III)Z"⟩, 21) := ⟨⟨by decide +kernel, by decide +kernel⟩, List.mem_of_getElem? (i := 787) (by decide +kernel), List.mem_of_getElem? (i := 961) (by decide +kernel), List.mem_of_getElem? (i := 962) (by decide +kernel)⟩
theorem lw_p76 : lw_okq (⟨"MarkTreatiesModel", "isWar", "(II)Z"⟩, 21) := ⟨⟨by decide +kernel, by decide +kernel⟩, List.mem_of_getElem? (i := 787) (by decide +kernel), List.mem_of_getElem? (i := 969) (by decide +kernel), List.mem_of_getElem? (i := 970) (by decide +kernel)⟩
theorem lw_p77 : lw_okq (⟨"MarkTreatiesModel", "areBetween", "(III)Z"⟩, 21) := ⟨⟨by decide +kernel, by decide +kernel⟩, List.mem_of_getElem? (i := 787) (by decide +kernel), List.mem_of_getElem? (i := 973) (by decide +kernel), List.mem_of_getElem? (i := 974) (by decide +kernel)⟩
theorem lw_p78 : lw_okq (⟨"MarkTreatiesModel", "yearsGo", "(I)V"⟩, 21) := ⟨⟨by decide +kernel, by decide +kernel⟩, List.mem_of_getElem? (i := 787) (by decide +kernel), List.mem_of_getElem? (i := 983) (by decide +kernel), List.mem_of_getElem? (i := 984) (by decide +kernel)⟩
theorem lw_p79 : lw_okq (⟨"MarkTreatiesModel", "year", "()V"⟩, 21) := ⟨⟨by decide +kernel, by decide +kernel⟩, List.mem_of_getElem? (i := 787) (by decide +kernel), List.mem_of_getElem? (i := 987) (by decide +kernel), List.mem_of_getElem? (i := 988) (by decide +kernel)⟩
def lw_privs_5 : List (MethodName × Nat) := [(⟨"MarkTreatiesModel", "become", "(II)I"⟩, 21), (⟨"MarkTreatiesModel", "finding", "(I)I"⟩, 21), (⟨"MarkTreatiesModel", "comes", "(III)I"⟩, 21), (⟨"MarkTreatiesModel", "isTreaty", "(I)Z"⟩, 21), (⟨"MarkTreatiesModel", "told", "(II)I"⟩, 21), (⟨"MarkTreatiesModel", "bears", "(I)I"⟩, 21), (⟨"MarkTreatiesModel", "treatyIs", "(II)I"⟩, 21), (⟨"MarkTreatiesModel", "fades", "(I)I"⟩, 21), (⟨"MarkTreatiesModel", "yields", "(I)I"⟩, 21), (⟨"MarkTreatiesModel", "renews", "(I)I"⟩, 21), (⟨"MarkTreatiesModel", "upIn", "(I)I"⟩, 21), (⟨"MarkTreatiesModel", "isField", "(III)Z"⟩, 21), (⟨"MarkTreatiesModel", "isWar", "(II)Z"⟩, 21), (⟨"MarkTreatiesModel", "areBetween", "(III)Z"⟩, 21), (⟨"MarkTreatiesModel", "yearsGo", "(I)V"⟩, 21), (⟨"MarkTreatiesModel", "year", "()V"⟩, 21)]
theorem lw_r5 : ∀ q ∈ lw_privs_5, lw_okq q := List.forall_mem_cons.mpr ⟨lw_p64, List.forall_mem_cons.mpr ⟨lw_p65, List.forall_mem_cons.mpr ⟨lw_p66, List.forall_mem_cons.mpr ⟨lw_p67, List.forall_mem_cons.mpr ⟨lw_p68, List.forall_mem_cons.mpr ⟨lw_p69, List.forall_mem_cons.mpr ⟨lw_p70, List.forall_mem_cons.mpr ⟨lw_p71, List.forall_mem_cons.mpr ⟨lw_p72, List.forall_mem_cons.mpr ⟨lw_p73, List.forall_mem_cons.mpr ⟨lw_p74, List.forall_mem_cons.mpr ⟨lw_p75, List.forall_mem_cons.mpr ⟨lw_p76, List.forall_mem_cons.mpr ⟨lw_p77, List.forall_mem_cons.mpr ⟨lw_p78, List.forall_mem_cons.mpr ⟨lw_p79, fun _ h => absurd h List.not_mem_nil⟩⟩⟩⟩⟩⟩⟩⟩⟩⟩⟩⟩⟩⟩⟩⟩
theorem lw_p80 : lw_okq (⟨"MarkTreatiesModel", "holds", "(I)V"⟩, 21) := ⟨⟨by decide +kernel, by decide +kernel⟩, List.mem_of_getElem? (i := 787) (by decide +kernel), List.mem_of_getElem? (i := 991) (by decide +kernel), List.mem_of_getElem? (i := 992) (by decide +kernel)⟩
theorem lw_p81 : lw_okq (⟨"MarkTreatiesModel", "more", "(III)V"⟩, 21) := ⟨⟨by decide +kernel, by decide +kernel⟩, List.mem_of_getElem? (i := 787) (by decide +kernel), List.mem_of_getElem? (i := 995) (by decide +kernel), List.mem_of_getElem? (i := 996) (by decide +kernel)⟩
theorem lw_p82 : lw_okq (⟨"MarkTreatiesModel", "fadesNow", "(I)V"⟩, 21) := ⟨⟨by decide +kernel, by decide +kernel⟩, List.mem_of_getElem? (i := 787) (by decide +kernel), List.mem_of_getElem? (i := 1000) (by decide +kernel), List.mem_of_getElem? (i := 1001) (by decide +kernel)⟩
theorem lw_p83 : lw_okq (⟨"MarkTreatiesModel", "waits", "(I)V"⟩, 21) := ⟨⟨by decide +kernel, by decide +kernel⟩, List.mem_of_getElem? (i := 787) (by decide +kernel), List.mem_of_getElem? (i := 1004) (by decide +kernel), List.mem_of_getElem? (i := 1005) (by decide +kernel)⟩
theorem lw_p84 : lw_okq (⟨"MarkTreatiesModel", "inForce", "()I"⟩, 21) := ⟨⟨by decide +kernel, by decide +kernel⟩, List.mem_of_getElem? (i := 787) (by decide +kernel), List.mem_of_getElem? (i := 1008) (by decide +kernel), List.mem_of_getElem? (i := 1009) (by decide +kernel)⟩
theorem lw_p85 : lw_okq (⟨"MarkTreatiesModel", "sumOf", "(I)I"⟩, 21) := ⟨⟨by decide +kernel, by decide +kernel⟩, List.mem_of_getElem? (i := 787) (by decide +kernel), List.mem_of_getElem? (i := 1016) (by decide +kernel), List.mem_of_getElem? (i := 1017) (by decide +kernel)⟩
theorem lw_p86 : lw_okq (⟨"MarkTreatiesModel", "pairsAtWar", "()I"⟩, 21) := ⟨⟨by decide +kernel, by decide +kernel⟩, List.mem_of_getElem? (i := 787) (by decide +kernel), List.mem_of_getElem? (i := 1020) (by decide +kernel), List.mem_of_getElem? (i := 1021) (by decide +kernel)⟩
theorem lw_p87 : lw_okq (⟨"MarkTreatiesModel", "wouldBreak", "()I"⟩, 21) := ⟨⟨by decide +kernel, by decide +kernel⟩, List.mem_of_getElem? (i := 787) (by decide +kernel), List.mem_of_getElem? (i := 1024) (by decide +kernel), List.mem_of_getElem? (i := 1025) (by decide +kernel)⟩
theorem lw_p88 : lw_okq (⟨"MarkTreatiesModel", "marked", "()I"⟩, 21) := ⟨⟨by decide +kernel, by decide +kernel⟩, List.mem_of_getElem? (i := 787) (by decide +kernel), List.mem_of_getElem? (i := 1028) (by decide +kernel), List.mem_of_getElem? (i := 1029) (by decide +kernel)⟩
theorem lw_p89 : lw_okq (⟨"MarkTreatiesModel", "heldLongest", "()I"⟩, 21) := ⟨⟨by decide +kernel, by decide +kernel⟩, List.mem_of_getElem? (i := 787) (by decide +kernel), List.mem_of_getElem? (i := 1032) (by decide +kernel), List.mem_of_getElem? (i := 1033) (by decide +kernel)⟩
theorem lw_p90 : lw_okq (⟨"MarkTreatiesModel", "putBack", "(I)I"⟩, 21) := ⟨⟨by decide +kernel, by decide +kernel⟩, List.mem_of_getElem? (i := 787) (by decide +kernel), List.mem_of_getElem? (i := 1043) (by decide +kernel), List.mem_of_getElem? (i := 1044) (by decide +kernel)⟩
theorem lw_p91 : lw_okq (⟨"MarkTreatiesModel", "behind", "(II)I"⟩, 21) := ⟨⟨by decide +kernel, by decide +kernel⟩, List.mem_of_getElem? (i := 787) (by decide +kernel), List.mem_of_getElem? (i := 1051) (by decide +kernel), List.mem_of_getElem? (i := 1052) (by decide +kernel)⟩
theorem lw_p92 : lw_okq (⟨"MarkTreatiesModel", "yearsTo", "(II)I"⟩, 21) := ⟨⟨by decide +kernel, by decide +kernel⟩, List.mem_of_getElem? (i := 787) (by decide +kernel), List.mem_of_getElem? (i := 1059) (by decide +kernel), List.mem_of_getElem? (i := 1060) (by decide +kernel)⟩
theorem lw_p93 : lw_okq (⟨"MarkTreatiesModel", "orNone", "(I)I"⟩, 21) := ⟨⟨by decide +kernel, by decide +kernel⟩, List.mem_of_getElem? (i := 787) (by decide +kernel), List.mem_of_getElem? (i := 1063) (by decide +kernel), List.mem_of_getElem? (i := 1064) (by decide +kernel)⟩
theorem lw_p94 : lw_okq (⟨"MarkTreatiesModel", "isLulled", "(II)Z"⟩, 21) := ⟨⟨by decide +kernel, by decide +kernel⟩, List.mem_of_getElem? (i := 787) (by decide +kernel), List.mem_of_getElem? (i := 1099) (by decide +kernel), List.mem_of_getElem? (i := 1100) (by decide +kernel)⟩
theorem lw_p95 : lw_okq (⟨"MarkTreatiesModel", "goldTorn", "(II)I"⟩, 21) := ⟨⟨by decide +kernel, by decide +kernel⟩, List.mem_of_getElem? (i := 787) (by decide +kernel), List.mem_of_getElem? (i := 1107) (by decide +kernel), List.mem_of_getElem? (i := 1108) (by decide +kernel)⟩
def lw_privs_6 : List (MethodName × Nat) := [(⟨"MarkTreatiesModel", "holds", "(I)V"⟩, 21), (⟨"MarkTreatiesModel", "more", "(III)V"⟩, 21), (⟨"MarkTreatiesModel", "fadesNow", "(I)V"⟩, 21), (⟨"MarkTreatiesModel", "waits", "(I)V"⟩, 21), (⟨"MarkTreatiesModel", "inForce", "()I"⟩, 21), (⟨"MarkTreatiesModel", "sumOf", "(I)I"⟩, 21), (⟨"MarkTreatiesModel", "pairsAtWar", "()I"⟩, 21), (⟨"MarkTreatiesModel", "wouldBreak", "()I"⟩, 21), (⟨"MarkTreatiesModel", "marked", "()I"⟩, 21), (⟨"MarkTreatiesModel", "heldLongest", "()I"⟩, 21), (⟨"MarkTreatiesModel", "putBack", "(I)I"⟩, 21), (⟨"MarkTreatiesModel", "behind", "(II)I"⟩, 21), (⟨"MarkTreatiesModel", "yearsTo", "(II)I"⟩, 21), (⟨"MarkTreatiesModel", "orNone", "(I)I"⟩, 21), (⟨"MarkTreatiesModel", "isLulled", "(II)Z"⟩, 21), (⟨"MarkTreatiesModel", "goldTorn", "(II)I"⟩, 21)]
theorem lw_r6 : ∀ q ∈ lw_privs_6, lw_okq q := List.forall_mem_cons.mpr ⟨lw_p80, List.forall_mem_cons.mpr ⟨lw_p81, List.forall_mem_cons.mpr ⟨lw_p82, List.forall_mem_cons.mpr ⟨lw_p83, List.forall_mem_cons.mpr ⟨lw_p84, List.forall_mem_cons.mpr ⟨lw_p85, List.forall_mem_cons.mpr ⟨lw_p86, List.forall_mem_cons.mpr ⟨lw_p87, List.forall_mem_cons.mpr ⟨lw_p88, List.forall_mem_cons.mpr ⟨lw_p89, List.forall_mem_cons.mpr ⟨lw_p90, List.forall_mem_cons.mpr ⟨lw_p91, List.forall_mem_cons.mpr ⟨lw_p92, List.forall_mem_cons.mpr ⟨lw_p93, List.forall_mem_cons.mpr ⟨lw_p94, List.forall_mem_cons.mpr ⟨lw_p95, fun _ h => absurd h List.not_mem_nil⟩⟩⟩⟩⟩⟩⟩⟩⟩⟩⟩⟩⟩⟩⟩⟩
theorem lw_p96 : lw_okq (⟨"MarkTreatiesModel", "lacks", "(IZ)I"⟩, 21) := ⟨⟨by decide +kernel, by decide +kernel⟩, List.mem_of_getElem? (i := 787) (by decide +kernel), List.mem_of_getElem? (i := 1115) (by decide +kernel), List.mem_of_getElem? (i := 1116) (by decide +kernel)⟩
theorem lw_p97 : lw_okq (⟨"MarkTreatiesModel", "isSo", "(III)Z"⟩, 21) := ⟨⟨by decide +kernel, by decide +kernel⟩, List.mem_of_getElem? (i := 787) (by decide +kernel), List.mem_of_getElem? (i := 1123) (by decide +kernel), List.mem_of_getElem? (i := 1124) (by decide +kernel)⟩
theorem lw_p98 : lw_okq (⟨"MarkTreatiesModel", "drawn", "()I"⟩, 21) := ⟨⟨by decide +kernel, by decide +kernel⟩, List.mem_of_getElem? (i := 787) (by decide +kernel), List.mem_of_getElem? (i := 1135) (by decide +kernel), List.mem_of_getElem? (i := 1136) (by decide +kernel)⟩
theorem lw_p99 : lw_okq (⟨"MarkTreatiesModel", "token", "()V"⟩, 21) := ⟨⟨by decide +kernel, by decide +kernel⟩, List.mem_of_getElem? (i := 787) (by decide +kernel), List.mem_of_getElem? (i := 1160) (by decide +kernel), List.mem_of_getElem? (i := 1161) (by decide +kernel)⟩
theorem lw_p100 : lw_okq (⟨"MarkTreatiesModel", "byteAt", "(I)I"⟩, 21) := ⟨⟨by decide +kernel, by decide +kernel⟩, List.mem_of_getElem? (i := 787) (by decide +kernel), List.mem_of_getElem? (i := 1164) (by decide +kernel), List.mem_of_getElem? (i := 1165) (by decide +kernel)⟩
theorem lw_p101 : lw_okq (⟨"MarkTreatiesModel", "readItem", "()V"⟩, 21) := ⟨⟨by decide +kernel, by decide +kernel⟩, List.mem_of_getElem? (i := 787) (by decide +kernel), List.mem_of_getElem? (i := 1168) (by decide +kernel), List.mem_of_getElem? (i := 1169) (by decide +kernel)⟩
theorem lw_p102 : lw_okq (⟨"MarkTreatiesModel", "isWord", "(Ljava/lang/String;)Z"⟩, 21) := ⟨⟨by decide +kernel, by decide +kernel⟩, List.mem_of_getElem? (i := 787) (by decide +kernel), List.mem_of_getElem? (i := 1172) (by decide +kernel), List.mem_of_getElem? (i := 1173) (by decide +kernel)⟩
theorem lw_p103 : lw_okq (⟨"MarkTreatiesModel", "readTreaty", "(I)V"⟩, 21) := ⟨⟨by decide +kernel, by decide +kernel⟩, List.mem_of_getElem? (i := 787) (by decide +kernel), List.mem_of_getElem? (i := 1178) (by decide +kernel), List.mem_of_getElem? (i := 1179) (by decide +kernel)⟩
theorem lw_p104 : lw_okq (⟨"MarkTreatiesModel", "must", "(Z)V"⟩, 21) := ⟨⟨by decide +kernel, by decide +kernel⟩, List.mem_of_getElem? (i := 787) (by decide +kernel), List.mem_of_getElem? (i := 1182) (by decide +kernel), List.mem_of_getElem? (i := 1183) (by decide +kernel)⟩
theorem lw_p105 : lw_okq (⟨"MarkTreatiesModel", "number", "(II)I"⟩, 21) := ⟨⟨by decide +kernel, by decide +kernel⟩, List.mem_of_getElem? (i := 787) (by decide +kernel), List.mem_of_getElem? (i := 1186) (by decide +kernel), List.mem_of_getElem? (i := 1187) (by decide +kernel)⟩
theorem lw_p106 : lw_okq (⟨"MarkTreatiesModel", "otherThan", "(I)I"⟩, 21) := ⟨⟨by decide +kernel, by decide +kernel⟩, List.mem_of_getElem? (i := 787) (by decide +kernel), List.mem_of_getElem? (i := 1190) (by decide +kernel), List.mem_of_getElem? (i := 1191) (by decide +kernel)⟩
theorem lw_p107 : lw_okq (⟨"MarkTreatiesModel", "takesWord", "(Ljava/lang/String;)Z"⟩, 21) := ⟨⟨by decide +kernel, by decide +kernel⟩, List.mem_of_getElem? (i := 787) (by decide +kernel), List.mem_of_getElem? (i := 1195) (by decide +kernel), List.mem_of_getElem? (i := 1196) (by decide +kernel)⟩
theorem lw_p108 : lw_okq (⟨"MarkTreatiesModel", "addItem", "(IIIIII)V"⟩, 21) := ⟨⟨by decide +kernel, by decide +kernel⟩, List.mem_of_getElem? (i := 787) (by decide +kernel), List.mem_of_getElem? (i := 1201) (by decide +kernel), List.mem_of_getElem? (i := 1202) (by decide +kernel)⟩
theorem lw_p109 : lw_okq (⟨"MarkTreatiesModel", "isToldSo", "(I)V"⟩, 21) := ⟨⟨by decide +kernel, by decide +kernel⟩, List.mem_of_getElem? (i := 787) (by decide +kernel), List.mem_of_getElem? (i := 1208) (by decide +kernel), List.mem_of_getElem? (i := 1209) (by decide +kernel)⟩
def lw_privs_7 : List (MethodName × Nat) := [(⟨"MarkTreatiesModel", "lacks", "(IZ)I"⟩, 21), (⟨"MarkTreatiesModel", "isSo", "(III)Z"⟩, 21), (⟨"MarkTreatiesModel", "drawn", "()I"⟩, 21), (⟨"MarkTreatiesModel", "token", "()V"⟩, 21), (⟨"MarkTreatiesModel", "byteAt", "(I)I"⟩, 21), (⟨"MarkTreatiesModel", "readItem", "()V"⟩, 21), (⟨"MarkTreatiesModel", "isWord", "(Ljava/lang/String;)Z"⟩, 21), (⟨"MarkTreatiesModel", "readTreaty", "(I)V"⟩, 21), (⟨"MarkTreatiesModel", "must", "(Z)V"⟩, 21), (⟨"MarkTreatiesModel", "number", "(II)I"⟩, 21), (⟨"MarkTreatiesModel", "otherThan", "(I)I"⟩, 21), (⟨"MarkTreatiesModel", "takesWord", "(Ljava/lang/String;)Z"⟩, 21), (⟨"MarkTreatiesModel", "addItem", "(IIIIII)V"⟩, 21), (⟨"MarkTreatiesModel", "isToldSo", "(I)V"⟩, 21)]
theorem lw_r7 : ∀ q ∈ lw_privs_7, lw_okq q := List.forall_mem_cons.mpr ⟨lw_p96, List.forall_mem_cons.mpr ⟨lw_p97, List.forall_mem_cons.mpr ⟨lw_p98, List.forall_mem_cons.mpr ⟨lw_p99, List.forall_mem_cons.mpr ⟨lw_p100, List.forall_mem_cons.mpr ⟨lw_p101, List.forall_mem_cons.mpr ⟨lw_p102, List.forall_mem_cons.mpr ⟨lw_p103, List.forall_mem_cons.mpr ⟨lw_p104, List.forall_mem_cons.mpr ⟨lw_p105, List.forall_mem_cons.mpr ⟨lw_p106, List.forall_mem_cons.mpr ⟨lw_p107, List.forall_mem_cons.mpr ⟨lw_p108, List.forall_mem_cons.mpr ⟨lw_p109, fun _ h => absurd h List.not_mem_nil⟩⟩⟩⟩⟩⟩⟩⟩⟩⟩⟩⟩⟩⟩
def lw_privs : List (MethodName × Nat) := lw_privs_1 ++ (lw_privs_2 ++ (lw_privs_3 ++ (lw_privs_4 ++ (lw_privs_5 ++ (lw_privs_6 ++ (lw_privs_7))))))
def lw_tbl : List Cond := k2_sels lw_privs ++ tables_1
theorem lw_privs_ok : ∀ q ∈ lw_privs, lw_okq q := by
  show ∀ q ∈ lw_privs_1 ++ (lw_privs_2 ++ (lw_privs_3 ++ (lw_privs_4 ++ (lw_privs_5 ++ (lw_privs_6 ++ (lw_privs_7)))))), lw_okq q
  exact List.forall_mem_append.mpr ⟨lw_r1, List.forall_mem_append.mpr ⟨lw_r2, List.forall_mem_append.mpr ⟨lw_r3, List.forall_mem_append.mpr ⟨lw_r4, List.forall_mem_append.mpr ⟨lw_r5, List.forall_mem_append.mpr ⟨lw_r6, lw_r7⟩⟩⟩⟩⟩⟩
def lw_g : List Cond := lw_tbl.filter goodWord
theorem lw_in {w : Cond} (i : Nat) (h : lw_tbl[i]? = some w) (hg : goodWord w = true) : w ∈ lw_g := List.mem_filter.mpr ⟨List.mem_of_getElem? h, hg⟩
def lw_isN : Cond → Bool
  | .fieldLinkNest .. => true
  | .methodLinkNest .. => true
  | _ => false
def lw_n : List Cond := lw_tbl.filter lw_isN
theorem lw_inn {w : Cond} (i : Nat) (h : lw_tbl[i]? = some w) (hg : lw_isN w = true) : w ∈ lw_n := List.mem_filter.mpr ⟨List.mem_of_getElem? h, hg⟩
theorem lw_gg (w : Cond) (h : w ∈ lw_g) : (w.onTables && w.keeps) = true ∨ ∃ ty, w = .arrayClass ty := good_of_word (List.mem_filter.mp h).2
def RX0 : String := "MarkTreaties$Reader"
def TX0 : u_T := fun k => match k with
  | 0 => ("MarkTreaties$Reader", "tape", "[B", true)
  | 1 => ("MarkTreaties$Reader", "length", "I", false)
  | 2 => ("MarkTreaties$Reader", "token", "I", false)
  | 3 => ("MarkTreaties$Reader", "begin", "I", false)
  | 4 => ("MarkTreaties$Reader", "end", "I", false)
  | _ => ("MarkTreaties$Reader", "value", "I", false)
def tyX0 : Nat → FieldType := fun k => match k with
  | 0 => .array .byte
  | 1 => .int
  | 2 => .int
  | 3 => .int
  | 4 => .int
  | _ => .int
theorem nmX0 : ∀ a, a < 6 → ∀ b, b < 6 → a ≠ b → (TX0 a).2.1 ≠ (TX0 b).2.1 := by decide +kernel
theorem tyX0_ok : ∀ k, k < 6 → parseFieldDescriptor (TX0 k).2.2.1 = some (tyX0 k) := by decide +kernel
abbrev cX0_init : ByteArray := prog_2_method_1_code
def yX0_init : MethodName := ⟨RX0, "<init>", "()V"⟩
abbrev cX0_take : ByteArray := prog_2_method_2_code
def yX0_take : MethodName := ⟨RX0, "take", "(B)V"⟩
abbrev cX0_readInto : ByteArray := prog_2_method_3_code
def yX0_readInto : MethodName := ⟨RX0, "readInto", "(LMarkTreaties$World;)I"⟩
abbrev cX0_readItem : ByteArray := prog_2_method_4_code
def yX0_readItem : MethodName := ⟨RX0, "readItem", "(LMarkTreaties$World;)Z"⟩
abbrev cX0_readEvent : ByteArray := prog_2_method_5_code
def yX0_readEvent : MethodName := ⟨RX0, "readEvent", "(LMarkTreaties$World;)Z"⟩
abbrev cX0_readPowers : ByteArray := prog_2_method_6_code
def yX0_readPowers : MethodName := ⟨RX0, "readPowers", "(LMarkTreaties$World;I)Z"⟩
abbrev cX0_readTerms : ByteArray := prog_2_method_7_code
def yX0_readTerms : MethodName := ⟨RX0, "readTerms", "(LMarkTreaties$World;)Z"⟩
abbrev cX0_kindTold : ByteArray := prog_2_method_8_code
def yX0_kindTold : MethodName := ⟨RX0, "kindTold", "()I"⟩
abbrev cX0_isWord : ByteArray := prog_2_method_9_code
def yX0_isWord : MethodName := ⟨RX0, "isWord", "(Ljava/lang/String;)Z"⟩
abbrev cX0_passNumber : ByteArray := prog_2_method_10_code
def yX0_passNumber : MethodName := ⟨RX0, "passNumber", "(I)Z"⟩
abbrev cX0_advance : ByteArray := prog_2_method_11_code
def yX0_advance : MethodName := ⟨RX0, "advance", "()V"⟩
abbrev cX0_advanceLetters : ByteArray := prog_2_method_12_code
def yX0_advanceLetters : MethodName := ⟨RX0, "advanceLetters", "()V"⟩
abbrev cX0_advanceDigits : ByteArray := prog_2_method_13_code
def yX0_advanceDigits : MethodName := ⟨RX0, "advanceDigits", "()V"⟩
abbrev cX0_isLetter : ByteArray := prog_2_method_14_code
def yX0_isLetter : MethodName := ⟨RX0, "isLetter", "(I)Z"⟩
abbrev cX0_isDigit : ByteArray := prog_2_method_15_code
def yX0_isDigit : MethodName := ⟨RX0, "isDigit", "(I)Z"⟩
def RX1 : String := "MarkTreaties$Sheet"
def TX1 : u_T := fun k => match k with
  | 0 => ("MarkTreaties$Sheet", "bits", "I", false)
  | 1 => ("MarkTreaties$Sheet", "length", "I", false)
  | _ => ("MarkTreaties$Sheet", "numbers", "[I", true)
def tyX1 : Nat → FieldType := fun k => match k with
  | 0 => .int
  | 1 => .int
  | _ => .array .int
theorem nmX1 : ∀ a, a < 3 → ∀ b, b < 3 → a ≠ b → (TX1 a).2.1 ≠ (TX1 b).2.1 := by decide +kernel
theorem tyX1_ok : ∀ k, k < 3 → parseFieldDescriptor (TX1 k).2.2.1 = some (tyX1 k) := by decide +kernel
abbrev cX1_init : ByteArray := prog_3_method_1_code
def yX1_init : MethodName := ⟨RX1, "<init>", "()V"⟩
abbrev cX1_isMissing : ByteArray := prog_3_method_2_code
def yX1_isMissing : MethodName := ⟨RX1, "isMissing", "()Z"⟩
abbrev cX1_begin : ByteArray := prog_3_method_3_code
def yX1_begin : MethodName := ⟨RX1, "begin", "(II)V"⟩
abbrev cX1_put : ByteArray := prog_3_method_4_code
def yX1_put : MethodName := ⟨RX1, "put", "(II)V"⟩
abbrev cX1_allows : ByteArray := prog_3_method_5_code
def yX1_allows : MethodName := ⟨RX1, "allows", "(II)Z"⟩
abbrev cX1_hasRange : ByteArray := prog_3_method_6_code
def yX1_hasRange : MethodName := ⟨RX1, "hasRange", "(II)Z"⟩
abbrev cX1_lastTold : ByteArray := prog_3_method_7_code
def yX1_lastTold : MethodName := ⟨RX1, "lastTold", "(I)I"⟩
def RX2 : String := "MarkTreaties$Strains"
def TX2 : u_T := fun k => match k with
  | 0 => ("MarkTreaties$Strains", "figures", "[I", true)
  | 1 => ("MarkTreaties$Strains", "borne", "[I", true)
  | _ => ("MarkTreaties$Strains", "size", "I", false)
def tyX2 : Nat → FieldType := fun k => match k with
  | 0 => .array .int
  | 1 => .array .int
  | _ => .int
theorem nmX2 : ∀ a, a < 3 → ∀ b, b < 3 → a ≠ b → (TX2 a).2.1 ≠ (TX2 b).2.1 := by decide +kernel
theorem tyX2_ok : ∀ k, k < 3 → parseFieldDescriptor (TX2 k).2.2.1 = some (tyX2 k) := by decide +kernel
abbrev cX2_init : ByteArray := prog_4_method_1_code
def yX2_init : MethodName := ⟨RX2, "<init>", "()V"⟩
abbrev cX2_addOf : ByteArray := prog_4_method_2_code
def yX2_addOf : MethodName := ⟨RX2, "addOf", "(LMarkTreaties$Treaty;I)V"⟩
abbrev cX2_add : ByteArray := prog_4_method_3_code
def yX2_add : MethodName := ⟨RX2, "add", "(II)V"⟩
abbrev cX2_areEasedBy : ByteArray := prog_4_method_4_code
def yX2_areEasedBy : MethodName := ⟨RX2, "areEasedBy", "(I)Z"⟩
def RX3 : String := "MarkTreaties$Treaty"
def TX3 : u_T := fun k => match k with
  | 0 => ("MarkTreaties$Treaty", "kind", "I", false)
  | 1 => ("MarkTreaties$Treaty", "first", "I", false)
  | 2 => ("MarkTreaties$Treaty", "other", "I", false)
  | 3 => ("MarkTreaties$Treaty", "mark", "I", false)
  | 4 => ("MarkTreaties$Treaty", "force", "I", false)
  | 5 => ("MarkTreaties$Treaty", "held", "I", false)
  | 6 => ("MarkTreaties$Treaty", "waits", "I", false)
  | _ => ("MarkTreaties$Treaty", "broken", "I", false)
def tyX3 : Nat → FieldType := fun k => match k with
  | 0 => .int
  | 1 => .int
  | 2 => .int
  | 3 => .int
  | 4 => .int
  | 5 => .int
  | 6 => .int
  | _ => .int
theorem nmX3 : ∀ a, a < 8 → ∀ b, b < 8 → a ≠ b → (TX3 a).2.1 ≠ (TX3 b).2.1 := by decide +kernel
theorem tyX3_ok : ∀ k, k < 8 → parseFieldDescriptor (TX3 k).2.2.1 = some (tyX3 k) := by decide +kernel
abbrev cX3_init : ByteArray := prog_5_method_1_code
def yX3_init : MethodName := ⟨RX3, "<init>", "()V"⟩
abbrev cX3_begin : ByteArray := prog_5_method_2_code
def yX3_begin : MethodName := ⟨RX3, "begin", "(IIII)V"⟩
abbrev cX3_become : ByteArray := prog_5_method_3_code
def yX3_become : MethodName := ⟨RX3, "become", "(LMarkTreaties$Treaty;)V"⟩
abbrev cX3_tell : ByteArray := prog_5_method_4_code
def yX3_tell : MethodName := ⟨RX3, "tell", "(II)I"⟩
abbrev cX3_takes : ByteArray := prog_5_method_5_code
def yX3_takes : MethodName := ⟨RX3, "takes", "(II)Z"⟩
abbrev cX3_alter : ByteArray := prog_5_method_6_code
def yX3_alter : MethodName := ⟨RX3, "alter", "(II)V"⟩
abbrev cX3_isA : ByteArray := prog_5_method_7_code
def yX3_isA : MethodName := ⟨RX3, "isA", "(I)Z"⟩
abbrev cX3_bears : ByteArray := prog_5_method_8_code
def yX3_bears : MethodName := ⟨RX3, "bears", "(I)I"⟩
abbrev cX3_fades : ByteArray := prog_5_method_9_code
def yX3_fades : MethodName := ⟨RX3, "fades", "()I"⟩
abbrev cX3_yields : ByteArray := prog_5_method_10_code
def yX3_yields : MethodName := ⟨RX3, "yields", "()I"⟩
abbrev cX3_renews : ByteArray := prog_5_method_11_code
def yX3_renews : MethodName := ⟨RX3, "renews", "()I"⟩
abbrev cX3_isOverborne : ByteArray := prog_5_method_12_code
def yX3_isOverborne : MethodName := ⟨RX3, "isOverborne", "(I)Z"⟩
abbrev cX3_live : ByteArray := prog_5_method_13_code
def yX3_live : MethodName := ⟨RX3, "live", "(II)I"⟩
abbrev cX3_liveYears : ByteArray := prog_5_method_14_code
def yX3_liveYears : MethodName := ⟨RX3, "liveYears", "([III)I"⟩
abbrev cX3_await : ByteArray := prog_5_method_15_code
def yX3_await : MethodName := ⟨RX3, "await", "(I)V"⟩
abbrev cX3_fade : ByteArray := prog_5_method_16_code
def yX3_fade : MethodName := ⟨RX3, "fade", "()V"⟩
abbrev cX3_isToFade : ByteArray := prog_5_method_17_code
def yX3_isToFade : MethodName := ⟨RX3, "isToFade", "(I)Z"⟩
abbrev cX3_fadesWithin : ByteArray := prog_5_method_18_code
def yX3_fadesWithin : MethodName := ⟨RX3, "fadesWithin", "(I)Z"⟩
def RX4 : String := "MarkTreaties$World"
def TX4 : u_T := fun k => match k with
  | 0 => ("MarkTreaties$World", "yard", "I", false)
  | 1 => ("MarkTreaties$World", "up", "I", false)
  | 2 => ("MarkTreaties$World", "list", "[I", true)
  | 3 => ("MarkTreaties$World", "gold", "I", false)
  | 4 => ("MarkTreaties$World", "year", "I", false)
  | 5 => ("MarkTreaties$World", "z", "I", false)
  | 6 => ("MarkTreaties$World", "treaties", "[LMarkTreaties$Treaty;", true)
  | 7 => ("MarkTreaties$World", "size", "I", false)
  | _ => ("MarkTreaties$World", "spots", "[I", true)
def tyX4 : Nat → FieldType := fun k => match k with
  | 0 => .int
  | 1 => .int
  | 2 => .array .int
  | 3 => .int
  | 4 => .int
  | 5 => .int
  | 6 => .array (.object "MarkTreaties$Treaty")
  | 7 => .int
  | _ => .array .int
theorem nmX4 : ∀ a, a < 9 → ∀ b, b < 9 → a ≠ b → (TX4 a).2.1 ≠ (TX4 b).2.1 := by decide +kernel
theorem tyX4_ok : ∀ k, k < 9 → parseFieldDescriptor (TX4 k).2.2.1 = some (tyX4 k) := by decide +kernel
abbrev cX4_init : ByteArray := prog_6_method_1_code
def yX4_init : MethodName := ⟨RX4, "<init>", "()V"⟩
abbrev cX4_become : ByteArray := prog_6_method_2_code
def yX4_become : MethodName := ⟨RX4, "become", "(LMarkTreaties$World;)V"⟩
abbrev cX4_sign : ByteArray := prog_6_method_3_code
def yX4_sign : MethodName := ⟨RX4, "sign", "(III)V"⟩
abbrev cX4_draw : ByteArray := prog_6_method_4_code
def yX4_draw : MethodName := ⟨RX4, "draw", "()I"⟩
abbrev cX4_passYears : ByteArray := prog_6_method_5_code
def yX4_passYears : MethodName := ⟨RX4, "passYears", "(I)V"⟩
abbrev cX4_pass : ByteArray := prog_6_method_6_code
def yX4_pass : MethodName := ⟨RX4, "pass", "()V"⟩
abbrev cX4_inForce : ByteArray := prog_6_method_7_code
def yX4_inForce : MethodName := ⟨RX4, "inForce", "()I"⟩
abbrev cX4_breaking : ByteArray := prog_6_method_8_code
def yX4_breaking : MethodName := ⟨RX4, "breaking", "()I"⟩
abbrev cX4_marksInForce : ByteArray := prog_6_method_9_code
def yX4_marksInForce : MethodName := ⟨RX4, "marksInForce", "()I"⟩
abbrev cX4_longestHeld : ByteArray := prog_6_method_10_code
def yX4_longestHeld : MethodName := ⟨RX4, "longestHeld", "()I"⟩
abbrev cX4_allBroken : ByteArray := prog_6_method_11_code
def yX4_allBroken : MethodName := ⟨RX4, "allBroken", "()I"⟩
abbrev cX4_spotsHolding : ByteArray := prog_6_method_12_code
def yX4_spotsHolding : MethodName := ⟨RX4, "spotsHolding", "()I"⟩
abbrev cX4_pairsAtWar : ByteArray := prog_6_method_13_code
def yX4_pairsAtWar : MethodName := ⟨RX4, "pairsAtWar", "()J"⟩
def RX5 : String := "MarkTreaties"
def TX5 : u_T := fun k => match k with
  | 0 => ("MarkTreaties", "world", "LMarkTreaties$World;", true)
  | 1 => ("MarkTreaties", "kept", "LMarkTreaties$World;", true)
  | 2 => ("MarkTreaties", "isKept", "Z", false)
  | 3 => ("MarkTreaties", "trial", "LMarkTreaties$World;", true)
  | 4 => ("MarkTreaties", "alone", "LMarkTreaties$Treaty;", true)
  | 5 => ("MarkTreaties", "ups", "[I", true)
  | 6 => ("MarkTreaties", "strains", "LMarkTreaties$Strains;", true)
  | 7 => ("MarkTreaties", "gains", "[I", true)
  | 8 => ("MarkTreaties", "tornGains", "[I", true)
  | 9 => ("MarkTreaties", "reader", "LMarkTreaties$Reader;", true)
  | 10 => ("MarkTreaties", "sheets", "[LMarkTreaties$Sheet;", true)
  | _ => ("MarkTreaties", "findings", "[I", true)
def tyX5 : Nat → FieldType := fun k => match k with
  | 0 => .object "MarkTreaties$World"
  | 1 => .object "MarkTreaties$World"
  | 2 => .boolean
  | 3 => .object "MarkTreaties$World"
  | 4 => .object "MarkTreaties$Treaty"
  | 5 => .array .int
  | 6 => .object "MarkTreaties$Strains"
  | 7 => .array .int
  | 8 => .array .int
  | 9 => .object "MarkTreaties$Reader"
  | 10 => .array (.object "MarkTreaties$Sheet")
  | _ => .array .int
theorem nmX5 : ∀ a, a < 12 → ∀ b, b < 12 → a ≠ b → (TX5 a).2.1 ≠ (TX5 b).2.1 := by decide +kernel
theorem tyX5_ok : ∀ k, k < 12 → parseFieldDescriptor (TX5 k).2.2.1 = some (tyX5 k) := by decide +kernel
abbrev cX5_init : ByteArray := prog_1_method_1_code
def yX5_init : MethodName := ⟨RX5, "<init>", "()V"⟩
abbrev cX5_set : ByteArray := prog_1_method_2_code
def yX5_set : MethodName := ⟨RX5, "set", "(II)I"⟩
abbrev cX5_seen : ByteArray := prog_1_method_3_code
def yX5_seen : MethodName := ⟨RX5, "seen", "(I)I"⟩
abbrev cX5_event : ByteArray := prog_1_method_4_code
def yX5_event : MethodName := ⟨RX5, "event", "(II)I"⟩
abbrev cX5_listed : ByteArray := prog_1_method_5_code
def yX5_listed : MethodName := ⟨RX5, "listed", "(I)I"⟩
abbrev cX5_treaty : ByteArray := prog_1_method_6_code
def yX5_treaty : MethodName := ⟨RX5, "treaty", "(III)I"⟩
abbrev cX5_of : ByteArray := prog_1_method_7_code
def yX5_of : MethodName := ⟨RX5, "of", "(II)I"⟩
abbrev cX5_change : ByteArray := prog_1_method_8_code
def yX5_change : MethodName := ⟨RX5, "change", "(III)I"⟩
abbrev cX5_wars : ByteArray := prog_1_method_9_code
def yX5_wars : MethodName := ⟨RX5, "wars", "(I)I"⟩
abbrev cX5_go : ByteArray := prog_1_method_10_code
def yX5_go : MethodName := ⟨RX5, "go", "(I)I"⟩
abbrev cX5_now : ByteArray := prog_1_method_11_code
def yX5_now : MethodName := ⟨RX5, "now", "(I)I"⟩
abbrev cX5_ahead : ByteArray := prog_1_method_12_code
def yX5_ahead : MethodName := ⟨RX5, "ahead", "(III)I"⟩
abbrev cX5_gold : ByteArray := prog_1_method_13_code
def yX5_gold : MethodName := ⟨RX5, "gold", "(I)I"⟩
abbrev cX5_breaks : ByteArray := prog_1_method_14_code
def yX5_breaks : MethodName := ⟨RX5, "breaks", "(I)I"⟩
abbrev cX5_war : ByteArray := prog_1_method_15_code
def yX5_war : MethodName := ⟨RX5, "war", "(II)I"⟩
abbrev cX5_peace : ByteArray := prog_1_method_16_code
def yX5_peace : MethodName := ⟨RX5, "peace", "()I"⟩
abbrev cX5_when : ByteArray := prog_1_method_17_code
def yX5_when : MethodName := ⟨RX5, "when", "(II)I"⟩
abbrev cX5_yardFor : ByteArray := prog_1_method_18_code
def yX5_yardFor : MethodName := ⟨RX5, "yardFor", "(I)I"⟩
abbrev cX5_kindFor : ByteArray := prog_1_method_19_code
def yX5_kindFor : MethodName := ⟨RX5, "kindFor", "(II)I"⟩
abbrev cX5_strike : ByteArray := prog_1_method_20_code
def yX5_strike : MethodName := ⟨RX5, "strike", "(II)I"⟩
abbrev cX5_lull : ByteArray := prog_1_method_21_code
def yX5_lull : MethodName := ⟨RX5, "lull", "(I)I"⟩
abbrev cX5_tear : ByteArray := prog_1_method_22_code
def yX5_tear : MethodName := ⟨RX5, "tear", "(II)I"⟩
abbrev cX5_fits : ByteArray := prog_1_method_23_code
def yX5_fits : MethodName := ⟨RX5, "fits", "(II)I"⟩
abbrev cX5_kinds : ByteArray := prog_1_method_24_code
def yX5_kinds : MethodName := ⟨RX5, "kinds", "(II)I"⟩
abbrev cX5_wakings : ByteArray := prog_1_method_25_code
def yX5_wakings : MethodName := ⟨RX5, "wakings", "(I)I"⟩
abbrev cX5_odds : ByteArray := prog_1_method_26_code
def yX5_odds : MethodName := ⟨RX5, "odds", "(III)J"⟩
abbrev cX5_seed : ByteArray := prog_1_method_27_code
def yX5_seed : MethodName := ⟨RX5, "seed", "(I)I"⟩
abbrev cX5_feed : ByteArray := prog_1_method_28_code
def yX5_feed : MethodName := ⟨RX5, "feed", "(II)I"⟩
abbrev cX5_wipe : ByteArray := prog_1_method_29_code
def yX5_wipe : MethodName := ⟨RX5, "wipe", "()I"⟩
abbrev cX5_text : ByteArray := prog_1_method_30_code
def yX5_text : MethodName := ⟨RX5, "text", "()I"⟩
abbrev cX5_hold : ByteArray := prog_1_method_31_code
def yX5_hold : MethodName := ⟨RX5, "hold", "(II)I"⟩
abbrev cX5_as : ByteArray := prog_1_method_32_code
def yX5_as : MethodName := ⟨RX5, "as", "(II)I"⟩
abbrev cX5_sheet : ByteArray := prog_1_method_33_code
def yX5_sheet : MethodName := ⟨RX5, "sheet", "(III)I"⟩
abbrev cX5_write : ByteArray := prog_1_method_34_code
def yX5_write : MethodName := ⟨RX5, "write", "(III)I"⟩
abbrev cX5_copy : ByteArray := prog_1_method_35_code
def yX5_copy : MethodName := ⟨RX5, "copy", "(IIIII)I"⟩
abbrev cX5_load : ByteArray := prog_1_method_36_code
def yX5_load : MethodName := ⟨RX5, "load", "(I)I"⟩
abbrev cX5_judge : ByteArray := prog_1_method_37_code
def yX5_judge : MethodName := ⟨RX5, "judge", "(I)I"⟩
abbrev cX5_image : ByteArray := prog_1_method_38_code
def yX5_image : MethodName := ⟨RX5, "image", "()I"⟩
abbrev cX5_undo : ByteArray := prog_1_method_39_code
def yX5_undo : MethodName := ⟨RX5, "undo", "()I"⟩
abbrev cX5_forget : ByteArray := prog_1_method_40_code
def yX5_forget : MethodName := ⟨RX5, "forget", "()I"⟩
abbrev cX5_count : ByteArray := prog_1_method_41_code
def yX5_count : MethodName := ⟨RX5, "count", "(I)I"⟩
abbrev cX5_status : ByteArray := prog_1_method_42_code
def yX5_status : MethodName := ⟨RX5, "status", "(I)I"⟩
abbrev cX5_finding : ByteArray := prog_1_method_43_code
def yX5_finding : MethodName := ⟨RX5, "finding", "(I)I"⟩
abbrev cX5_isWithin : ByteArray := prog_1_method_44_code
def yX5_isWithin : MethodName := ⟨RX5, "isWithin", "(II)Z"⟩
abbrev cX5_isPair : ByteArray := prog_1_method_45_code
def yX5_isPair : MethodName := ⟨RX5, "isPair", "(II)Z"⟩
abbrev cX5_pair : ByteArray := prog_1_method_46_code
def yX5_pair : MethodName := ⟨RX5, "pair", "(II)J"⟩
abbrev cX5_isTreaty : ByteArray := prog_1_method_47_code
def yX5_isTreaty : MethodName := ⟨RX5, "isTreaty", "(I)Z"⟩
abbrev cX5_isSheet : ByteArray := prog_1_method_48_code
def yX5_isSheet : MethodName := ⟨RX5, "isSheet", "(I)Z"⟩
abbrev cX5_figuresOf : ByteArray := prog_1_method_49_code
def yX5_figuresOf : MethodName := ⟨RX5, "figuresOf", "(I)I"⟩
abbrev cX5_faultOfSheet : ByteArray := prog_1_method_50_code
def yX5_faultOfSheet : MethodName := ⟨RX5, "faultOfSheet", "(I)I"⟩
abbrev cX5_faultOfSheetAndTreaty : ByteArray := prog_1_method_51_code
def yX5_faultOfSheetAndTreaty : MethodName := ⟨RX5, "faultOfSheetAndTreaty", "(II)I"⟩
abbrev cX5_tryAlone : ByteArray := prog_1_method_52_code
def yX5_tryAlone : MethodName := ⟨RX5, "tryAlone", "(I)V"⟩
abbrev cX5_foreseeUps : ByteArray := prog_1_method_53_code
def yX5_foreseeUps : MethodName := ⟨RX5, "foreseeUps", "(I)V"⟩
abbrev cX5_figuresWeighing : ByteArray := prog_1_method_54_code
def yX5_figuresWeighing : MethodName := ⟨RX5, "figuresWeighing", "(II)I"⟩
abbrev cX5_fitsMark : ByteArray := prog_1_method_55_code
def yX5_fitsMark : MethodName := ⟨RX5, "fitsMark", "(LMarkTreaties$Sheet;III)Z"⟩
abbrev cX5_followsSheet : ByteArray := prog_1_method_56_code
def yX5_followsSheet : MethodName := ⟨RX5, "followsSheet", "(LMarkTreaties$Sheet;II)Z"⟩
abbrev cX5_foreseeStrains : ByteArray := prog_1_method_57_code
def yX5_foreseeStrains : MethodName := ⟨RX5, "foreseeStrains", "(I)V"⟩
abbrev cX5_foreseeGains : ByteArray := prog_1_method_58_code
def yX5_foreseeGains : MethodName := ⟨RX5, "foreseeGains", "(I)V"⟩
abbrev cX5_goldWithTorn : ByteArray := prog_1_method_59_code
def yX5_goldWithTorn : MethodName := ⟨RX5, "goldWithTorn", "(I)I"⟩
abbrev cX5_toggled : ByteArray := prog_1_method_60_code
def yX5_toggled : MethodName := ⟨RX5, "toggled", "(II)I"⟩
abbrev cX5_sharedDivisor : ByteArray := prog_1_method_61_code
def yX5_sharedDivisor : MethodName := ⟨RX5, "sharedDivisor", "(II)I"⟩
abbrev cX5_power : ByteArray := prog_1_method_62_code
def yX5_power : MethodName := ⟨RX5, "power", "(II)J"⟩
def RX6 : String := "MarkTreatiesModel"
def TX6 : u_T := fun k => match k with
  | 0 => ("MarkTreatiesModel", "now", "[I", true)
  | 1 => ("MarkTreatiesModel", "kept", "[I", true)
  | 2 => ("MarkTreatiesModel", "aside", "[I", true)
  | 3 => ("MarkTreatiesModel", "isKept", "Z", false)
  | 4 => ("MarkTreatiesModel", "found", "[I", true)
  | 5 => ("MarkTreatiesModel", "broke", "I", false)
  | 6 => ("MarkTreatiesModel", "tape", "[I", true)
  | 7 => ("MarkTreatiesModel", "taped", "I", false)
  | 8 => ("MarkTreatiesModel", "begins", "I", false)
  | 9 => ("MarkTreatiesModel", "ends", "I", false)
  | 10 => ("MarkTreatiesModel", "sort", "I", false)
  | 11 => ("MarkTreatiesModel", "value", "I", false)
  | 12 => ("MarkTreatiesModel", "isWrong", "Z", false)
  | 13 => ("MarkTreatiesModel", "kindNames", "[Ljava/lang/String;", true)
  | 14 => ("MarkTreatiesModel", "items", "[I", true)
  | 15 => ("MarkTreatiesModel", "itemMany", "I", false)
  | 16 => ("MarkTreatiesModel", "treatiesThen", "I", false)
  | 17 => ("MarkTreatiesModel", "widths", "[I", true)
  | 18 => ("MarkTreatiesModel", "sizes", "[I", true)
  | 19 => ("MarkTreatiesModel", "numbers", "[I", true)
  | _ => ("MarkTreatiesModel", "moved", "[I", true)
def tyX6 : Nat → FieldType := fun k => match k with
  | 0 => .array .int
  | 1 => .array .int
  | 2 => .array .int
  | 3 => .boolean
  | 4 => .array .int
  | 5 => .int
  | 6 => .array .int
  | 7 => .int
  | 8 => .int
  | 9 => .int
  | 10 => .int
  | 11 => .int
  | 12 => .boolean
  | 13 => .array (.object "java/lang/String")
  | 14 => .array .int
  | 15 => .int
  | 16 => .int
  | 17 => .array .int
  | 18 => .array .int
  | 19 => .array .int
  | _ => .array .int
theorem nmX6 : ∀ a, a < 21 → ∀ b, b < 21 → a ≠ b → (TX6 a).2.1 ≠ (TX6 b).2.1 := by decide +kernel
theorem tyX6_ok : ∀ k, k < 21 → parseFieldDescriptor (TX6 k).2.2.1 = some (tyX6 k) := by decide +kernel
abbrev cX6_init : ByteArray := prog_8_method_1_code
def yX6_init : MethodName := ⟨RX6, "<init>", "()V"⟩
abbrev cX6_finding : ByteArray := prog_8_method_2_code
def yX6_finding : MethodName := ⟨RX6, "finding", "(I)I"⟩
abbrev cX6_within : ByteArray := prog_8_method_3_code
def yX6_within : MethodName := ⟨RX6, "within", "(III)Z"⟩
abbrev cX6_become : ByteArray := prog_8_method_4_code
def yX6_become : MethodName := ⟨RX6, "become", "(II)I"⟩
abbrev cX6_copyRow : ByteArray := prog_8_method_5_code
def yX6_copyRow : MethodName := ⟨RX6, "copyRow", "([I[I)V"⟩
abbrev cX6_putBack : ByteArray := prog_8_method_6_code
def yX6_putBack : MethodName := ⟨RX6, "putBack", "(I)I"⟩
abbrev cX6_orNone : ByteArray := prog_8_method_7_code
def yX6_orNone : MethodName := ⟨RX6, "orNone", "(I)I"⟩
abbrev cX6_bits : ByteArray := prog_8_method_8_code
def yX6_bits : MethodName := ⟨RX6, "bits", "(I)I"⟩
abbrev cX6_isFigures : ByteArray := prog_8_method_9_code
def yX6_isFigures : MethodName := ⟨RX6, "isFigures", "(I)Z"⟩
abbrev cX6_isPower : ByteArray := prog_8_method_10_code
def yX6_isPower : MethodName := ⟨RX6, "isPower", "(I)Z"⟩
abbrev cX6_set : ByteArray := prog_8_method_11_code
def yX6_set : MethodName := ⟨RX6, "set", "(II)I"⟩
abbrev cX6_seen : ByteArray := prog_8_method_12_code
def yX6_seen : MethodName := ⟨RX6, "seen", "(I)I"⟩
abbrev cX6_isPlace : ByteArray := prog_8_method_13_code
def yX6_isPlace : MethodName := ⟨RX6, "isPlace", "(I)Z"⟩
abbrev cX6_event : ByteArray := prog_8_method_14_code
def yX6_event : MethodName := ⟨RX6, "event", "(II)I"⟩
abbrev cX6_listed : ByteArray := prog_8_method_15_code
def yX6_listed : MethodName := ⟨RX6, "listed", "(I)I"⟩
abbrev cX6_treatyAt : ByteArray := prog_8_method_16_code
def yX6_treatyAt : MethodName := ⟨RX6, "treatyAt", "(II)I"⟩
abbrev cX6_treatyIs : ByteArray := prog_8_method_17_code
def yX6_treatyIs : MethodName := ⟨RX6, "treatyIs", "(II)I"⟩
abbrev cX6_isTreaty : ByteArray := prog_8_method_18_code
def yX6_isTreaty : MethodName := ⟨RX6, "isTreaty", "(I)Z"⟩
abbrev cX6_isKind : ByteArray := prog_8_method_19_code
def yX6_isKind : MethodName := ⟨RX6, "isKind", "(I)Z"⟩
abbrev cX6_comes : ByteArray := prog_8_method_20_code
def yX6_comes : MethodName := ⟨RX6, "comes", "(III)I"⟩
abbrev cX6_treaty : ByteArray := prog_8_method_21_code
def yX6_treaty : MethodName := ⟨RX6, "treaty", "(III)I"⟩
abbrev cX6_bears : ByteArray := prog_8_method_22_code
def yX6_bears : MethodName := ⟨RX6, "bears", "(I)I"⟩
abbrev cX6_fades : ByteArray := prog_8_method_23_code
def yX6_fades : MethodName := ⟨RX6, "fades", "(I)I"⟩
abbrev cX6_yields : ByteArray := prog_8_method_24_code
def yX6_yields : MethodName := ⟨RX6, "yields", "(I)I"⟩
abbrev cX6_renews : ByteArray := prog_8_method_25_code
def yX6_renews : MethodName := ⟨RX6, "renews", "(I)I"⟩
abbrev cX6_upIn : ByteArray := prog_8_method_26_code
def yX6_upIn : MethodName := ⟨RX6, "upIn", "(I)I"⟩
abbrev cX6_told : ByteArray := prog_8_method_27_code
def yX6_told : MethodName := ⟨RX6, "told", "(II)I"⟩
abbrev cX6_of : ByteArray := prog_8_method_28_code
def yX6_of : MethodName := ⟨RX6, "of", "(II)I"⟩
abbrev cX6_isField : ByteArray := prog_8_method_29_code
def yX6_isField : MethodName := ⟨RX6, "isField", "(III)Z"⟩
abbrev cX6_change : ByteArray := prog_8_method_30_code
def yX6_change : MethodName := ⟨RX6, "change", "(III)I"⟩
abbrev cX6_areBetween : ByteArray := prog_8_method_31_code
def yX6_areBetween : MethodName := ⟨RX6, "areBetween", "(III)Z"⟩
abbrev cX6_isWar : ByteArray := prog_8_method_32_code
def yX6_isWar : MethodName := ⟨RX6, "isWar", "(II)Z"⟩
abbrev cX6_wars : ByteArray := prog_8_method_33_code
def yX6_wars : MethodName := ⟨RX6, "wars", "(I)I"⟩
abbrev cX6_pairsAtWar : ByteArray := prog_8_method_34_code
def yX6_pairsAtWar : MethodName := ⟨RX6, "pairsAtWar", "()I"⟩
abbrev cX6_more : ByteArray := prog_8_method_35_code
def yX6_more : MethodName := ⟨RX6, "more", "(III)V"⟩
abbrev cX6_fadesNow : ByteArray := prog_8_method_36_code
def yX6_fadesNow : MethodName := ⟨RX6, "fadesNow", "(I)V"⟩
abbrev cX6_holds : ByteArray := prog_8_method_37_code
def yX6_holds : MethodName := ⟨RX6, "holds", "(I)V"⟩
abbrev cX6_waits : ByteArray := prog_8_method_38_code
def yX6_waits : MethodName := ⟨RX6, "waits", "(I)V"⟩
abbrev cX6_year : ByteArray := prog_8_method_39_code
def yX6_year : MethodName := ⟨RX6, "year", "()V"⟩
abbrev cX6_yearsGo : ByteArray := prog_8_method_40_code
def yX6_yearsGo : MethodName := ⟨RX6, "yearsGo", "(I)V"⟩
abbrev cX6_sumOf : ByteArray := prog_8_method_41_code
def yX6_sumOf : MethodName := ⟨RX6, "sumOf", "(I)I"⟩
abbrev cX6_inForce : ByteArray := prog_8_method_42_code
def yX6_inForce : MethodName := ⟨RX6, "inForce", "()I"⟩
abbrev cX6_go : ByteArray := prog_8_method_43_code
def yX6_go : MethodName := ⟨RX6, "go", "(I)I"⟩
abbrev cX6_wouldBreak : ByteArray := prog_8_method_44_code
def yX6_wouldBreak : MethodName := ⟨RX6, "wouldBreak", "()I"⟩
abbrev cX6_marked : ByteArray := prog_8_method_45_code
def yX6_marked : MethodName := ⟨RX6, "marked", "()I"⟩
abbrev cX6_heldLongest : ByteArray := prog_8_method_46_code
def yX6_heldLongest : MethodName := ⟨RX6, "heldLongest", "()I"⟩
abbrev cX6_now : ByteArray := prog_8_method_47_code
def yX6_now : MethodName := ⟨RX6, "now", "(I)I"⟩
abbrev cX6_behind : ByteArray := prog_8_method_48_code
def yX6_behind : MethodName := ⟨RX6, "behind", "(II)I"⟩
abbrev cX6_ahead : ByteArray := prog_8_method_49_code
def yX6_ahead : MethodName := ⟨RX6, "ahead", "(III)I"⟩
abbrev cX6_gold : ByteArray := prog_8_method_50_code
def yX6_gold : MethodName := ⟨RX6, "gold", "(I)I"⟩
abbrev cX6_yearsTo : ByteArray := prog_8_method_51_code
def yX6_yearsTo : MethodName := ⟨RX6, "yearsTo", "(II)I"⟩
abbrev cX6_breaks : ByteArray := prog_8_method_52_code
def yX6_breaks : MethodName := ⟨RX6, "breaks", "(I)I"⟩
abbrev cX6_war : ByteArray := prog_8_method_53_code
def yX6_war : MethodName := ⟨RX6, "war", "(II)I"⟩
abbrev cX6_peace : ByteArray := prog_8_method_54_code
def yX6_peace : MethodName := ⟨RX6, "peace", "()I"⟩
abbrev cX6_when : ByteArray := prog_8_method_55_code
def yX6_when : MethodName := ⟨RX6, "when", "(II)I"⟩
abbrev cX6_isThought : ByteArray := prog_8_method_56_code
def yX6_isThought : MethodName := ⟨RX6, "isThought", "(I)Z"⟩
abbrev cX6_yardFor : ByteArray := prog_8_method_57_code
def yX6_yardFor : MethodName := ⟨RX6, "yardFor", "(I)I"⟩
abbrev cX6_kindFor : ByteArray := prog_8_method_58_code
def yX6_kindFor : MethodName := ⟨RX6, "kindFor", "(II)I"⟩
abbrev cX6_strike : ByteArray := prog_8_method_59_code
def yX6_strike : MethodName := ⟨RX6, "strike", "(II)I"⟩
abbrev cX6_isLulled : ByteArray := prog_8_method_60_code
def yX6_isLulled : MethodName := ⟨RX6, "isLulled", "(II)Z"⟩
abbrev cX6_lull : ByteArray := prog_8_method_61_code
def yX6_lull : MethodName := ⟨RX6, "lull", "(I)I"⟩
abbrev cX6_goldTorn : ByteArray := prog_8_method_62_code
def yX6_goldTorn : MethodName := ⟨RX6, "goldTorn", "(II)I"⟩
abbrev cX6_tear : ByteArray := prog_8_method_63_code
def yX6_tear : MethodName := ⟨RX6, "tear", "(II)I"⟩
abbrev cX6_lacks : ByteArray := prog_8_method_64_code
def yX6_lacks : MethodName := ⟨RX6, "lacks", "(IZ)I"⟩
abbrev cX6_isSo : ByteArray := prog_8_method_65_code
def yX6_isSo : MethodName := ⟨RX6, "isSo", "(III)Z"⟩
abbrev cX6_fits : ByteArray := prog_8_method_66_code
def yX6_fits : MethodName := ⟨RX6, "fits", "(II)I"⟩
abbrev cX6_kinds : ByteArray := prog_8_method_67_code
def yX6_kinds : MethodName := ⟨RX6, "kinds", "(II)I"⟩
abbrev cX6_drawn : ByteArray := prog_8_method_68_code
def yX6_drawn : MethodName := ⟨RX6, "drawn", "()I"⟩
abbrev cX6_wakings : ByteArray := prog_8_method_69_code
def yX6_wakings : MethodName := ⟨RX6, "wakings", "(I)I"⟩
abbrev cX6_odds : ByteArray := prog_8_method_70_code
def yX6_odds : MethodName := ⟨RX6, "odds", "(III)J"⟩
abbrev cX6_seed : ByteArray := prog_8_method_71_code
def yX6_seed : MethodName := ⟨RX6, "seed", "(I)I"⟩
abbrev cX6_feed : ByteArray := prog_8_method_72_code
def yX6_feed : MethodName := ⟨RX6, "feed", "(II)I"⟩
abbrev cX6_wipe : ByteArray := prog_8_method_73_code
def yX6_wipe : MethodName := ⟨RX6, "wipe", "()I"⟩
abbrev cX6_byteAt : ByteArray := prog_8_method_74_code
def yX6_byteAt : MethodName := ⟨RX6, "byteAt", "(I)I"⟩
abbrev cX6_token : ByteArray := prog_8_method_75_code
def yX6_token : MethodName := ⟨RX6, "token", "()V"⟩
abbrev cX6_isWord : ByteArray := prog_8_method_76_code
def yX6_isWord : MethodName := ⟨RX6, "isWord", "(Ljava/lang/String;)Z"⟩
abbrev cX6_must : ByteArray := prog_8_method_77_code
def yX6_must : MethodName := ⟨RX6, "must", "(Z)V"⟩
abbrev cX6_number : ByteArray := prog_8_method_78_code
def yX6_number : MethodName := ⟨RX6, "number", "(II)I"⟩
abbrev cX6_addItem : ByteArray := prog_8_method_79_code
def yX6_addItem : MethodName := ⟨RX6, "addItem", "(IIIIII)V"⟩
abbrev cX6_takesWord : ByteArray := prog_8_method_80_code
def yX6_takesWord : MethodName := ⟨RX6, "takesWord", "(Ljava/lang/String;)Z"⟩
abbrev cX6_otherThan : ByteArray := prog_8_method_81_code
def yX6_otherThan : MethodName := ⟨RX6, "otherThan", "(I)I"⟩
abbrev cX6_readTreaty : ByteArray := prog_8_method_82_code
def yX6_readTreaty : MethodName := ⟨RX6, "readTreaty", "(I)V"⟩
abbrev cX6_readItem : ByteArray := prog_8_method_83_code
def yX6_readItem : MethodName := ⟨RX6, "readItem", "()V"⟩
abbrev cX6_isToldSo : ByteArray := prog_8_method_84_code
def yX6_isToldSo : MethodName := ⟨RX6, "isToldSo", "(I)V"⟩
abbrev cX6_text : ByteArray := prog_8_method_85_code
def yX6_text : MethodName := ⟨RX6, "text", "()I"⟩
abbrev cX6_isSpot : ByteArray := prog_8_method_86_code
def yX6_isSpot : MethodName := ⟨RX6, "isSpot", "(I)Z"⟩
abbrev cX6_hold : ByteArray := prog_8_method_87_code
def yX6_hold : MethodName := ⟨RX6, "hold", "(II)I"⟩
abbrev cX6_as : ByteArray := prog_8_method_88_code
def yX6_as : MethodName := ⟨RX6, "as", "(II)I"⟩
abbrev cX6_isSheet : ByteArray := prog_8_method_89_code
def yX6_isSheet : MethodName := ⟨RX6, "isSheet", "(I)Z"⟩
abbrev cX6_cutTo : ByteArray := prog_8_method_90_code
def yX6_cutTo : MethodName := ⟨RX6, "cutTo", "(II)I"⟩
abbrev cX6_sheet : ByteArray := prog_8_method_91_code
def yX6_sheet : MethodName := ⟨RX6, "sheet", "(III)I"⟩
abbrev cX6_write : ByteArray := prog_8_method_92_code
def yX6_write : MethodName := ⟨RX6, "write", "(III)I"⟩
abbrev cX6_copy : ByteArray := prog_8_method_93_code
def yX6_copy : MethodName := ⟨RX6, "copy", "(IIIII)I"⟩
abbrev cX6_above : ByteArray := prog_8_method_94_code
def yX6_above : MethodName := ⟨RX6, "above", "(I)I"⟩
abbrev cX6_isUnder : ByteArray := prog_8_method_95_code
def yX6_isUnder : MethodName := ⟨RX6, "isUnder", "(II)Z"⟩
abbrev cX6_load : ByteArray := prog_8_method_96_code
def yX6_load : MethodName := ⟨RX6, "load", "(I)I"⟩
abbrev cX6_judge : ByteArray := prog_8_method_97_code
def yX6_judge : MethodName := ⟨RX6, "judge", "(I)I"⟩
abbrev cX6_image : ByteArray := prog_8_method_98_code
def yX6_image : MethodName := ⟨RX6, "image", "()I"⟩
abbrev cX6_undo : ByteArray := prog_8_method_99_code
def yX6_undo : MethodName := ⟨RX6, "undo", "()I"⟩
abbrev cX6_forget : ByteArray := prog_8_method_100_code
def yX6_forget : MethodName := ⟨RX6, "forget", "()I"⟩
abbrev cX6_count : ByteArray := prog_8_method_101_code
def yX6_count : MethodName := ⟨RX6, "count", "(I)I"⟩
abbrev cX6_status : ByteArray := prog_8_method_102_code
def yX6_status : MethodName := ⟨RX6, "status", "(I)I"⟩
def RJ6 : String := "java/lang/Integer"
def TJ6 : u_T := fun k => match k with
  | _ => ("", "", "", false)
def tyJ6 : Nat → FieldType := fun k => match k with
  | _ => .int
theorem nmJ6 : ∀ a, a < 0 → ∀ b, b < 0 → a ≠ b → (TJ6 a).2.1 ≠ (TJ6 b).2.1 := by decide +kernel
theorem tyJ6_ok : ∀ k, k < 0 → parseFieldDescriptor (TJ6 k).2.2.1 = some (tyJ6 k) := by decide +kernel
abbrev cJ6_highestOneBit_0f7a4 : ByteArray := prog_9_method_45_code
def yJ6_highestOneBit_0f7a4 : MethodName := ⟨RJ6, "highestOneBit", "(I)I"⟩
abbrev cJ6_numberOfLeadingZeros_0f7a4 : ByteArray := prog_9_method_47_code
def yJ6_numberOfLeadingZeros_0f7a4 : MethodName := ⟨RJ6, "numberOfLeadingZeros", "(I)I"⟩
abbrev cJ6_bitCount_0f7a4 : ByteArray := prog_9_method_49_code
def yJ6_bitCount_0f7a4 : MethodName := ⟨RJ6, "bitCount", "(I)I"⟩
def RJ13 : String := "java/lang/Long"
def TJ13 : u_T := fun k => match k with
  | _ => ("", "", "", false)
def tyJ13 : Nat → FieldType := fun k => match k with
  | _ => .int
theorem nmJ13 : ∀ a, a < 0 → ∀ b, b < 0 → a ≠ b → (TJ13 a).2.1 ≠ (TJ13 b).2.1 := by decide +kernel
theorem tyJ13_ok : ∀ k, k < 0 → parseFieldDescriptor (TJ13 k).2.2.1 = some (tyJ13 k) := by decide +kernel
abbrev cJ13_bitCount_95d88 : ByteArray := prog_10_method_50_code
def yJ13_bitCount_95d88 : MethodName := ⟨RJ13, "bitCount", "(J)I"⟩
def RJ9 : String := "java/lang/Math"
def TJ9 : u_T := fun k => match k with
  | _ => ("", "", "", false)
def tyJ9 : Nat → FieldType := fun k => match k with
  | _ => .int
theorem nmJ9 : ∀ a, a < 0 → ∀ b, b < 0 → a ≠ b → (TJ9 a).2.1 ≠ (TJ9 b).2.1 := by decide +kernel
theorem tyJ9_ok : ∀ k, k < 0 → parseFieldDescriptor (TJ9 k).2.2.1 = some (tyJ9 k) := by decide +kernel
abbrev cJ9_max_7cf53 : ByteArray := prog_11_method_65_code
def yJ9_max_7cf53 : MethodName := ⟨RJ9, "max", "(II)I"⟩
abbrev cJ9_min_7cf53 : ByteArray := prog_11_method_69_code
def yJ9_min_7cf53 : MethodName := ⟨RJ9, "min", "(II)I"⟩
def RJ0 : String := "java/lang/String"
def TJ0 : u_T := fun k => match k with
  | _ => ("", "", "", false)
def tyJ0 : Nat → FieldType := fun k => match k with
  | _ => .int
theorem nmJ0 : ∀ a, a < 0 → ∀ b, b < 0 → a ≠ b → (TJ0 a).2.1 ≠ (TJ0 b).2.1 := by decide +kernel
theorem tyJ0_ok : ∀ k, k < 0 → parseFieldDescriptor (TJ0 k).2.2.1 = some (tyJ0 k) := by decide +kernel
abbrev cJ0_length_8abf5 : ByteArray := prog_12_method_54_code
def yJ0_length_8abf5 : MethodName := ⟨RJ0, "length", "()I"⟩
abbrev cJ0_charAt_5068e : ByteArray := prog_12_method_56_code
def yJ0_charAt_5068e : MethodName := ⟨RJ0, "charAt", "(I)C"⟩
abbrev cJ0_coder_7d493 : ByteArray := prog_12_method_152_code
def yJ0_coder_7d493 : MethodName := ⟨RJ0, "coder", "()B"⟩
abbrev cJ0_isLatin1_aae02 : ByteArray := prog_12_method_154_code
def yJ0_isLatin1_aae02 : MethodName := ⟨RJ0, "isLatin1", "()Z"⟩
abbrev cJ0_checkIndex_df160 : ByteArray := prog_12_method_155_code
def yJ0_checkIndex_df160 : MethodName := ⟨RJ0, "checkIndex", "(II)V"⟩
def RJ1 : String := "java/lang/StringLatin1"
def TJ1 : u_T := fun k => match k with
  | _ => ("", "", "", false)
def tyJ1 : Nat → FieldType := fun k => match k with
  | _ => .int
theorem nmJ1 : ∀ a, a < 0 → ∀ b, b < 0 → a ≠ b → (TJ1 a).2.1 ≠ (TJ1 b).2.1 := by decide +kernel
theorem tyJ1_ok : ∀ k, k < 0 → parseFieldDescriptor (TJ1 k).2.2.1 = some (tyJ1 k) := by decide +kernel
abbrev cJ1_charAt_3b067 : ByteArray := prog_13_method_2_code
def yJ1_charAt_3b067 : MethodName := ⟨RJ1, "charAt", "([BI)C"⟩
def RJ2 : String := "java/lang/StringUTF16"
def TJ2 : u_T := fun k => match k with
  | _ => ("", "", "", false)
def tyJ2 : Nat → FieldType := fun k => match k with
  | _ => .int
theorem nmJ2 : ∀ a, a < 0 → ∀ b, b < 0 → a ≠ b → (TJ2 a).2.1 ≠ (TJ2 b).2.1 := by decide +kernel
theorem tyJ2_ok : ∀ k, k < 0 → parseFieldDescriptor (TJ2 k).2.2.1 = some (tyJ2 k) := by decide +kernel
abbrev cJ2_getChar_3b067 : ByteArray := prog_14_method_5_code
def yJ2_getChar_3b067 : MethodName := ⟨RJ2, "getChar", "([BI)C"⟩
abbrev cJ2_length_9d52b : ByteArray := prog_14_method_6_code
def yJ2_length_9d52b : MethodName := ⟨RJ2, "length", "([B)I"⟩
abbrev cJ2_charAt_3b067 : ByteArray := prog_14_method_83_code
def yJ2_charAt_3b067 : MethodName := ⟨RJ2, "charAt", "([BI)C"⟩
abbrev cJ2_checkIndex_2214a : ByteArray := prog_14_method_91_code
def yJ2_checkIndex_2214a : MethodName := ⟨RJ2, "checkIndex", "(I[B)V"⟩
def RJ10 : String := "java/lang/System"
def TJ10 : u_T := fun k => match k with
  | _ => ("", "", "", false)
def tyJ10 : Nat → FieldType := fun k => match k with
  | _ => .int
theorem nmJ10 : ∀ a, a < 0 → ∀ b, b < 0 → a ≠ b → (TJ10 a).2.1 ≠ (TJ10 b).2.1 := by decide +kernel
theorem tyJ10_ok : ∀ k, k < 0 → parseFieldDescriptor (TJ10 k).2.2.1 = some (tyJ10 k) := by decide +kernel
def RJ3 : String := "jdk/internal/util/Preconditions"
def TJ3 : u_T := fun k => match k with
  | _ => ("", "", "", false)
def tyJ3 : Nat → FieldType := fun k => match k with
  | _ => .int
theorem nmJ3 : ∀ a, a < 0 → ∀ b, b < 0 → a ≠ b → (TJ3 a).2.1 ≠ (TJ3 b).2.1 := by decide +kernel
theorem tyJ3_ok : ∀ k, k < 0 → parseFieldDescriptor (TJ3 k).2.2.1 = some (tyJ3 k) := by decide +kernel
abbrev cJ3_checkIndex_8e157 : ByteArray := prog_16_method_11_code
def yJ3_checkIndex_8e157 : MethodName := ⟨RJ3, "checkIndex", "(IILjava/util/function/BiFunction;)I"⟩
def RL : String := "MarkTreatiesLaw"
abbrev cL_law : ByteArray := code
def yL_law : MethodName := ⟨RL, "law", "([I)Z"⟩
theorem in_X0 : ∀ w ∈ u_ws RX0 TX0 6, w ∈ lw_g := by decide +kernel
theorem in_X1 : ∀ w ∈ u_ws RX1 TX1 3, w ∈ lw_g := by decide +kernel
theorem in_X2 : ∀ w ∈ u_ws RX2 TX2 3, w ∈ lw_g := by decide +kernel
theorem in_X3 : ∀ w ∈ u_ws RX3 TX3 8, w ∈ lw_g := by decide +kernel
theorem in_X4 : ∀ w ∈ u_ws RX4 TX4 9, w ∈ lw_g := by decide +kernel
theorem in_X5 : ∀ w ∈ u_ws RX5 TX5 12, w ∈ lw_g := by decide +kernel
theorem in_X6 : ∀ w ∈ u_ws RX6 TX6 21, w ∈ lw_g := by decide +kernel
abbrev mt_cl : List vw_C := [(RX0, TX0, 6), (RX1, TX1, 3), (RX2, TX2, 3), (RX3, TX3, 8), (RX4, TX4, 9), (RX5, TX5, 12), (RX6, TX6, 21)]
end
section
/-! the picture of all cells: 68 cells at fixed places; their numbers in one function -/
abbrev mt_St : Type := Nat → Nat → Int32
def mt_row (σ : mt_St) (c : Nat) (f : Nat → Int32) : mt_St := fun c' => if c' = c then f else σ c'
def mt_up (σ : mt_St) (c k : Nat) (v : Int32) : mt_St := mt_row σ c (upd (σ c) k v)
def mt_bnd {α β : Type} (a : α) (k : α → β) : β := k a
def mt_chk {β : Type} (b : Bool) (k : Option β) : Option β := if b = true then k else none
def mt_call {α β : Type} (g : Option (α × mt_St)) (k : α → mt_St → Option β) : Option β := match g with
  | none => none
  | some q => k q.1 q.2
def mt_ask {α β : Type} (g : Option α) (k : α → Option β) : Option β := match g with
  | none => none
  | some q => k q
def mt_in (i : Int32) (n : Nat) : Bool := decide (0 ≤ i.toInt) && decide (i.toInt < n)
def mt_b01 (v : Int32) : Bool := decide (v = 0) || decide (v = 1)
theorem mt_row_s (σ : mt_St) (c : Nat) (f : Nat → Int32) : mt_row σ c f c = f := by simp [mt_row]
theorem mt_row_n {σ : mt_St} {c j : Nat} {f : Nat → Int32} (h : j ≠ c) : mt_row σ c f j = σ j := by simp [mt_row, h]
theorem mt_in_iff {i : Int32} {n : Nat} : mt_in i n = true ↔ vp_in i n := by
  rw [vp_in_iff]; simp [mt_in]
def mt_kds : List Nat := [5, 4, 7, 9, 7, 3, 3, 3, 3, 3, 3, 3, 3, 4, 7, 9, 7, 3, 3, 3, 3, 3, 3, 3, 3, 4, 7, 9, 7, 3, 3, 3, 3, 3, 3, 3, 3, 3, 7, 2, 7, 7, 7, 7, 0, 8, 10, 1, 1, 1, 1, 7, 7, 7, 7, 7, 6, 7, 7, 7, 7, 7, 11, 7, 7, 7, 7, 7]
def mt_lns : List Nat := [0, 0, 6, 8, 10, 0, 0, 0, 0, 0, 0, 0, 0, 0, 6, 8, 10, 0, 0, 0, 0, 0, 0, 0, 0, 0, 6, 8, 10, 0, 0, 0, 0, 0, 0, 0, 0, 0, 200, 0, 192, 192, 8, 8, 0, 120, 4, 0, 0, 0, 0, 40, 40, 40, 40, 7, 0, 86, 86, 86, 8, 120, 7, 720, 4, 4, 160, 40]
def mt_kd (i : Nat) : Nat := mt_kds.getD i 12
def mt_ln (i : Nat) : Nat := mt_lns.getD i 0
theorem mt_kd_lt {i : Nat} (h : mt_kd i ≠ 12) : i < 68 := by
  rcases Nat.lt_or_ge i 68 with q | q
  · exact q
  · exact absurd (by simp [mt_kd, List.getD_eq_getElem?_getD, List.getElem?_eq_none (show mt_kds.length ≤ i from q)]) h
abbrev mt_G : Type := va_G × (Nat → Nat) × (Nat → ClassId) × (Nat → Nat) × (Nat → Nat) × Nat
def mt_D (G : mt_G) : va_G := G.1
def mt_adr (G : mt_G) : Nat → Nat := G.2.1
def mt_cA (G : mt_G) : Nat → ClassId := G.2.2.1
def mt_aK (G : mt_G) : Nat → Nat := G.2.2.2.1
def mt_aV (G : mt_G) : Nat → Nat := G.2.2.2.2.1
def mt_tA (G : mt_G) : Nat := G.2.2.2.2.2
def mt_E (G : mt_G) (f : Nat → Int32) (i : Nat) : va_E := match mt_kd i with
  | 0 => .inr (0, [.ref (mt_adr G (i + 1)), .int (f 1), .int (f 2), .int (f 3), .int (f 4), .int (f 5)])
  | 1 => .inr (1, [.int (f 0), .int (f 1), .ref (mt_adr G (i + 4))])
  | 2 => .inr (2, [.ref (mt_adr G (i + 1)), .ref (mt_adr G (i + 2)), .int (f 2)])
  | 3 => .inr (3, [.int (f 0), .int (f 1), .int (f 2), .int (f 3), .int (f 4), .int (f 5), .int (f 6), .int (f 7)])
  | 4 => .inr (4, [.int (f 0), .int (f 1), .ref (mt_adr G (i + 1)), .int (f 3), .int (f 4), .int (f 5), .ref (mt_adr G (i + 2)), .int (f 7), .ref (mt_adr G (i + 3))])
  | 5 => .inr (5, [.ref (mt_adr G 1), .ref (mt_adr G 13), .int (f 2), .ref (mt_adr G 25), .ref (mt_adr G 37), .ref (mt_adr G 38), .ref (mt_adr G 39), .ref (mt_adr G 42), .ref (mt_adr G 43), .ref (mt_adr G 44), .ref (mt_adr G 46), .ref (mt_adr G 55)])
  | 6 => .inr (6, [.ref (mt_adr G 57), .ref (mt_adr G 58), .ref (mt_adr G 59), .int (f 3), .ref (mt_adr G 60), .int (f 5), .ref (mt_adr G 61), .int (f 7), .int (f 8), .int (f 9), .int (f 10), .int (f 11), .int (f 12), .ref (mt_adr G 62), .ref (mt_adr G 63), .int (f 15), .int (f 16), .ref (mt_adr G 64), .ref (mt_adr G 65), .ref (mt_adr G 66), .ref (mt_adr G 67)])
  | 7 => .inl (mt_cA G 7, mt_ln i, .inl f)
  | 8 => .inl (mt_cA G 8, mt_ln i, .inl f)
  | 9 => .inl (mt_cA G 9, mt_ln i, .inr (.inr (.inr (.inr fun t => some (mt_adr G (i + 2 + t))))))
  | 10 => .inl (mt_cA G 10, mt_ln i, .inr (.inr (.inr (.inr fun t => some (mt_adr G (i + 1 + t))))))
  | 11 => .inl (mt_cA G 11, mt_ln i, .inr (.inr (.inr (.inr fun t => some (mt_aK G t)))))
  | _ => .inl (mt_cA G 7, 0, .inl f)
def mt_tys (G : mt_G) : List (ClassId × FieldType) := [(mt_cA G 7, .int), (mt_cA G 8, .byte), (mt_cA G 9, .object "MarkTreaties$Treaty"), (mt_cA G 10, .object "MarkTreaties$Sheet"), (mt_cA G 11, .object "java/lang/String")]
def mt_ws (G : mt_G) (σ : mt_St) : va_W := (List.range 68).map (fun i => (mt_adr G i, mt_E G (σ i) i))
theorem mt_ws_at {G : mt_G} {σ : mt_St} {i : Nat} (h : i < 68) : (mt_ws G σ)[i]? = some (mt_adr G i, mt_E G (σ i) i) := by
  simp [mt_ws, h]
theorem mt_ws_lt {G : mt_G} {σ : mt_St} {i : Nat} {q : Nat × va_E} (h : (mt_ws G σ)[i]? = some q) : i < 68 ∧ q = (mt_adr G i, mt_E G (σ i) i) := by
  have hl : i < 68 := by
    have := (List.getElem?_eq_some_iff.mp h).1
    simpa [mt_ws] using this
  rw [mt_ws_at hl] at h
  exact ⟨hl, (Option.some.inj h).symm⟩
theorem mt_ws_set {G : mt_G} {σ σ' : mt_St} {i : Nat} {e : va_E} (h : i < 68) (he : mt_E G (σ' i) i = e) (ho : ∀ j, j ≠ i → σ' j = σ j) : (mt_ws G σ).set i (mt_adr G i, e) = mt_ws G σ' := by
  apply List.ext_getElem?
  intro j
  by_cases hj : j = i
  · subst hj
    rw [List.getElem?_set_self (by simp [mt_ws, h]), mt_ws_at h, he]
  · rw [List.getElem?_set_ne (Ne.symm hj)]
    by_cases hl : j < 68
    · rw [mt_ws_at hl, mt_ws_at hl, ho j hj]
    · rw [List.getElem?_eq_none (by simp [mt_ws]; omega), List.getElem?_eq_none (by simp [mt_ws]; omega)]
def mt_A (G : mt_G) : Nat → Prop := fun q => ∃ i, i < 68 ∧ q = mt_adr G i
def mt_J (G : mt_G) : Prop := ∀ i j, i < 68 → j < 68 → mt_adr G i = mt_adr G j → i = j
theorem mt_dis {G : mt_G} (hJ : mt_J G) (σ : mt_St) : va_D (mt_A G) (mt_ws G σ) := by
  refine ⟨fun i j p q hi hj hpq => ?_, fun k q hk => ?_⟩
  · obtain ⟨h1, rfl⟩ := mt_ws_lt hi
    obtain ⟨h2, rfl⟩ := mt_ws_lt hj
    exact hJ i j h1 h2 hpq
  · obtain ⟨h1, rfl⟩ := mt_ws_lt hk
    exact ⟨k, h1, rfl⟩
def mt_ab (j : Nat) : Int32 := [-1, 0, 0, 2, 3, 0, 1].getD j 0
def mt_sl : List Nat := [6, 5, 5, 5, 7, 5, 5, 4, 4, 4, 4, 2, 5]
def mt_sb : List (List Int32) := [[116, 114, 101, 97, 116, 121], [112, 101, 97, 99, 101], [116, 114, 97, 100, 101], [108, 101, 97, 115, 101], [100, 121, 110, 97, 115, 116, 121], [98, 108, 97, 110, 107], [116, 114, 117, 99, 101], [109, 97, 114, 107], [104, 101, 108, 100], [116, 111, 114, 110], [121, 97, 114, 100], [117, 112], [101, 118, 101, 110, 116]]
def mt_tx : List (String × Nat × String × Nat) := [("MarkTreaties$Reader", 106, "treaty", 0), ("MarkTreaties$Reader", 108, "peace", 1), ("MarkTreaties$Reader", 110, "trade", 2), ("MarkTreaties$Reader", 112, "lease", 3), ("MarkTreaties$Reader", 114, "dynasty", 4), ("MarkTreaties$Reader", 116, "blank", 5), ("MarkTreaties$Reader", 118, "truce", 6), ("MarkTreaties$Reader", 91, "mark", 7), ("MarkTreaties$Reader", 97, "held", 8), ("MarkTreaties$Reader", 101, "torn", 9), ("MarkTreaties$Reader", 49, "yard", 10), ("MarkTreaties$Reader", 63, "up", 11), ("MarkTreaties$Reader", 67, "event", 12), ("MarkTreatiesModel", 27, "treaty", 0), ("MarkTreatiesModel", 29, "peace", 1), ("MarkTreatiesModel", 31, "trade", 2), ("MarkTreatiesModel", 33, "lease", 3), ("MarkTreatiesModel", 35, "dynasty", 4), ("MarkTreatiesModel", 37, "blank", 5), ("MarkTreatiesModel", 39, "truce", 6), ("MarkTreatiesModel", 274, "mark", 7), ("MarkTreatiesModel", 279, "held", 8), ("MarkTreatiesModel", 281, "torn", 9), ("MarkTreatiesModel", 290, "yard", 10), ("MarkTreatiesModel", 292, "up", 11), ("MarkTreatiesModel", 294, "event", 12)]
/-- what the tables and the cells that nobody writes say -/
def mt_K (G : mt_G) (U : State) : Prop := va_K (mt_D G) mt_cl (mt_tys G) U ∧ mt_J G ∧ va_Z "MarkTreaties" "ABOVE" "[I" (.ref (mt_tA G)) (mt_A G) U U.heap ∧ va_T .int (mt_tA G) 7 (fun j => .int (mt_ab j)) (mt_A G) U U.heap ∧ va_Z "java/lang/String" "COMPACT_STRINGS" "Z" (.int 1) (mt_A G) U U.heap ∧ va_Zq "jdk/internal/util/Preconditions" "SIOOBE_FORMATTER" "Ljava/util/function/BiFunction;" (mt_A G) U U.heap ∧ vk_S 13 mt_sl mt_sb (mt_aK G) (mt_aV G) (mt_A G) U U.heap ∧ (∀ q ∈ mt_tx, vk_R q.1 q.2.1 q.2.2.1 (mt_aK G q.2.2.2) U) ∧ ∀ w ∈ lw_n, va_Nw w U
theorem lw_nw {s U : State} (hW : s.WarmedH U.vm) (w : Cond) (hw : w ∈ lw_n) (h : va_Nw w s) : va_Nw w U := by
  have h2 := (List.mem_filter.mp hw).2
  cases w <;> first | exact va_Nw.warmF hW h | exact va_Nw.warmM hW h | cases h2
theorem lw_nt (w : Cond) (hw : w ∈ lw_n) : w.onTables = true := by
  have h2 := (List.mem_filter.mp hw).2
  cases w <;> first | rfl | cases h2
theorem mt_K.blind {G : mt_G} {U : State} (g : JFrame) (mk : MethodId) (a : Array Value) (h : mt_K G U) : mt_K G (U.calling g mk a) := by
  obtain ⟨h1, h2, h3, h4, h5, h6, h7, h8, h9⟩ := h
  exact ⟨va_K.moved (u := U) (U := U.calling g mk a) (Vm.Alike.refl U.vm) h1, h2, va_Z.moved (u := U) (U := U.calling g mk a) (Vm.Alike.refl U.vm) h3, va_T.moved (u := U) (U := U.calling g mk a) (Vm.Alike.refl U.vm) h4, va_Z.moved (u := U) (U := U.calling g mk a) (Vm.Alike.refl U.vm) h5, va_Zq.moved (u := U) (U := U.calling g mk a) (Vm.Alike.refl U.vm) h6, vk_S.moved (u := U) (U := U.calling g mk a) (Vm.Alike.refl U.vm) h7, fun q hq => vk_R.same (u := U) (U := U.calling g mk a) rfl (h8 q hq), fun w hw => va_Nw.same (lw_nt w hw) (u := U) (U := U.calling g mk a) rfl (h9 w hw)⟩
theorem mt_K.go {G : mt_G} {s U : State} {locs : List Loc} (hW : s.WarmedH U.vm) (hS : va_S (mt_A G) s.heap U.heap locs) (h : mt_K G s) : mt_K G U := by
  obtain ⟨h1, h2, h3, h4, h5, h6, h7, h8, h9⟩ := h
  exact ⟨va_K.moved hW.alike h1, h2, (va_Z.moved hW.alike h3).kept hS.2.1, (va_T.moved hW.alike h4).kept hS.2.1, (va_Z.moved hW.alike h5).kept hS.2.1, (va_Zq.moved hW.alike h6).kept hS.2.1, (vk_S.moved hW.alike h7).kept hS.2.1, fun q hq => vk_R.warm hW (h8 q hq), fun w hw => lw_nw hW w hw (h9 w hw)⟩
/-! contracts -/
def mt_rm (d : Nat) : Room := { frames := d, cells := 0, slots := 0, locals := 36 * d }
def mt_Qc (G : mt_G) (o : Option Value) (σ' : mt_St) : Array Value → State → Outcome → State → Prop := fun _ st oc t => oc = .returned o ∧ va_P (mt_D G) mt_cl (mt_ws G σ') t.heap ∧ va_F (mt_A G) st t
def mt_Pc (G : mt_G) (σ : mt_St) (As : List Value) : Array Value → State → Prop := va_Pc As (fun U => va_P (mt_D G) mt_cl (mt_ws G σ) U.heap ∧ mt_K G U)
def mt_Con (l : Launch) (G : mt_G) (y : MethodName) (b : ByteArray) (mL : Nat) (rt : Option FieldType) (d : Nat) (As : List Value) (σ : mt_St) (o : Option Value) (σ' : mt_St) : Prop :=
  Met l y (Cond.code y b mL rt :: lw_g) (mt_rm d) (mt_Pc G σ As) (mt_Qc G o σ') 0 0 (mt_A G)
/-! the context of a walk -/
abbrev mt_C : Type := Program × Launch × Env × Room × State × MethodId × Array Value × List Frame × Method × Code × Nat × Nat × mt_G × (State → Prop)
def kp (K : mt_C) : Program := K.1
def kl (K : mt_C) : Launch := K.2.1
def ke (K : mt_C) : Env := K.2.2.1
def kR (K : mt_C) : Room := K.2.2.2.1
def ks (K : mt_C) : State := K.2.2.2.2.1
def km (K : mt_C) : MethodId := K.2.2.2.2.2.1
def ka (K : mt_C) : Array Value := K.2.2.2.2.2.2.1
def kb (K : mt_C) : List Frame := K.2.2.2.2.2.2.2.1
def kt (K : mt_C) : Method := K.2.2.2.2.2.2.2.2.1
def kc (K : mt_C) : Code := K.2.2.2.2.2.2.2.2.2.1
def kn (K : mt_C) : Nat := K.2.2.2.2.2.2.2.2.2.2.1
def kz (K : mt_C) : Nat := K.2.2.2.2.2.2.2.2.2.2.2.1
def kG (K : mt_C) : mt_G := K.2.2.2.2.2.2.2.2.2.2.2.2.1
def kQ (K : mt_C) : State → Prop := K.2.2.2.2.2.2.2.2.2.2.2.2.2
def mt_X (K : mt_C) (cc : ByteArray) (own : String) (nL d : Nat) : Prop :=
  (kp K).tables.exec = Jvm.exec ∧ (kc K).code = cc ∧ (kc K).maxLocals = nL ∧ (ks K).vm.findClass own = some (km K).cls ∧ (∀ w ∈ lw_g, w.before (ka K) (ks K) = true) ∧ mt_K (kG K) (ks K) ∧ (d ≤ (kR K).frames ∧ 36 * d ≤ (kR K).locals) ∧ (kn K ≤ (kR K).cells ∧ kz K ≤ (kR K).slots) ∧ (kt K).locks = false
def mt_W (K : mt_C) (H : Heap) (locs : List Loc) (g : JFrame) : Prop := W (kp K) (kl K) (ke K) (kR K) (ks K) (km K) (ka K) (kb K) (kt K) (kc K) H locs (kn K) (kz K) (kQ K) g
def mt_V (K : mt_C) (cc : ByteArray) (own : String) (nL d : Nat) (σ : mt_St) (pc : Nat) (lv : List (Nat × Value)) (st : List Value) (P : Prop) : Prop :=
  P → mt_X K cc own nL d → ∀ (H : Heap) (locs : List Loc) (ls : Array Slot), va_P (mt_D (kG K)) mt_cl (mt_ws (kG K) σ) H → va_S (mt_A (kG K)) (ks K).heap H locs → lv_has ls nL lv → mt_W K H locs (F0 (km K) pc ls st)
/-- what a walk that returns owes -/
def mt_R (K : mt_C) (rt : Option FieldType) (o : Option Value) (σ' : mt_St) : Prop :=
  kQ K = MQ (kb K) (mt_Qc (kG K) o σ') (ka K) (ks K) 0 0 (mt_A (kG K)) ∧ (kt K).sig.returnType = rt ∧ kn K = 0 ∧ kz K = 0
section MV
variable {K : mt_C} {cc : ByteArray} {own : String} {nL d : Nat} {σ : mt_St} {pc : Nat} {lv : List (Nat × Value)} {st : List Value} {P : Prop}
theorem mv_iconst {n : Int} {v : Int32} (hd : decode cc pc = .ok (.iconst n, 1)) (hv : Int32.ofInt n = v) (k : mt_V K cc own nL d σ (pc + 1) lv (.int v :: st) P) : mt_V K cc own nL d σ pc lv st P :=
  fun hP hX H locs ls h1 h2 hl => lv_iconst hX.1 hX.2.1 hd hv (k hP hX H locs ls h1 h2 hl)
theorem mv_bipush {n : Int} {v : Int32} (hd : decode cc pc = .ok (.bipush n, 2)) (hv : (Int8.ofInt n).toInt32 = v) (k : mt_V K cc own nL d σ (pc + 2) lv (.int v :: st) P) : mt_V K cc own nL d σ pc lv st P :=
  fun hP hX H locs ls h1 h2 hl => lv_bipush hX.1 hX.2.1 hd hv (k hP hX H locs ls h1 h2 hl)
theorem mv_sipush {n : Int} {v : Int32} (hd : decode cc pc = .ok (.sipush n, 3)) (hv : (Int16.ofInt n).toInt32 = v) (k : mt_V K cc own nL d σ (pc + 3) lv (.int v :: st) P) : mt_V K cc own nL d σ pc lv st P :=
  fun hP hX H locs ls h1 h2 hl => lv_sipush hX.1 hX.2.1 hd hv (k hP hX H locs ls h1 h2 hl)
theorem mv_lconst {n : Fin 2} {v : Int64} (hd : decode cc pc = .ok (.lconst n, 1)) (hv : Int64.ofNat (n : Nat) = v) (k : mt_V K cc own nL d σ (pc + 1) lv (.long v :: st) P) : mt_V K cc own nL d σ pc lv st P :=
  fun hP hX H locs ls h1 h2 hl => lv_lconst hX.1 hX.2.1 hd hv (k hP hX H locs ls h1 h2 hl)
theorem mv_ldc {i : Nat} {v : Int32} (hw : Cond.constant own i v ∈ lw_g) (hd : decode cc pc = .ok (.ldc i, 2)) (k : mt_V K cc own nL d σ (pc + 2) lv (.int v :: st) P) : mt_V K cc own nL d σ pc lv st P :=
  fun hP hX H locs ls h1 h2 hl => lv_ldc hX.1 hX.2.1 hX.2.2.2.1 (hX.2.2.2.2.1 _ hw) hd (k hP hX H locs ls h1 h2 hl)
theorem mv_ldcw {i : Nat} {v : Int32} (hw : Cond.constant own i v ∈ lw_g) (hd : decode cc pc = .ok (.ldc_w i, 3)) (k : mt_V K cc own nL d σ (pc + 3) lv (.int v :: st) P) : mt_V K cc own nL d σ pc lv st P :=
  fun hP hX H locs ls h1 h2 hl => lv_ldcw hX.1 hX.2.1 hX.2.2.2.1 (hX.2.2.2.2.1 _ hw) hd (k hP hX H locs ls h1 h2 hl)
theorem mv_ldc2 {i : Nat} {v : Int64} (hw : Cond.constantLong own i v ∈ lw_g) (hd : decode cc pc = .ok (.ldc2_w i, 3)) (k : mt_V K cc own nL d σ (pc + 3) lv (.long v :: st) P) : mt_V K cc own nL d σ pc lv st P :=
  fun hP hX H locs ls h1 h2 hl => lv_ldc2 hX.1 hX.2.1 hX.2.2.2.1 (hX.2.2.2.2.1 _ hw) hd (k hP hX H locs ls h1 h2 hl)
theorem mv_iload_n {q : Fin 4} {i : Nat} {x : Int32} (k0 : Nat) (hd : decode cc pc = .ok (.iload_n q, 1)) (hi : (q : Nat) = i) (hk : lv[k0]? = some (i, .int x)) (k : mt_V K cc own nL d σ (pc + 1) lv (.int x :: st) P) : mt_V K cc own nL d σ pc lv st P :=
  fun hP hX H locs ls h1 h2 hl => lv_iload_n hX.1 hX.2.1 hd hi (lv_at hl k0 hk) (k hP hX H locs ls h1 h2 hl)
theorem mv_iload {i : Nat} {x : Int32} (k0 : Nat) (hd : decode cc pc = .ok (.iload i, 2)) (hk : lv[k0]? = some (i, .int x)) (k : mt_V K cc own nL d σ (pc + 2) lv (.int x :: st) P) : mt_V K cc own nL d σ pc lv st P :=
  fun hP hX H locs ls h1 h2 hl => lv_iload hX.1 hX.2.1 hd (lv_at hl k0 hk) (k hP hX H locs ls h1 h2 hl)
theorem mv_lload_n {q : Fin 4} {i : Nat} {x : Int64} (k0 : Nat) (hd : decode cc pc = .ok (.lload_n q, 1)) (hi : (q : Nat) = i) (hk : lv[k0]? = some (i, .long x)) (k : mt_V K cc own nL d σ (pc + 1) lv (.long x :: st) P) : mt_V K cc own nL d σ pc lv st P :=
  fun hP hX H locs ls h1 h2 hl => lv_lload_n hX.1 hX.2.1 hd hi (lv_at hl k0 hk) (k hP hX H locs ls h1 h2 hl)
theorem mv_lload {i : Nat} {x : Int64} (k0 : Nat) (hd : decode cc pc = .ok (.lload i, 2)) (hk : lv[k0]? = some (i, .long x)) (k : mt_V K cc own nL d σ (pc + 2) lv (.long x :: st) P) : mt_V K cc own nL d σ pc lv st P :=
  fun hP hX H locs ls h1 h2 hl => lv_lload hX.1 hX.2.1 hd (lv_at hl k0 hk) (k hP hX H locs ls h1 h2 hl)
theorem mv_aload_n {q : Fin 4} {i : Nat} {x : Nat} (k0 : Nat) (hd : decode cc pc = .ok (.aload_n q, 1)) (hi : (q : Nat) = i) (hk : lv[k0]? = some (i, .ref x)) (k : mt_V K cc own nL d σ (pc + 1) lv (.ref x :: st) P) : mt_V K cc own nL d σ pc lv st P :=
  fun hP hX H locs ls h1 h2 hl => lv_aload_n hX.1 hX.2.1 hd hi (lv_at hl k0 hk) (k hP hX H locs ls h1 h2 hl)
theorem mv_aload {i : Nat} {x : Nat} (k0 : Nat) (hd : decode cc pc = .ok (.aload i, 2)) (hk : lv[k0]? = some (i, .ref x)) (k : mt_V K cc own nL d σ (pc + 2) lv (.ref x :: st) P) : mt_V K cc own nL d σ pc lv st P :=
  fun hP hX H locs ls h1 h2 hl => lv_aload hX.1 hX.2.1 hd (lv_at hl k0 hk) (k hP hX H locs ls h1 h2 hl)
theorem mv_sub {lv' : List (Nat × Value)} (ks : List Nat) (hl0 : lv_pick lv ks = lv') (k : mt_V K cc own nL d σ pc lv' st P) : mt_V K cc own nL d σ pc lv st P :=
  fun hP hX H locs ls h1 h2 hl => k hP hX H locs ls h1 h2 (lv_sub hl ks hl0)
theorem mv_istore_n {q : Fin 4} {i : Nat} {x : Int32} {lv' : List (Nat × Value)} (ks : List Nat) (hd : decode cc pc = .ok (.istore_n q, 1)) (hi : (q : Nat) = i) (hn : i < nL) (hl0 : lv_pick ((i, Value.int x) :: lv.filter (fun q => !(q.1 == i) && !(q.1 + 1 == i && q.2.category == 2))) ks = lv') (k : mt_V K cc own nL d σ (pc + 1) lv' st P) : mt_V K cc own nL d σ pc lv (.int x :: st) P :=
  fun hP hX H locs ls h1 h2 hl => lv_istore_n hX.1 hX.2.1 hd hi hl hn rfl (fun ls hl => k hP hX H locs ls h1 h2 (lv_sub hl ks hl0))
theorem mv_istore {i : Nat} {x : Int32} {lv' : List (Nat × Value)} (ks : List Nat) (hd : decode cc pc = .ok (.istore i, 2)) (hn : i < nL) (hl0 : lv_pick ((i, Value.int x) :: lv.filter (fun q => !(q.1 == i) && !(q.1 + 1 == i && q.2.category == 2))) ks = lv') (k : mt_V K cc own nL d σ (pc + 2) lv' st P) : mt_V K cc own nL d σ pc lv (.int x :: st) P :=
  fun hP hX H locs ls h1 h2 hl => lv_istore hX.1 hX.2.1 hd hl hn rfl (fun ls hl => k hP hX H locs ls h1 h2 (lv_sub hl ks hl0))
theorem mv_astore_n {q : Fin 4} {i : Nat} {x : Nat} {lv' : List (Nat × Value)} (ks : List Nat) (hd : decode cc pc = .ok (.astore_n q, 1)) (hi : (q : Nat) = i) (hn : i < nL) (hl0 : lv_pick ((i, Value.ref x) :: lv.filter (fun q => !(q.1 == i) && !(q.1 + 1 == i && q.2.category == 2))) ks = lv') (k : mt_V K cc own nL d σ (pc + 1) lv' st P) : mt_V K cc own nL d σ pc lv (.ref x :: st) P :=
  fun hP hX H locs ls h1 h2 hl => lv_astore_n hX.1 hX.2.1 hd hi hl hn rfl (fun ls hl => k hP hX H locs ls h1 h2 (lv_sub hl ks hl0))
theorem mv_astore {i : Nat} {x : Nat} {lv' : List (Nat × Value)} (ks : List Nat) (hd : decode cc pc = .ok (.astore i, 2)) (hn : i < nL) (hl0 : lv_pick ((i, Value.ref x) :: lv.filter (fun q => !(q.1 == i) && !(q.1 + 1 == i && q.2.category == 2))) ks = lv') (k : mt_V K cc own nL d σ (pc + 2) lv' st P) : mt_V K cc own nL d σ pc lv (.ref x :: st) P :=
  fun hP hX H locs ls h1 h2 hl => lv_astore hX.1 hX.2.1 hd hl hn rfl (fun ls hl => k hP hX H locs ls h1 h2 (lv_sub hl ks hl0))
theorem mv_lstore_n {q : Fin 4} {i : Nat} {x : Int64} {lv' : List (Nat × Value)} (ks : List Nat) (hd : decode cc pc = .ok (.lstore_n q, 1)) (hi : (q : Nat) = i) (hn : i + 1 < nL) (hl0 : lv_pick ((i, Value.long x) :: lv.filter (fun q => !(q.1 == i) && (!(q.1 == i + 1) && !(q.1 + 1 == i && q.2.category == 2)))) ks = lv') (k : mt_V K cc own nL d σ (pc + 1) lv' st P) : mt_V K cc own nL d σ pc lv (.long x :: st) P :=
  fun hP hX H locs ls h1 h2 hl => lv_lstore_n hX.1 hX.2.1 hd hi hl hn rfl (fun ls hl => k hP hX H locs ls h1 h2 (lv_sub hl ks hl0))
theorem mv_lstore {i : Nat} {x : Int64} {lv' : List (Nat × Value)} (ks : List Nat) (hd : decode cc pc = .ok (.lstore i, 2)) (hn : i + 1 < nL) (hl0 : lv_pick ((i, Value.long x) :: lv.filter (fun q => !(q.1 == i) && (!(q.1 == i + 1) && !(q.1 + 1 == i && q.2.category == 2)))) ks = lv') (k : mt_V K cc own nL d σ (pc + 2) lv' st P) : mt_V K cc own nL d σ pc lv (.long x :: st) P :=
  fun hP hX H locs ls h1 h2 hl => lv_lstore hX.1 hX.2.1 hd hl hn rfl (fun ls hl => k hP hX H locs ls h1 h2 (lv_sub hl ks hl0))
theorem mv_iinc {i k0 : Nat} {n : Int} {x v : Int32} {lv' : List (Nat × Value)} (ks : List Nat) (hd : decode cc pc = .ok (.iinc i n, 3)) (hk : lv[k0]? = some (i, .int x)) (hv : x + Int32.ofInt n = v) (hn : i < nL) (hl0 : lv_pick ((i, Value.int v) :: lv.filter (fun q => !(q.1 == i) && !(q.1 + 1 == i && q.2.category == 2))) ks = lv') (k : mt_V K cc own nL d σ (pc + 3) lv' st P) : mt_V K cc own nL d σ pc lv st P :=
  fun hP hX H locs ls h1 h2 hl => lv_iinc hX.1 hX.2.1 hd hl hk hv hn rfl (fun ls hl => k hP hX H locs ls h1 h2 (lv_sub hl ks hl0))
theorem mv_iadd {x y : Int32} (hd : decode cc pc = .ok (.iadd, 1)) (k : mt_V K cc own nL d σ (pc + 1) lv (.int (x + y) :: st) P) : mt_V K cc own nL d σ pc lv (.int y :: .int x :: st) P :=
  fun hP hX H locs ls h1 h2 hl => lv_iadd hX.1 hX.2.1 hd (k hP hX H locs ls h1 h2 hl)
theorem mv_isub {x y : Int32} (hd : decode cc pc = .ok (.isub, 1)) (k : mt_V K cc own nL d σ (pc + 1) lv (.int (x - y) :: st) P) : mt_V K cc own nL d σ pc lv (.int y :: .int x :: st) P :=
  fun hP hX H locs ls h1 h2 hl => lv_isub hX.1 hX.2.1 hd (k hP hX H locs ls h1 h2 hl)
theorem mv_imul {x y : Int32} (hd : decode cc pc = .ok (.imul, 1)) (k : mt_V K cc own nL d σ (pc + 1) lv (.int (x * y) :: st) P) : mt_V K cc own nL d σ pc lv (.int y :: .int x :: st) P :=
  fun hP hX H locs ls h1 h2 hl => lv_imul hX.1 hX.2.1 hd (k hP hX H locs ls h1 h2 hl)
theorem mv_iand {x y : Int32} (hd : decode cc pc = .ok (.iand, 1)) (k : mt_V K cc own nL d σ (pc + 1) lv (.int (x &&& y) :: st) P) : mt_V K cc own nL d σ pc lv (.int y :: .int x :: st) P :=
  fun hP hX H locs ls h1 h2 hl => lv_iand hX.1 hX.2.1 hd (k hP hX H locs ls h1 h2 hl)
theorem mv_ior {x y : Int32} (hd : decode cc pc = .ok (.ior, 1)) (k : mt_V K cc own nL d σ (pc + 1) lv (.int (x ||| y) :: st) P) : mt_V K cc own nL d σ pc lv (.int y :: .int x :: st) P :=
  fun hP hX H locs ls h1 h2 hl => lv_ior hX.1 hX.2.1 hd (k hP hX H locs ls h1 h2 hl)
theorem mv_ixor {x y : Int32} (hd : decode cc pc = .ok (.ixor, 1)) (k : mt_V K cc own nL d σ (pc + 1) lv (.int (x ^^^ y) :: st) P) : mt_V K cc own nL d σ pc lv (.int y :: .int x :: st) P :=
  fun hP hX H locs ls h1 h2 hl => lv_ixor hX.1 hX.2.1 hd (k hP hX H locs ls h1 h2 hl)
theorem mv_ishl {x y : Int32} (hd : decode cc pc = .ok (.ishl, 1)) (k : mt_V K cc own nL d σ (pc + 1) lv (.int (x <<< (y &&& 31)) :: st) P) : mt_V K cc own nL d σ pc lv (.int y :: .int x :: st) P :=
  fun hP hX H locs ls h1 h2 hl => lv_ishl hX.1 hX.2.1 hd (k hP hX H locs ls h1 h2 hl)
theorem mv_ishr {x y : Int32} (hd : decode cc pc = .ok (.ishr, 1)) (k : mt_V K cc own nL d σ (pc + 1) lv (.int (x >>> (y &&& 31)) :: st) P) : mt_V K cc own nL d σ pc lv (.int y :: .int x :: st) P :=
  fun hP hX H locs ls h1 h2 hl => lv_ishr hX.1 hX.2.1 hd (k hP hX H locs ls h1 h2 hl)
theorem mv_ladd {x y : Int64} (hd : decode cc pc = .ok (.ladd, 1)) (k : mt_V K cc own nL d σ (pc + 1) lv (.long (x + y) :: st) P) : mt_V K cc own nL d σ pc lv (.long y :: .long x :: st) P :=
  fun hP hX H locs ls h1 h2 hl => lv_ladd hX.1 hX.2.1 hd (k hP hX H locs ls h1 h2 hl)
theorem mv_lsub {x y : Int64} (hd : decode cc pc = .ok (.lsub, 1)) (k : mt_V K cc own nL d σ (pc + 1) lv (.long (x - y) :: st) P) : mt_V K cc own nL d σ pc lv (.long y :: .long x :: st) P :=
  fun hP hX H locs ls h1 h2 hl => lv_lsub hX.1 hX.2.1 hd (k hP hX H locs ls h1 h2 hl)
theorem mv_lmul {x y : Int64} (hd : decode cc pc = .ok (.lmul, 1)) (k : mt_V K cc own nL d σ (pc + 1) lv (.long (x * y) :: st) P) : mt_V K cc own nL d σ pc lv (.long y :: .long x :: st) P :=
  fun hP hX H locs ls h1 h2 hl => lv_lmul hX.1 hX.2.1 hd (k hP hX H locs ls h1 h2 hl)
theorem mv_land {x y : Int64} (hd : decode cc pc = .ok (.land, 1)) (k : mt_V K cc own nL d σ (pc + 1) lv (.long (x &&& y) :: st) P) : mt_V K cc own nL d σ pc lv (.long y :: .long x :: st) P :=
  fun hP hX H locs ls h1 h2 hl => lv_land hX.1 hX.2.1 hd (k hP hX H locs ls h1 h2 hl)
theorem mv_lor {x y : Int64} (hd : decode cc pc = .ok (.lor, 1)) (k : mt_V K cc own nL d σ (pc + 1) lv (.long (x ||| y) :: st) P) : mt_V K cc own nL d σ pc lv (.long y :: .long x :: st) P :=
  fun hP hX H locs ls h1 h2 hl => lv_lor hX.1 hX.2.1 hd (k hP hX H locs ls h1 h2 hl)
theorem mv_lxor {x y : Int64} (hd : decode cc pc = .ok (.lxor, 1)) (k : mt_V K cc own nL d σ (pc + 1) lv (.long (x ^^^ y) :: st) P) : mt_V K cc own nL d σ pc lv (.long y :: .long x :: st) P :=
  fun hP hX H locs ls h1 h2 hl => lv_lxor hX.1 hX.2.1 hd (k hP hX H locs ls h1 h2 hl)
theorem mv_iushr {x y : Int32} (hd : decode cc pc = .ok (.iushr, 1)) (k : mt_V K cc own nL d σ (pc + 1) lv (.int ((x.toUInt32 >>> (y.toUInt32 &&& Int32.toUInt32 31)).toInt32) :: st) P) : mt_V K cc own nL d σ pc lv (.int y :: .int x :: st) P :=
  fun hP hX H locs ls h1 h2 hl => lv_iushr hX.1 hX.2.1 hd rfl (k hP hX H locs ls h1 h2 hl)
theorem mv_lushr {x : Int64} {y : Int32} (hd : decode cc pc = .ok (.lushr, 1)) (k : mt_V K cc own nL d σ (pc + 1) lv (.long ((x.toUInt64 >>> (y.toInt64.toUInt64 &&& Int64.toUInt64 63)).toInt64) :: st) P) : mt_V K cc own nL d σ pc lv (.int y :: .long x :: st) P :=
  fun hP hX H locs ls h1 h2 hl => lv_lushr hX.1 hX.2.1 hd rfl (k hP hX H locs ls h1 h2 hl)
theorem mv_lshl {x : Int64} {y : Int32} (hd : decode cc pc = .ok (.lshl, 1)) (k : mt_V K cc own nL d σ (pc + 1) lv (.long (x <<< (y.toInt64 &&& 63)) :: st) P) : mt_V K cc own nL d σ pc lv (.int y :: .long x :: st) P :=
  fun hP hX H locs ls h1 h2 hl => lv_lshl hX.1 hX.2.1 hd rfl (k hP hX H locs ls h1 h2 hl)
theorem mv_i2l {x : Int32} (hd : decode cc pc = .ok (.i2l, 1)) (k : mt_V K cc own nL d σ (pc + 1) lv (.long (x.toInt64) :: st) P) : mt_V K cc own nL d σ pc lv (.int x :: st) P :=
  fun hP hX H locs ls h1 h2 hl => lv_i2l hX.1 hX.2.1 hd rfl (k hP hX H locs ls h1 h2 hl)
theorem mv_l2i {x : Int64} (hd : decode cc pc = .ok (.l2i, 1)) (k : mt_V K cc own nL d σ (pc + 1) lv (.int (x.toInt32) :: st) P) : mt_V K cc own nL d σ pc lv (.long x :: st) P :=
  fun hP hX H locs ls h1 h2 hl => lv_l2i hX.1 hX.2.1 hd rfl (k hP hX H locs ls h1 h2 hl)
theorem mv_i2b {x : Int32} (hd : decode cc pc = .ok (.i2b, 1)) (k : mt_V K cc own nL d σ (pc + 1) lv (.int (x.toInt8.toInt32) :: st) P) : mt_V K cc own nL d σ pc lv (.int x :: st) P :=
  fun hP hX H locs ls h1 h2 hl => lv_i2b hX.1 hX.2.1 hd rfl (k hP hX H locs ls h1 h2 hl)
theorem mv_i2s {x : Int32} (hd : decode cc pc = .ok (.i2s, 1)) (k : mt_V K cc own nL d σ (pc + 1) lv (.int (x.toInt16.toInt32) :: st) P) : mt_V K cc own nL d σ pc lv (.int x :: st) P :=
  fun hP hX H locs ls h1 h2 hl => lv_i2s hX.1 hX.2.1 hd rfl (k hP hX H locs ls h1 h2 hl)
theorem mv_i2c {x : Int32} (hd : decode cc pc = .ok (.i2c, 1)) (k : mt_V K cc own nL d σ (pc + 1) lv (.int ((x.toUInt32 % 65536).toInt32) :: st) P) : mt_V K cc own nL d σ pc lv (.int x :: st) P :=
  fun hP hX H locs ls h1 h2 hl => lv_i2c hX.1 hX.2.1 hd rfl (k hP hX H locs ls h1 h2 hl)
theorem mv_lcmp {x y : Int64} (hd : decode cc pc = .ok (.lcmp, 1)) (k : mt_V K cc own nL d σ (pc + 1) lv (.int (lg_cmp x y) :: st) P) : mt_V K cc own nL d σ pc lv (.long y :: .long x :: st) P :=
  fun hP hX H locs ls h1 h2 hl => W.lcmp hX.1 hX.2.1 hd (k hP hX H locs ls h1 h2 hl)
theorem mv_dup {va : Value} (hd : decode cc pc = .ok (.dup, 1)) (hc : va.category = 1) (k : mt_V K cc own nL d σ (pc + 1) lv (va :: va :: st) P) : mt_V K cc own nL d σ pc lv (va :: st) P :=
  fun hP hX H locs ls h1 h2 hl => lv_dup hX.1 hX.2.1 hd hc (k hP hX H locs ls h1 h2 hl)
theorem mv_dup2 {va vb : Value} (hd : decode cc pc = .ok (.dup2, 1)) (hc : va.category = 1) (hc2 : vb.category = 1) (k : mt_V K cc own nL d σ (pc + 1) lv (va :: vb :: va :: vb :: st) P) : mt_V K cc own nL d σ pc lv (va :: vb :: st) P :=
  fun hP hX H locs ls h1 h2 hl => lv_dup2_11 hX.1 hX.2.1 hd hc hc2 (k hP hX H locs ls h1 h2 hl)
theorem mv_pop {va : Value} (hd : decode cc pc = .ok (.pop, 1)) (hc : va.category = 1) (k : mt_V K cc own nL d σ (pc + 1) lv st P) : mt_V K cc own nL d σ pc lv (va :: st) P :=
  fun hP hX H locs ls h1 h2 hl => lv_pop hX.1 hX.2.1 hd hc (k hP hX H locs ls h1 h2 hl)
theorem mv_goto {off : Int} (tgt : Nat) (hd : decode cc pc = .ok (.goto off, 3)) (ht : (pc : Int) + off = (tgt : Int)) (k : mt_V K cc own nL d σ tgt lv st P) : mt_V K cc own nL d σ pc lv st P :=
  fun hP hX H locs ls h1 h2 hl => lv_goto hX.1 hX.2.1 hd ht (k hP hX H locs ls h1 h2 hl)
theorem mv_idiv {x y : Int32} (hd : decode cc pc = .ok (.idiv, 1)) (hy : ¬ y = 0) (k : mt_V K cc own nL d σ (pc + 1) lv (.int (x / y) :: st) P) : mt_V K cc own nL d σ pc lv (.int y :: .int x :: st) P :=
  fun hP hX H locs ls h1 h2 hl => lv_idiv hX.1 hX.2.1 hd hy (k hP hX H locs ls h1 h2 hl)
theorem mv_idiv_c {β : Type} {x y : Int32} {P1 : Option β} {o : β} (hd : decode cc pc = .ok (.idiv, 1)) (k : mt_V K cc own nL d σ (pc + 1) lv (.int (x / y) :: st) (P1 = some o)) : mt_V K cc own nL d σ pc lv (.int y :: .int x :: st) (mt_chk (!decide (y = 0)) P1 = some o) := by
  intro hP hX H locs ls h1 h2 hl
  by_cases hy : y = 0
  · subst hy; simp [mt_chk] at hP
  · exact lv_idiv hX.1 hX.2.1 hd hy (k (by simpa [mt_chk, hy] using hP) hX H locs ls h1 h2 hl)
theorem mv_irem {x y : Int32} (hd : decode cc pc = .ok (.irem, 1)) (hy : ¬ y = 0) (k : mt_V K cc own nL d σ (pc + 1) lv (.int (x - x / y * y) :: st) P) : mt_V K cc own nL d σ pc lv (.int y :: .int x :: st) P :=
  fun hP hX H locs ls h1 h2 hl => lv_irem hX.1 hX.2.1 hd hy (k hP hX H locs ls h1 h2 hl)
theorem mv_irem_c {β : Type} {x y : Int32} {P1 : Option β} {o : β} (hd : decode cc pc = .ok (.irem, 1)) (k : mt_V K cc own nL d σ (pc + 1) lv (.int (x - x / y * y) :: st) (P1 = some o)) : mt_V K cc own nL d σ pc lv (.int y :: .int x :: st) (mt_chk (!decide (y = 0)) P1 = some o) := by
  intro hP hX H locs ls h1 h2 hl
  by_cases hy : y = 0
  · subst hy; simp [mt_chk] at hP
  · exact lv_irem hX.1 hX.2.1 hd hy (k (by simpa [mt_chk, hy] using hP) hX H locs ls h1 h2 hl)
theorem mv_if_eq {β : Type} {x : Int32} {off : Int} {P1 P2 : Option β} {o : Option β} (tgt : Nat) (hd : decode cc pc = .ok (.ifCond .eq off, 3)) (ht : (pc : Int) + off = (tgt : Int)) (kt : mt_V K cc own nL d σ tgt lv st (P1 = o)) (kf : mt_V K cc own nL d σ (pc + 3) lv st (P2 = o)) : mt_V K cc own nL d σ pc lv (.int x :: st) ((if x = 0 then P1 else P2) = o) :=
  fun hP hX H locs ls h1 h2 hl => lv_if_eq hX.1 hX.2.1 hd ht (fun q => kt (by rw [if_pos q] at hP; exact hP) hX H locs ls h1 h2 hl) (fun q => kf (by rw [if_neg q] at hP; exact hP) hX H locs ls h1 h2 hl)
theorem mv_icmp_eq {β : Type} {x y : Int32} {off : Int} {P1 P2 : Option β} {o : Option β} (tgt : Nat) (hd : decode cc pc = .ok (.if_icmp .eq off, 3)) (ht : (pc : Int) + off = (tgt : Int)) (kt : mt_V K cc own nL d σ tgt lv st (P1 = o)) (kf : mt_V K cc own nL d σ (pc + 3) lv st (P2 = o)) : mt_V K cc own nL d σ pc lv (.int y :: .int x :: st) ((if x = y then P1 else P2) = o) :=
  fun hP hX H locs ls h1 h2 hl => lv_icmp_eq hX.1 hX.2.1 hd ht (fun q => kt (by rw [if_pos q] at hP; exact hP) hX H locs ls h1 h2 hl) (fun q => kf (by rw [if_neg q] at hP; exact hP) hX H locs ls h1 h2 hl)
theorem mv_if_ne {β : Type} {x : Int32} {off : Int} {P1 P2 : Option β} {o : Option β} (tgt : Nat) (hd : decode cc pc = .ok (.ifCond .ne off, 3)) (ht : (pc : Int) + off = (tgt : Int)) (kt : mt_V K cc own nL d σ tgt lv st (P1 = o)) (kf : mt_V K cc own nL d σ (pc + 3) lv st (P2 = o)) : mt_V K cc own nL d σ pc lv (.int x :: st) ((if x = 0 then P2 else P1) = o) :=
  fun hP hX H locs ls h1 h2 hl => lv_if_ne hX.1 hX.2.1 hd ht (fun q => kt (by rw [if_neg q] at hP; exact hP) hX H locs ls h1 h2 hl) (fun q => kf (by rw [if_pos q] at hP; exact hP) hX H locs ls h1 h2 hl)
theorem mv_icmp_ne {β : Type} {x y : Int32} {off : Int} {P1 P2 : Option β} {o : Option β} (tgt : Nat) (hd : decode cc pc = .ok (.if_icmp .ne off, 3)) (ht : (pc : Int) + off = (tgt : Int)) (kt : mt_V K cc own nL d σ tgt lv st (P1 = o)) (kf : mt_V K cc own nL d σ (pc + 3) lv st (P2 = o)) : mt_V K cc own nL d σ pc lv (.int y :: .int x :: st) ((if x = y then P2 else P1) = o) :=
  fun hP hX H locs ls h1 h2 hl => lv_icmp_ne hX.1 hX.2.1 hd ht (fun q => kt (by rw [if_neg q] at hP; exact hP) hX H locs ls h1 h2 hl) (fun q => kf (by rw [if_pos q] at hP; exact hP) hX H locs ls h1 h2 hl)
theorem mv_if_lt {β : Type} {x : Int32} {off : Int} {P1 P2 : Option β} {o : Option β} (tgt : Nat) (hd : decode cc pc = .ok (.ifCond .lt off, 3)) (ht : (pc : Int) + off = (tgt : Int)) (kt : mt_V K cc own nL d σ tgt lv st (P1 = o)) (kf : mt_V K cc own nL d σ (pc + 3) lv st (P2 = o)) : mt_V K cc own nL d σ pc lv (.int x :: st) ((if x < 0 then P1 else P2) = o) :=
  fun hP hX H locs ls h1 h2 hl => lv_if_lt hX.1 hX.2.1 hd ht (fun q => kt (by rw [if_pos q] at hP; exact hP) hX H locs ls h1 h2 hl) (fun q => kf (by rw [if_neg q] at hP; exact hP) hX H locs ls h1 h2 hl)
theorem mv_icmp_lt {β : Type} {x y : Int32} {off : Int} {P1 P2 : Option β} {o : Option β} (tgt : Nat) (hd : decode cc pc = .ok (.if_icmp .lt off, 3)) (ht : (pc : Int) + off = (tgt : Int)) (kt : mt_V K cc own nL d σ tgt lv st (P1 = o)) (kf : mt_V K cc own nL d σ (pc + 3) lv st (P2 = o)) : mt_V K cc own nL d σ pc lv (.int y :: .int x :: st) ((if x < y then P1 else P2) = o) :=
  fun hP hX H locs ls h1 h2 hl => lv_icmp_lt hX.1 hX.2.1 hd ht (fun q => kt (by rw [if_pos q] at hP; exact hP) hX H locs ls h1 h2 hl) (fun q => kf (by rw [if_neg q] at hP; exact hP) hX H locs ls h1 h2 hl)
theorem mv_if_ge {β : Type} {x : Int32} {off : Int} {P1 P2 : Option β} {o : Option β} (tgt : Nat) (hd : decode cc pc = .ok (.ifCond .ge off, 3)) (ht : (pc : Int) + off = (tgt : Int)) (kt : mt_V K cc own nL d σ tgt lv st (P1 = o)) (kf : mt_V K cc own nL d σ (pc + 3) lv st (P2 = o)) : mt_V K cc own nL d σ pc lv (.int x :: st) ((if 0 ≤ x then P1 else P2) = o) :=
  fun hP hX H locs ls h1 h2 hl => lv_if_ge hX.1 hX.2.1 hd ht (fun q => kt (by rw [if_pos q] at hP; exact hP) hX H locs ls h1 h2 hl) (fun q => kf (by rw [if_neg q] at hP; exact hP) hX H locs ls h1 h2 hl)
theorem mv_icmp_ge {β : Type} {x y : Int32} {off : Int} {P1 P2 : Option β} {o : Option β} (tgt : Nat) (hd : decode cc pc = .ok (.if_icmp .ge off, 3)) (ht : (pc : Int) + off = (tgt : Int)) (kt : mt_V K cc own nL d σ tgt lv st (P1 = o)) (kf : mt_V K cc own nL d σ (pc + 3) lv st (P2 = o)) : mt_V K cc own nL d σ pc lv (.int y :: .int x :: st) ((if y ≤ x then P1 else P2) = o) :=
  fun hP hX H locs ls h1 h2 hl => lv_icmp_ge hX.1 hX.2.1 hd ht (fun q => kt (by rw [if_pos q] at hP; exact hP) hX H locs ls h1 h2 hl) (fun q => kf (by rw [if_neg q] at hP; exact hP) hX H locs ls h1 h2 hl)
theorem mv_if_gt {β : Type} {x : Int32} {off : Int} {P1 P2 : Option β} {o : Option β} (tgt : Nat) (hd : decode cc pc = .ok (.ifCond .gt off, 3)) (ht : (pc : Int) + off = (tgt : Int)) (kt : mt_V K cc own nL d σ tgt lv st (P1 = o)) (kf : mt_V K cc own nL d σ (pc + 3) lv st (P2 = o)) : mt_V K cc own nL d σ pc lv (.int x :: st) ((if 0 < x then P1 else P2) = o) :=
  fun hP hX H locs ls h1 h2 hl => lv_if_gt hX.1 hX.2.1 hd ht (fun q => kt (by rw [if_pos q] at hP; exact hP) hX H locs ls h1 h2 hl) (fun q => kf (by rw [if_neg q] at hP; exact hP) hX H locs ls h1 h2 hl)
theorem mv_icmp_gt {β : Type} {x y : Int32} {off : Int} {P1 P2 : Option β} {o : Option β} (tgt : Nat) (hd : decode cc pc = .ok (.if_icmp .gt off, 3)) (ht : (pc : Int) + off = (tgt : Int)) (kt : mt_V K cc own nL d σ tgt lv st (P1 = o)) (kf : mt_V K cc own nL d σ (pc + 3) lv st (P2 = o)) : mt_V K cc own nL d σ pc lv (.int y :: .int x :: st) ((if y < x then P1 else P2) = o) :=
  fun hP hX H locs ls h1 h2 hl => lv_icmp_gt hX.1 hX.2.1 hd ht (fun q => kt (by rw [if_pos q] at hP; exact hP) hX H locs ls h1 h2 hl) (fun q => kf (by rw [if_neg q] at hP; exact hP) hX H locs ls h1 h2 hl)
theorem mv_if_le {β : Type} {x : Int32} {off : Int} {P1 P2 : Option β} {o : Option β} (tgt : Nat) (hd : decode cc pc = .ok (.ifCond .le off, 3)) (ht : (pc : Int) + off = (tgt : Int)) (kt : mt_V K cc own nL d σ tgt lv st (P1 = o)) (kf : mt_V K cc own nL d σ (pc + 3) lv st (P2 = o)) : mt_V K cc own nL d σ pc lv (.int x :: st) ((if x ≤ 0 then P1 else P2) = o) :=
  fun hP hX H locs ls h1 h2 hl => lv_if_le hX.1 hX.2.1 hd ht (fun q => kt (by rw [if_pos q] at hP; exact hP) hX H locs ls h1 h2 hl) (fun q => kf (by rw [if_neg q] at hP; exact hP) hX H locs ls h1 h2 hl)
theorem mv_icmp_le {β : Type} {x y : Int32} {off : Int} {P1 P2 : Option β} {o : Option β} (tgt : Nat) (hd : decode cc pc = .ok (.if_icmp .le off, 3)) (ht : (pc : Int) + off = (tgt : Int)) (kt : mt_V K cc own nL d σ tgt lv st (P1 = o)) (kf : mt_V K cc own nL d σ (pc + 3) lv st (P2 = o)) : mt_V K cc own nL d σ pc lv (.int y :: .int x :: st) ((if x ≤ y then P1 else P2) = o) :=
  fun hP hX H locs ls h1 h2 hl => lv_icmp_le hX.1 hX.2.1 hd ht (fun q => kt (by rw [if_pos q] at hP; exact hP) hX H locs ls h1 h2 hl) (fun q => kf (by rw [if_neg q] at hP; exact hP) hX H locs ls h1 h2 hl)
end MV
end
section
theorem mt_ne {x k : Int32} {z : Int} (h : ¬ x = k) (hk : k.toInt = z) : x.toInt ≠ z := fun q => h (Int32.toInt_inj.mp (q.trans hk.symm))
theorem mt_somE {β : Type} {b : Bool} {P1 : Option β} {o : β} (h : mt_chk b P1 = some o) : b = true ∧ P1 = some o := by
  unfold mt_chk at h
  split at h
  · exact ⟨by assumption, h⟩
  · cases h
def mt_fl (own : String) (idx : Nat) (T : u_T) (k : Nat) : Prop := Cond.fieldLink own idx (T k).1 (T k).2.1 (T k).2.2.1 ∈ lw_g ∨ Cond.fieldLinkNest own idx (T k).1 (T k).2.1 (T k).2.2.1 "MarkTreaties" ∈ lw_n
def mt_ml (own : String) (idx : Nat) (y : MethodName) : Prop := Cond.methodLink own idx y ∈ lw_g ∨ Cond.methodLinkNest own idx y "MarkTreaties" ∈ lw_n
def mt_cal (y : MethodName) (b : ByteArray) (mL : Nat) (rt : Option FieldType) (n : Nat) : Prop := Cond.code y b mL rt ∈ lw_g ∧ Cond.initialized y.cls ∈ lw_g ∧ (y.cls ≠ "java/lang/invoke/MethodHandle" ∧ y.cls ≠ "java/lang/invoke/VarHandle" ∧ (parseMethodDescriptor y.desc).map (fun d => d.parameters.length) = some n) ∧ mL ≤ 17
def mt_ins (y : MethodName) : Prop := Cond.instanceMethod y ∈ lw_g ∧ Cond.selects y.cls y y ∈ lw_g
theorem mt_E0 {G : mt_G} {f : Nat → Int32} {i : Nat} (h : mt_kd i = 0) : mt_E G f i = .inr (0, [.ref (mt_adr G (i + 1)), .int (f 1), .int (f 2), .int (f 3), .int (f 4), .int (f 5)]) := by simp only [mt_E, h]
theorem mt_E1 {G : mt_G} {f : Nat → Int32} {i : Nat} (h : mt_kd i = 1) : mt_E G f i = .inr (1, [.int (f 0), .int (f 1), .ref (mt_adr G (i + 4))]) := by simp only [mt_E, h]
theorem mt_E2 {G : mt_G} {f : Nat → Int32} {i : Nat} (h : mt_kd i = 2) : mt_E G f i = .inr (2, [.ref (mt_adr G (i + 1)), .ref (mt_adr G (i + 2)), .int (f 2)]) := by simp only [mt_E, h]
theorem mt_E3 {G : mt_G} {f : Nat → Int32} {i : Nat} (h : mt_kd i = 3) : mt_E G f i = .inr (3, [.int (f 0), .int (f 1), .int (f 2), .int (f 3), .int (f 4), .int (f 5), .int (f 6), .int (f 7)]) := by simp only [mt_E, h]
theorem mt_E4 {G : mt_G} {f : Nat → Int32} {i : Nat} (h : mt_kd i = 4) : mt_E G f i = .inr (4, [.int (f 0), .int (f 1), .ref (mt_adr G (i + 1)), .int (f 3), .int (f 4), .int (f 5), .ref (mt_adr G (i + 2)), .int (f 7), .ref (mt_adr G (i + 3))]) := by simp only [mt_E, h]
theorem mt_E5 {G : mt_G} {f : Nat → Int32} {i : Nat} (h : mt_kd i = 5) : mt_E G f i = .inr (5, [.ref (mt_adr G 1), .ref (mt_adr G 13), .int (f 2), .ref (mt_adr G 25), .ref (mt_adr G 37), .ref (mt_adr G 38), .ref (mt_adr G 39), .ref (mt_adr G 42), .ref (mt_adr G 43), .ref (mt_adr G 44), .ref (mt_adr G 46), .ref (mt_adr G 55)]) := by simp only [mt_E, h]
theorem mt_E6 {G : mt_G} {f : Nat → Int32} {i : Nat} (h : mt_kd i = 6) : mt_E G f i = .inr (6, [.ref (mt_adr G 57), .ref (mt_adr G 58), .ref (mt_adr G 59), .int (f 3), .ref (mt_adr G 60), .int (f 5), .ref (mt_adr G 61), .int (f 7), .int (f 8), .int (f 9), .int (f 10), .int (f 11), .int (f 12), .ref (mt_adr G 62), .ref (mt_adr G 63), .int (f 15), .int (f 16), .ref (mt_adr G 64), .ref (mt_adr G 65), .ref (mt_adr G 66), .ref (mt_adr G 67)]) := by simp only [mt_E, h]
theorem mt_E7 {G : mt_G} {f : Nat → Int32} {i : Nat} (h : mt_kd i = 7) : mt_E G f i = .inl (mt_cA G 7, mt_ln i, .inl f) := by simp only [mt_E, h]
theorem mt_E8 {G : mt_G} {f : Nat → Int32} {i : Nat} (h : mt_kd i = 8) : mt_E G f i = .inl (mt_cA G 8, mt_ln i, .inl f) := by simp only [mt_E, h]
theorem mt_E9 {G : mt_G} {f : Nat → Int32} {i : Nat} (h : mt_kd i = 9) : mt_E G f i = .inl (mt_cA G 9, mt_ln i, .inr (.inr (.inr (.inr fun t => some (mt_adr G (i + 2 + t)))))) := by simp only [mt_E, h]
theorem mt_E10 {G : mt_G} {f : Nat → Int32} {i : Nat} (h : mt_kd i = 10) : mt_E G f i = .inl (mt_cA G 10, mt_ln i, .inr (.inr (.inr (.inr fun t => some (mt_adr G (i + 1 + t)))))) := by simp only [mt_E, h]
theorem mt_E11 {G : mt_G} {f : Nat → Int32} {i : Nat} (h : mt_kd i = 11) : mt_E G f i = .inl (mt_cA G 11, mt_ln i, .inr (.inr (.inr (.inr fun t => some (mt_aK G t))))) := by simp only [mt_E, h]
theorem mt_lt {i k : Nat} (h : mt_kd i = k) (hk : k < 12) : i < 68 := mt_kd_lt (by omega)
theorem mt_obj {G : mt_G} {f : Nat → Int32} {i ci : Nat} (h : mt_kd i = ci) (hc : ci < 7) : ∃ fs, mt_E G f i = .inr (ci, fs) := by
  rcases (show ci = 0 ∨ ci = 1 ∨ ci = 2 ∨ ci = 3 ∨ ci = 4 ∨ ci = 5 ∨ ci = 6 by omega) with rfl | rfl | rfl | rfl | rfl | rfl | rfl
  · exact ⟨_, mt_E0 h⟩
  · exact ⟨_, mt_E1 h⟩
  · exact ⟨_, mt_E2 h⟩
  · exact ⟨_, mt_E3 h⟩
  · exact ⟨_, mt_E4 h⟩
  · exact ⟨_, mt_E5 h⟩
  · exact ⟨_, mt_E6 h⟩
section MH
variable {K : mt_C} {cc : ByteArray} {own : String} {nL d : Nat} {σ : mt_St} {pc : Nat} {lv : List (Nat × Value)} {st : List Value} {P : Prop}
theorem mv_getf {ci k N c idx : Nat} {C : String} {T : u_T} {fs : List Value} {v : Value} (hc : mt_cl[ci]? = some (C, T, N)) (hin : ∀ w ∈ u_ws C T N, w ∈ lw_g) (hlt : c < 68) (hE : mt_E (kG K) (σ c) c = .inr (ci, fs)) (hk : k < N) (hw : mt_fl own idx T k) (hv : fs[k]? = some v) (hd : decode cc pc = .ok (.getfield idx, 3)) (kk : mt_V K cc own nL d σ (pc + 3) lv (v :: st) P) : mt_V K cc own nL d σ pc lv (.ref (mt_adr (kG K) c) :: st) P := by
  intro hP hX H locs ls h1 h2 hl
  have k1 := kk hP hX H locs ls h1 h2 hl
  obtain ⟨hx, hb, hml, hown, hts, hK, hd2, hr, hlk⟩ := hX
  rcases hw with hw | hw
  · exact va_get (D := mt_D (kG K)) hx hb hts hin hown hK.1 h1 c (by rw [mt_ws_at hlt, hE]) hc k hk (hts _ hw) (fun _ h9 => h9) hv hd k1
  · exact va_getN (D := mt_D (kG K)) hx hb hts hin hown hK.1 h1 c (by rw [mt_ws_at hlt, hE]) hc k hk (va_Nw.use rfl (hK.2.2.2.2.2.2.2.2 _ hw)) (fun _ h9 => h9) hv hd k1
theorem mv_putf {β : Type} {ci k N c idx : Nat} {C : String} {T : u_T} {ty0 : Nat → FieldType} {fs : List Value} {v : Int32} {ty : FieldType} {kf : mt_St → Option β} {o : Option β} (hc : mt_cl[ci]? = some (C, T, N)) (hin : ∀ w ∈ u_ws C T N, w ∈ lw_g) (hty : ∀ k, k < N → parseFieldDescriptor (T k).2.2.1 = some (ty0 k)) (hnm : ∀ a, a < N → ∀ b, b < N → a ≠ b → (T a).2.1 ≠ (T b).2.1) (hlt : c < 68) (hE : mt_E (kG K) (σ c) c = .inr (ci, fs)) (hE2 : mt_E (kG K) (upd (σ c) k v) c = .inr (ci, fs.set k (.int v))) (hk : k < N) (hw : mt_fl own idx T k) (hfin : (T k).2.2.2 = false) (hdt : parseFieldDescriptor (T k).2.2.1 = some ty) (hn : narrow ty (.int v) = .int v) (hfit : fits ty (.int v) = true) (hlen : k < fs.length) (hd : decode cc pc = .ok (.putfield idx, 3)) (kk : ∀ σ1, mt_V K cc own nL d σ1 (pc + 3) lv st (kf σ1 = o)) : mt_V K cc own nL d σ pc lv (.int v :: .ref (mt_adr (kG K) c) :: st) (mt_bnd (mt_up σ c k v) kf = o) := by
  intro hP hX H locs ls h1 h2 hl
  have k1 := kk (mt_up σ c k v) hP hX
  obtain ⟨hx, hb, hml, hown, hts, hK, hd2, hr, hlk⟩ := hX
  have he : mt_E (kG K) (mt_up σ c k v c) c = .inr (ci, fs.set k (.int v)) := by rw [mt_up, mt_row_s]; exact hE2
  have ho : ∀ j, j ≠ c → mt_up σ c k v j = σ j := fun j hj => mt_row_n hj
  rcases hw with hw | hw
  · refine va_put (D := mt_D (kG K)) (v := .int v) (ty := ty) hx hb hts hin ty0 hty hnm hown hK.1 h1 (mt_dis hK.2.1 σ) h2 c (by rw [mt_ws_at hlt, hE]) hc k hk (hts _ hw) (fun _ h9 => h9) hfin hdt hn hfit hlen hd (fun H1 l1 q1 q2 q3 => ?_)
    rw [mt_ws_set hlt he ho] at q1
    exact k1 H1 l1 ls q1 q3 hl
  · refine va_putN (D := mt_D (kG K)) (v := .int v) (ty := ty) hx hb hts hin ty0 hty hnm hown hK.1 h1 (mt_dis hK.2.1 σ) h2 c (by rw [mt_ws_at hlt, hE]) hc k hk (va_Nw.use rfl (hK.2.2.2.2.2.2.2.2 _ hw)) (fun _ h9 => h9) hfin hdt hn hfit hlen hd (fun H1 l1 q1 q2 q3 => ?_)
    rw [mt_ws_set hlt he ho] at q1
    exact k1 H1 l1 ls q1 q3 hl
theorem mv_iald {β : Type} {c : Nat} {i : Int32} {P1 : Option β} {o : β} (n : Nat) (hk : mt_kd c = 7) (hn : mt_ln c = n) (hd : decode cc pc = .ok (.iaload, 1)) (kk : mt_V K cc own nL d σ (pc + 1) lv (.int (σ c i.toNatClampNeg) :: st) (P1 = some o)) : mt_V K cc own nL d σ pc lv (.int i :: .ref (mt_adr (kG K) c) :: st) (mt_chk (mt_in i n) P1 = some o) := by
  intro hP hX H locs ls h1 h2 hl
  obtain ⟨hb0, hP⟩ := mt_somE hP
  have k1 := kk hP hX H locs ls h1 h2 hl
  obtain ⟨hx, hb, hml, hown, hts, hK, hd2, hr, hlk⟩ := hX
  exact va_iald (D := mt_D (kG K)) hx hb hK.1 h1 c 0 (by rw [mt_ws_at (mt_lt hk (by decide)), mt_E7 hk]) rfl (by rw [hn]; exact mt_in_iff.mp hb0) hd k1
theorem mv_ialdk {c : Nat} {i : Int32} (n j : Nat) (hk : mt_kd c = 7) (hn : mt_ln c = n) (hi : mt_in i n = true) (hj : i.toNatClampNeg = j) (hd : decode cc pc = .ok (.iaload, 1)) (kk : mt_V K cc own nL d σ (pc + 1) lv (.int (σ c j) :: st) P) : mt_V K cc own nL d σ pc lv (.int i :: .ref (mt_adr (kG K) c) :: st) P := by
  intro hP hX H locs ls h1 h2 hl
  have k1 := kk hP hX H locs ls h1 h2 hl
  obtain ⟨hx, hb, hml, hown, hts, hK, hd2, hr, hlk⟩ := hX
  subst hj
  exact va_iald (D := mt_D (kG K)) hx hb hK.1 h1 c 0 (by rw [mt_ws_at (mt_lt hk (by decide)), mt_E7 hk]) rfl (by rw [hn]; exact mt_in_iff.mp hi) hd k1
theorem mv_bald {β : Type} {c : Nat} {i : Int32} {P1 : Option β} {o : β} (n : Nat) (hk : mt_kd c = 8) (hn : mt_ln c = n) (hd : decode cc pc = .ok (.baload, 1)) (kk : mt_V K cc own nL d σ (pc + 1) lv (.int (σ c i.toNatClampNeg) :: st) (P1 = some o)) : mt_V K cc own nL d σ pc lv (.int i :: .ref (mt_adr (kG K) c) :: st) (mt_chk (mt_in i n) P1 = some o) := by
  intro hP hX H locs ls h1 h2 hl
  obtain ⟨hb0, hP⟩ := mt_somE hP
  have k1 := kk hP hX H locs ls h1 h2 hl
  obtain ⟨hx, hb, hml, hown, hts, hK, hd2, hr, hlk⟩ := hX
  exact va_bald (D := mt_D (kG K)) hx hb hK.1 h1 c 1 (by rw [mt_ws_at (mt_lt hk (by decide)), mt_E8 hk]) rfl (by rw [hn]; exact mt_in_iff.mp hb0) hd k1
theorem mv_alen {c : Nat} {v : Int32} (n : Nat) (hk : mt_kd c = 7) (hn : mt_ln c = n) (hv : Int32.ofNat n = v) (hd : decode cc pc = .ok (.arraylength, 1)) (kk : mt_V K cc own nL d σ (pc + 1) lv (.int v :: st) P) : mt_V K cc own nL d σ pc lv (.ref (mt_adr (kG K) c) :: st) P := by
  intro hP hX H locs ls h1 h2 hl
  have k1 := kk hP hX H locs ls h1 h2 hl
  obtain ⟨hx, hb, hml, hown, hts, hK, hd2, hr, hlk⟩ := hX
  exact va_alen (D := mt_D (kG K)) (ty := .int) hx hb hK.1 h1 c 0 (by rw [mt_ws_at (mt_lt hk (by decide)), mt_E7 hk]) rfl (by show Int32.ofNat (mt_ln c) = v; rw [hn]; exact hv) hd k1
theorem mv_alenS {c : Nat} {v : Int32} (n : Nat) (hk : mt_kd c = 11) (hn : mt_ln c = n) (hv : Int32.ofNat n = v) (hd : decode cc pc = .ok (.arraylength, 1)) (kk : mt_V K cc own nL d σ (pc + 1) lv (.int v :: st) P) : mt_V K cc own nL d σ pc lv (.ref (mt_adr (kG K) c) :: st) P := by
  intro hP hX H locs ls h1 h2 hl
  have k1 := kk hP hX H locs ls h1 h2 hl
  obtain ⟨hx, hb, hml, hown, hts, hK, hd2, hr, hlk⟩ := hX
  exact va_alen (D := mt_D (kG K)) (ty := .object "java/lang/String") hx hb hK.1 h1 c 4 (by rw [mt_ws_at (mt_lt hk (by decide)), mt_E11 hk]) rfl (by show Int32.ofNat (mt_ln c) = v; rw [hn]; exact hv) hd k1
theorem mv_aaldT {β : Type} {c : Nat} {i : Int32} {P1 : Option β} {o : β} (hk : mt_kd c = 9) (hn : mt_ln c = 8) (hd : decode cc pc = .ok (.aaload, 1)) (kk : mt_in i 8 = true → mt_V K cc own nL d σ (pc + 1) lv (.ref (mt_adr (kG K) (c + 2 + i.toNatClampNeg)) :: st) (P1 = some o)) : mt_V K cc own nL d σ pc lv (.int i :: .ref (mt_adr (kG K) c) :: st) (mt_chk (mt_in i 8) P1 = some o) := by
  intro hP hX H locs ls h1 h2 hl
  obtain ⟨hb0, hP⟩ := mt_somE hP
  have k1 := kk hb0 hP hX H locs ls h1 h2 hl
  obtain ⟨hx, hb, hml, hown, hts, hK, hd2, hr, hlk⟩ := hX
  exact va_aldq (D := mt_D (kG K)) (C := "MarkTreaties$Treaty") (f := fun t => some (mt_adr (kG K) (c + 2 + t))) hx hb hK.1 h1 c 2 (by rw [mt_ws_at (mt_lt hk (by decide)), mt_E9 hk]) rfl (by rw [hn]; exact mt_in_iff.mp hb0) hd k1
theorem mv_aaldS {β : Type} {c : Nat} {i : Int32} {P1 : Option β} {o : β} (hk : mt_kd c = 10) (hn : mt_ln c = 4) (hd : decode cc pc = .ok (.aaload, 1)) (kk : mt_in i 4 = true → mt_V K cc own nL d σ (pc + 1) lv (.ref (mt_adr (kG K) (c + 1 + i.toNatClampNeg)) :: st) (P1 = some o)) : mt_V K cc own nL d σ pc lv (.int i :: .ref (mt_adr (kG K) c) :: st) (mt_chk (mt_in i 4) P1 = some o) := by
  intro hP hX H locs ls h1 h2 hl
  obtain ⟨hb0, hP⟩ := mt_somE hP
  have k1 := kk hb0 hP hX H locs ls h1 h2 hl
  obtain ⟨hx, hb, hml, hown, hts, hK, hd2, hr, hlk⟩ := hX
  exact va_aldq (D := mt_D (kG K)) (C := "MarkTreaties$Sheet") (f := fun t => some (mt_adr (kG K) (c + 1 + t))) hx hb hK.1 h1 c 3 (by rw [mt_ws_at (mt_lt hk (by decide)), mt_E10 hk]) rfl (by rw [hn]; exact mt_in_iff.mp hb0) hd k1
theorem mv_aaldN {β : Type} {c : Nat} {i : Int32} {P1 : Option β} {o : β} (hk : mt_kd c = 11) (hn : mt_ln c = 7) (hd : decode cc pc = .ok (.aaload, 1)) (kk : mt_in i 7 = true → mt_V K cc own nL d σ (pc + 1) lv (.ref (mt_aK (kG K) i.toNatClampNeg) :: st) (P1 = some o)) : mt_V K cc own nL d σ pc lv (.int i :: .ref (mt_adr (kG K) c) :: st) (mt_chk (mt_in i 7) P1 = some o) := by
  intro hP hX H locs ls h1 h2 hl
  obtain ⟨hb0, hP⟩ := mt_somE hP
  have k1 := kk hb0 hP hX H locs ls h1 h2 hl
  obtain ⟨hx, hb, hml, hown, hts, hK, hd2, hr, hlk⟩ := hX
  exact va_aldq (D := mt_D (kG K)) (C := "java/lang/String") (f := fun t => some (mt_aK (kG K) t)) hx hb hK.1 h1 c 4 (by rw [mt_ws_at (mt_lt hk (by decide)), mt_E11 hk]) rfl (by rw [hn]; exact mt_in_iff.mp hb0) hd k1
theorem mv_iast0 {c : Nat} {i v : Int32} {P : Prop} (n : Nat) (hk : mt_kd c = 7) (hn : mt_ln c = n) (hi : mt_in i n = true) (hd : decode cc pc = .ok (.iastore, 1)) (kk : mt_V K cc own nL d (mt_up σ c i.toNatClampNeg v) (pc + 1) lv st P) : mt_V K cc own nL d σ pc lv (.int v :: .int i :: .ref (mt_adr (kG K) c) :: st) P := by
  intro hP hX H locs ls h1 h2 hl
  have k1 := kk hP hX
  obtain ⟨hx, hb, hml, hown, hts, hK, hd2, hr, hlk⟩ := hX
  have hlt := mt_lt hk (by decide)
  refine va_iast (D := mt_D (kG K)) hx hb hK.1 h1 (mt_dis hK.2.1 σ) h2 c 0 (by rw [mt_ws_at hlt, mt_E7 hk]) rfl (by rw [hn]; exact mt_in_iff.mp hi) hd (fun H1 l1 q1 q2 q3 => ?_)
  rw [mt_ws_set (σ' := mt_up σ c i.toNatClampNeg v) hlt (by rw [mt_up, mt_row_s]; exact mt_E7 hk) (fun j hj => mt_row_n hj)] at q1
  exact k1 H1 l1 ls q1 q3 hl
theorem mv_iast {β : Type} {c : Nat} {i v : Int32} {kf : mt_St → Option β} {o : β} (n : Nat) (hk : mt_kd c = 7) (hn : mt_ln c = n) (hd : decode cc pc = .ok (.iastore, 1)) (kk : ∀ σ1, mt_V K cc own nL d σ1 (pc + 1) lv st (kf σ1 = some o)) : mt_V K cc own nL d σ pc lv (.int v :: .int i :: .ref (mt_adr (kG K) c) :: st) (mt_chk (mt_in i n) (mt_bnd (mt_up σ c i.toNatClampNeg v) kf) = some o) := by
  intro hP
  obtain ⟨hb0, hP⟩ := mt_somE hP
  exact mv_iast0 n hk hn hb0 hd (kk _) hP
theorem mv_iastk {β : Type} {c : Nat} {i v : Int32} {kf : mt_St → Option β} {o : Option β} (n j : Nat) (hk : mt_kd c = 7) (hn : mt_ln c = n) (hi : mt_in i n = true) (hj : i.toNatClampNeg = j) (hd : decode cc pc = .ok (.iastore, 1)) (kk : ∀ σ1, mt_V K cc own nL d σ1 (pc + 1) lv st (kf σ1 = o)) : mt_V K cc own nL d σ pc lv (.int v :: .int i :: .ref (mt_adr (kG K) c) :: st) (mt_bnd (mt_up σ c j v) kf = o) := by
  subst hj
  exact fun hP => mv_iast0 n hk hn hi hd (kk _) hP
theorem mv_bast {β : Type} {c : Nat} {i v : Int32} {kf : mt_St → Option β} {o : β} (n : Nat) (hk : mt_kd c = 8) (hn : mt_ln c = n) (hd : decode cc pc = .ok (.bastore, 1)) (kk : ∀ σ1, mt_V K cc own nL d σ1 (pc + 1) lv st (kf σ1 = some o)) : mt_V K cc own nL d σ pc lv (.int v :: .int i :: .ref (mt_adr (kG K) c) :: st) (mt_chk (mt_in i n) (mt_bnd (mt_up σ c i.toNatClampNeg (vp_nar .byte v)) kf) = some o) := by
  intro hP hX H locs ls h1 h2 hl
  obtain ⟨hb0, hP⟩ := mt_somE hP
  have k1 := kk _ hP hX
  obtain ⟨hx, hb, hml, hown, hts, hK, hd2, hr, hlk⟩ := hX
  have hlt := mt_lt hk (by decide)
  refine va_bast (D := mt_D (kG K)) hx hb hK.1 h1 (mt_dis hK.2.1 σ) h2 c 1 (by rw [mt_ws_at hlt, mt_E8 hk]) rfl (by rw [hn]; exact mt_in_iff.mp hb0) hd (fun H1 l1 q1 q2 q3 => ?_)
  rw [mt_ws_set (σ' := mt_up σ c i.toNatClampNeg (vp_nar .byte v)) hlt (by rw [mt_up, mt_row_s]; exact mt_E8 hk) (fun j hj => mt_row_n hj)] at q1
  exact k1 H1 l1 ls q1 q3 hl
theorem mv_case {β : Type} {x k : Int32} {P1 P2 o : Option β} (h1 : x = k → mt_V K cc own nL d σ pc lv st (P1 = o)) (h2 : ¬ x = k → mt_V K cc own nL d σ pc lv st (P2 = o)) : mt_V K cc own nL d σ pc lv st ((if x = k then P1 else P2) = o) := by
  intro hP
  by_cases h : x = k
  · exact h1 h (by rw [if_pos h] at hP; exact hP)
  · exact h2 h (by rw [if_neg h] at hP; exact hP)
theorem mv_tsin {x : Int32} {dflt lo hi off : Int} {offs : Array Int} {len : Nat} (k : Int32) (tgt : Nat) (hx : x = k) (hd : decode cc pc = .ok (.tableswitch dflt lo hi offs, len)) (a1 : ¬ k.toInt < lo) (a2 : ¬ hi < k.toInt) (ho : offs[(k.toInt - lo).toNat]? = some off) (ht : (pc : Int) + off = (tgt : Int)) (kk : mt_V K cc own nL d σ tgt lv st P) : mt_V K cc own nL d σ pc lv (.int x :: st) P := by
  subst hx
  exact fun hP hX H locs ls h1 h2 hl => lv_tableIn hX.1 hX.2.1 hd a1 a2 ho ht (kk hP hX H locs ls h1 h2 hl)
theorem mv_tsout {x : Int32} {dflt lo hi : Int} {offs : Array Int} {len : Nat} (tgt : Nat) (hx : x.toInt < lo ∨ hi < x.toInt) (hd : decode cc pc = .ok (.tableswitch dflt lo hi offs, len)) (ht : (pc : Int) + dflt = (tgt : Int)) (kk : mt_V K cc own nL d σ tgt lv st P) : mt_V K cc own nL d σ pc lv (.int x :: st) P :=
  fun hP hX H locs ls h1 h2 hl => lv_tableOut hX.1 hX.2.1 hd hx ht (kk hP hX H locs ls h1 h2 hl)
theorem mt_fin {G : mt_G} {σ : mt_St} {s t : State} {H : Heap} {locs : List Loc} (h1 : va_P (mt_D G) mt_cl (mt_ws G σ) H) (h2 : va_S (mt_A G) s.heap H locs) (o : Option Value) (ht : t.heap = H) (a : Array Value) : mt_Qc G o σ a s (.returned o) t :=
  ⟨rfl, by rw [ht]; exact h1, by rw [ht]; exact h2.1, fun q a1 a2 => by rw [ht]; exact h2.2.1 q a1 a2⟩
theorem mv_iret {r v : Int32} {σ' : mt_St} (hQ : mt_R K (some .int) (some (.int r)) σ') (hd : decode cc pc = .ok (.ireturn, 1)) : mt_V K cc own nL d σ pc lv [.int v] (some (v, σ) = some (r, σ')) := by
  intro hP hX H locs ls h1 h2 hl
  cases hP
  obtain ⟨hx, hb, hml, hown, hts, hK, hd2, hr, hlk⟩ := hX
  obtain ⟨e1, e2, e3, e4⟩ := hQ
  unfold mt_W
  rw [e1, e3, e4]
  exact W.iret hx hb e2 (fun t ht hW => mt_fin h1 h2 _ ht _) h2.2.2 hd hlk
theorem mv_iretr {r v : Int32} (hQ : mt_R K (some .int) (some (.int r)) σ) (hd : decode cc pc = .ok (.ireturn, 1)) : mt_V K cc own nL d σ pc lv [.int v] (some v = some r) :=
  fun hP => mv_iret hQ hd (by cases hP; rfl)
theorem mt_n01 {v : Int32} (h : mt_b01 v = true) : narrow .boolean (.int v) = .int v ∧ fits .boolean (.int v) = true := by
  simp only [mt_b01, Bool.or_eq_true, decide_eq_true_eq] at h
  rcases h with rfl | rfl
  · exact ⟨by decide +kernel, by decide +kernel⟩
  · exact ⟨by decide +kernel, by decide +kernel⟩
theorem mv_zret0 {r v : Int32} {σ' : mt_St} (hQ : mt_R K (some .boolean) (some (.int r)) σ') (hb0 : mt_b01 v = true) (hd : decode cc pc = .ok (.ireturn, 1)) : mt_V K cc own nL d σ pc lv [.int v] (some (v, σ) = some (r, σ')) := by
  intro hP hX H locs ls h1 h2 hl
  cases hP
  obtain ⟨hx, hb, hml, hown, hts, hK, hd2, hr, hlk⟩ := hX
  obtain ⟨e1, e2, e3, e4⟩ := hQ
  unfold mt_W
  rw [e1, e3, e4]
  exact W.zret hx hb e2 (mt_n01 hb0).1 (fun t ht hW => mt_fin h1 h2 _ ht _) h2.2.2 hd hlk
theorem mv_zret {r v : Int32} {σ' : mt_St} (hQ : mt_R K (some .boolean) (some (.int r)) σ') (hd : decode cc pc = .ok (.ireturn, 1)) : mt_V K cc own nL d σ pc lv [.int v] (mt_chk (mt_b01 v) (some (v, σ)) = some (r, σ')) :=
  fun hP => mv_zret0 hQ (mt_somE hP).1 hd (mt_somE hP).2
theorem mv_zretr0 {r v : Int32} (hQ : mt_R K (some .boolean) (some (.int r)) σ) (hb0 : mt_b01 v = true) (hd : decode cc pc = .ok (.ireturn, 1)) : mt_V K cc own nL d σ pc lv [.int v] (some v = some r) :=
  fun hP => mv_zret0 hQ hb0 hd (by cases hP; rfl)
theorem mv_zretr {r v : Int32} (hQ : mt_R K (some .boolean) (some (.int r)) σ) (hd : decode cc pc = .ok (.ireturn, 1)) : mt_V K cc own nL d σ pc lv [.int v] (mt_chk (mt_b01 v) (some v) = some r) :=
  fun hP => mv_zretr0 hQ (mt_somE hP).1 hd (mt_somE hP).2
theorem mv_lret {r v : Int64} {σ' : mt_St} (hQ : mt_R K (some .long) (some (.long r)) σ') (hd : decode cc pc = .ok (.lreturn, 1)) : mt_V K cc own nL d σ pc lv [.long v] (some (v, σ) = some (r, σ')) := by
  intro hP hX H locs ls h1 h2 hl
  cases hP
  obtain ⟨hx, hb, hml, hown, hts, hK, hd2, hr, hlk⟩ := hX
  obtain ⟨e1, e2, e3, e4⟩ := hQ
  unfold mt_W
  rw [e1, e3, e4]
  exact W.lret hx hb e2 (fun t ht hW => mt_fin h1 h2 _ ht _) h2.2.2 hd hlk
theorem mv_lretr {r v : Int64} (hQ : mt_R K (some .long) (some (.long r)) σ) (hd : decode cc pc = .ok (.lreturn, 1)) : mt_V K cc own nL d σ pc lv [.long v] (some v = some r) :=
  fun hP => mv_lret hQ hd (by cases hP; rfl)
theorem mv_vret {u : Unit} {σ' : mt_St} (hQ : mt_R K none none σ') (hd : decode cc pc = .ok (.return_, 1)) : mt_V K cc own nL d σ pc lv [] (some ((), σ) = some (u, σ')) := by
  intro hP hX H locs ls h1 h2 hl
  cases hP
  obtain ⟨hx, hb, hml, hown, hts, hK, hd2, hr, hlk⟩ := hX
  obtain ⟨e1, e2, e3, e4⟩ := hQ
  unfold mt_W
  rw [e1, e3, e4]
  exact W.vret hx hb e2 (fun t ht hW => mt_fin h1 h2 _ ht _) h2.2.2 hd hlk
/-- behind a call -/
theorem mt_after {H : Heap} {locs : List Loc} {ls : Array Slot} {stk : List Value} {ov : Option Value} {σ1 : mt_St} {a : Array Value} (hr : va_Run (kp K) (kl K) (ke K) (kR K) (ks K) (km K) (ka K) (kb K) (kt K) (kc K) H locs (kn K) (kz K) 0 0 (F0 (km K) pc ls stk) st (mt_Qc (kG K) ov σ1 a) (mt_A (kG K))) (h2 : va_S (mt_A (kG K)) (ks K).heap H locs)
    (kk : ∀ (H1 : Heap) (locs1 : List Loc), va_P (mt_D (kG K)) mt_cl (mt_ws (kG K) σ1) H1 → va_S (mt_A (kG K)) (ks K).heap H1 locs1 → mt_W K H1 locs1 (F0 (km K) (pc + 3) ls (ov.toList ++ st))) : mt_W K H locs (F0 (km K) pc ls stk) := by
  intro T hT X
  obtain ⟨v, st₀, t, T', L, h0, X', hL, e1, e2, ⟨hv, hp, hz, hk⟩, stp⟩ := hr T hT X
  cases hv
  rw [h0] at hz hk
  obtain ⟨t2, a1, b1⟩ := kk T'.heap (locs ++ L) (by rw [e1]; exact hp)
    ⟨Nat.le_trans h2.1 (by rw [e1]; exact hz), fun q g1 g2 => by rw [e1, hk q (Nat.lt_of_lt_of_le g1 h2.1) g2]; exact h2.2.1 q g1 g2, fun q hq => by
      rcases List.mem_append.mp hq with h | h
      · exact h2.2.2 q h
      · exact hL q h⟩ T' rfl X'
  exact ⟨t2, stp t2 a1, b1⟩
theorem mt_gin (y : MethodName) (b : ByteArray) (mL : Nat) (rt : Option FieldType) (h : Cond.code y b mL rt ∈ lw_g) : GoodIn lw_g (Cond.code y b mL rt :: lw_g) := by
  intro w hw
  rcases List.mem_cons.mp hw with rfl | hw
  · exact ⟨h, lw_gg _ h⟩
  · exact ⟨hw, lw_gg _ hw⟩
theorem mt_fb (G : mt_G) (σ : mt_St) (As : List Value) : FrameBlind (mt_Pc G σ As) := fun a U g mk q => ⟨q.1, q.2.1, mt_K.blind g mk a q.2.2⟩
theorem mv_cV0 {y : MethodName} {b : ByteArray} {mL n d' idx c ci : Nat} {rt : Option FieldType} {As stk : List Value} {ov : Option Value} {σ1 : mt_St} {T : u_T} {N : Nat} (hcal : mt_cal y b mL rt n) (hins : mt_ins y) (hml0 : mt_ml own idx y) (hr : mt_kd c = ci) (hci : ci < 7) (hcl : mt_cl[ci]? = some (y.cls, T, N)) (hn : As.length = n) (hD : d' + 1 ≤ d) (hst : stk = As.reverse ++ .ref (mt_adr (kG K) c) :: st) (hw8 : (st.map fun v => v.category).sum ≤ 8) (hd : decode cc pc = .ok (.invokevirtual idx, 3))
    (con : mt_Con (kl K) (kG K) y b mL rt d' (.ref (mt_adr (kG K) c) :: As) σ ov σ1) (kk : mt_V K cc own nL d σ1 (pc + 3) lv (ov.toList ++ st) P) : mt_V K cc own nL d σ pc lv stk P := by
  intro hP hX H locs ls h1 h2 hl
  have k1 := kk hP hX
  obtain ⟨hx, hb, hml, hown, hts, hK, hd2, hrr, hlk⟩ := hX
  obtain ⟨c1, c2, c3, c4⟩ := hcal
  obtain ⟨fs, hE⟩ := mt_obj (G := kG K) (f := σ c) hr hci
  have hlt := mt_lt hr (by omega)
  have hpre : PreV (ks K) H y.cls (mt_adr (kG K) c) (mt_Pc (kG K) σ (.ref (mt_adr (kG K) c) :: As)) As :=
    ⟨mt_fb _ _ _, va_recv (q0 := c) hK.1 h1 hcl (by rw [mt_ws_at hlt, hE]), fun U hU hW => ⟨rfl, by rw [hU]; exact h1, mt_K.go hW (by rw [hU]; exact h2) hK⟩⟩
  have hR : (mt_rm d').frames + 1 ≤ (kR K).frames ∧ 8 + (mL + 11) + (mt_rm d').locals ≤ (kR K).locals := by
    refine ⟨by show d' + 1 ≤ _; omega, ?_⟩
    show 8 + (mL + 11) + 36 * d' ≤ _
    omega
  refine mt_after (a := (Value.ref (mt_adr (kG K) c) :: As).toArray) (σ1 := σ1) (ov := ov) ?_ h2 (fun H1 l1 q1 q3 => k1 H1 l1 ls q1 q3 hl)
  rcases hml0 with hm | hm
  · exact va_runV (C := y.cls) ⟨hx, hb, hml, hown, hts⟩ con ⟨callB_of n hts (mt_gin y b mL rt c1) rfl rfl rfl (hts _ c2) (hts _ hm) c3 hR, hts _ hins.1, hts _ hins.2⟩ hpre rfl hn hl.1 hst (lv_room hw8) hd ⟨hrr.1, hrr.2⟩
  · exact va_runVN (C := y.cls) (host := "MarkTreaties") ⟨hx, hb, hml, hown, hts⟩ con ⟨⟨⟨rfl, rfl, hR.1, hR.2, pay_in hts (mt_gin y b mL rt c1), List.mem_cons_self⟩, hts _ c1, hts _ c2, ⟨c3.1, c3.2.1⟩, fun sig h => by have h2 := c3.2.2; rw [h] at h2; exact (Option.some.inj h2).symm, va_Nw.use rfl (hK.2.2.2.2.2.2.2.2 _ hm)⟩, hts _ hins.1, hts _ hins.2⟩ hpre rfl hn hl.1 hst (lv_room hw8) hd ⟨hrr.1, hrr.2⟩
theorem mv_cS0 {y : MethodName} {b : ByteArray} {mL n d' idx : Nat} {rt : Option FieldType} {As stk : List Value} {ov : Option Value} {σ1 : mt_St} (hcal : mt_cal y b mL rt n) (hsta : Cond.static y ∈ lw_g) (hml0 : mt_ml own idx y) (hn : As.length = n) (hD : d' + 1 ≤ d) (hst : stk = As.reverse ++ st) (hw8 : (st.map fun v => v.category).sum ≤ 8) (hd : decode cc pc = .ok (.invokestatic idx, 3))
    (con : mt_Con (kl K) (kG K) y b mL rt d' As σ ov σ1) (kk : mt_V K cc own nL d σ1 (pc + 3) lv (ov.toList ++ st) P) : mt_V K cc own nL d σ pc lv stk P := by
  intro hP hX H locs ls h1 h2 hl
  have k1 := kk hP hX
  obtain ⟨hx, hb, hml, hown, hts, hK, hd2, hrr, hlk⟩ := hX
  obtain ⟨c1, c2, c3, c4⟩ := hcal
  have hpre : PreS (ks K) H (mt_Pc (kG K) σ As) As :=
    ⟨mt_fb _ _ _, fun U hU hW => ⟨rfl, by rw [hU]; exact h1, mt_K.go hW (by rw [hU]; exact h2) hK⟩⟩
  have hR : (mt_rm d').frames + 1 ≤ (kR K).frames ∧ 8 + (mL + 11) + (mt_rm d').locals ≤ (kR K).locals := by
    refine ⟨by show d' + 1 ≤ _; omega, ?_⟩
    show 8 + (mL + 11) + 36 * d' ≤ _
    omega
  refine mt_after (a := As.toArray) (σ1 := σ1) (ov := ov) ?_ h2 (fun H1 l1 q1 q3 => k1 H1 l1 ls q1 q3 hl)
  rcases hml0 with hm | hm
  · exact va_runS ⟨hx, hb, hml, hown, hts⟩ con ⟨callB_of n hts (mt_gin y b mL rt c1) rfl rfl rfl (hts _ c2) (hts _ hm) c3 hR, hts _ hsta⟩ hpre rfl hn hl.1 hst (lv_room hw8) hd ⟨hrr.1, hrr.2⟩
  · exact va_runSN (host := "MarkTreaties") ⟨hx, hb, hml, hown, hts⟩ con ⟨⟨⟨rfl, rfl, hR.1, hR.2, pay_in hts (mt_gin y b mL rt c1), List.mem_cons_self⟩, hts _ c1, hts _ c2, ⟨c3.1, c3.2.1⟩, fun sig h => by have h2 := c3.2.2; rw [h] at h2; exact (Option.some.inj h2).symm, va_Nw.use rfl (hK.2.2.2.2.2.2.2.2 _ hm)⟩, hts _ hsta, trivial⟩ hpre rfl hn hl.1 hst (lv_room hw8) hd ⟨hrr.1, hrr.2⟩
theorem mv_cVwi {β : Type} {y : MethodName} {b : ByteArray} {mL n d' idx c ci : Nat} {rt : Option FieldType} {As stk : List Value} {T : u_T} {N : Nat} {g : Option (Int32 × mt_St)} {kf : Int32 → mt_St → Option β} {o : β} (hcal : mt_cal y b mL rt n) (hins : mt_ins y) (hml0 : mt_ml own idx y) (hr : mt_kd c = ci) (hci : ci < 7) (hcl : mt_cl[ci]? = some (y.cls, T, N)) (hn : As.length = n) (hD : d' + 1 ≤ d) (hst : stk = As.reverse ++ .ref (mt_adr (kG K) c) :: st) (hw8 : (st.map fun v => v.category).sum ≤ 8) (hd : decode cc pc = .ok (.invokevirtual idx, 3))
    (con : ∀ r σ1, g = some (r, σ1) → mt_Con (kl K) (kG K) y b mL rt d' (.ref (mt_adr (kG K) c) :: As) σ (some (.int r)) σ1) (kk : ∀ r σ1, mt_V K cc own nL d σ1 (pc + 3) lv (.int r :: st) (kf r σ1 = some o)) : mt_V K cc own nL d σ pc lv stk (mt_call g kf = some o) := by
  intro hP
  cases hg : g with
  | none => rw [hg] at hP; cases hP
  | some q => rw [hg] at hP; exact mv_cV0 hcal hins hml0 hr hci hcl hn hD hst hw8 hd (con q.1 q.2 hg) (kk q.1 q.2) hP
theorem mv_cVri {β : Type} {y : MethodName} {b : ByteArray} {mL n d' idx c ci : Nat} {rt : Option FieldType} {As stk : List Value} {T : u_T} {N : Nat} {g : Option Int32} {kf : Int32 → Option β} {o : β} (hcal : mt_cal y b mL rt n) (hins : mt_ins y) (hml0 : mt_ml own idx y) (hr : mt_kd c = ci) (hci : ci < 7) (hcl : mt_cl[ci]? = some (y.cls, T, N)) (hn : As.length = n) (hD : d' + 1 ≤ d) (hst : stk = As.reverse ++ .ref (mt_adr (kG K) c) :: st) (hw8 : (st.map fun v => v.category).sum ≤ 8) (hd : decode cc pc = .ok (.invokevirtual idx, 3))
    (con : ∀ r, g = some r → mt_Con (kl K) (kG K) y b mL rt d' (.ref (mt_adr (kG K) c) :: As) σ (some (.int r)) σ) (kk : ∀ r, mt_V K cc own nL d σ (pc + 3) lv (.int r :: st) (kf r = some o)) : mt_V K cc own nL d σ pc lv stk (mt_ask g kf = some o) := by
  intro hP
  cases hg : g with
  | none => rw [hg] at hP; cases hP
  | some q => rw [hg] at hP; exact mv_cV0 hcal hins hml0 hr hci hcl hn hD hst hw8 hd (con q hg) (kk q) hP
theorem mv_cVwl {β : Type} {y : MethodName} {b : ByteArray} {mL n d' idx c ci : Nat} {rt : Option FieldType} {As stk : List Value} {T : u_T} {N : Nat} {g : Option (Int64 × mt_St)} {kf : Int64 → mt_St → Option β} {o : β} (hcal : mt_cal y b mL rt n) (hins : mt_ins y) (hml0 : mt_ml own idx y) (hr : mt_kd c = ci) (hci : ci < 7) (hcl : mt_cl[ci]? = some (y.cls, T, N)) (hn : As.length = n) (hD : d' + 1 ≤ d) (hst : stk = As.reverse ++ .ref (mt_adr (kG K) c) :: st) (hw8 : (st.map fun v => v.category).sum ≤ 8) (hd : decode cc pc = .ok (.invokevirtual idx, 3))
    (con : ∀ r σ1, g = some (r, σ1) → mt_Con (kl K) (kG K) y b mL rt d' (.ref (mt_adr (kG K) c) :: As) σ (some (.long r)) σ1) (kk : ∀ r σ1, mt_V K cc own nL d σ1 (pc + 3) lv (.long r :: st) (kf r σ1 = some o)) : mt_V K cc own nL d σ pc lv stk (mt_call g kf = some o) := by
  intro hP
  cases hg : g with
  | none => rw [hg] at hP; cases hP
  | some q => rw [hg] at hP; exact mv_cV0 hcal hins hml0 hr hci hcl hn hD hst hw8 hd (con q.1 q.2 hg) (kk q.1 q.2) hP
theorem mv_cVrl {β : Type} {y : MethodName} {b : ByteArray} {mL n d' idx c ci : Nat} {rt : Option FieldType} {As stk : List Value} {T : u_T} {N : Nat} {g : Option Int64} {kf : Int64 → Option β} {o : β} (hcal : mt_cal y b mL rt n) (hins : mt_ins y) (hml0 : mt_ml own idx y) (hr : mt_kd c = ci) (hci : ci < 7) (hcl : mt_cl[ci]? = some (y.cls, T, N)) (hn : As.length = n) (hD : d' + 1 ≤ d) (hst : stk = As.reverse ++ .ref (mt_adr (kG K) c) :: st) (hw8 : (st.map fun v => v.category).sum ≤ 8) (hd : decode cc pc = .ok (.invokevirtual idx, 3))
    (con : ∀ r, g = some r → mt_Con (kl K) (kG K) y b mL rt d' (.ref (mt_adr (kG K) c) :: As) σ (some (.long r)) σ) (kk : ∀ r, mt_V K cc own nL d σ (pc + 3) lv (.long r :: st) (kf r = some o)) : mt_V K cc own nL d σ pc lv stk (mt_ask g kf = some o) := by
  intro hP
  cases hg : g with
  | none => rw [hg] at hP; cases hP
  | some q => rw [hg] at hP; exact mv_cV0 hcal hins hml0 hr hci hcl hn hD hst hw8 hd (con q hg) (kk q) hP
theorem mv_cVwv {β : Type} {y : MethodName} {b : ByteArray} {mL n d' idx c ci : Nat} {rt : Option FieldType} {As stk : List Value} {T : u_T} {N : Nat} {g : Option (Unit × mt_St)} {kf : Unit → mt_St → Option β} {o : β} (hcal : mt_cal y b mL rt n) (hins : mt_ins y) (hml0 : mt_ml own idx y) (hr : mt_kd c = ci) (hci : ci < 7) (hcl : mt_cl[ci]? = some (y.cls, T, N)) (hn : As.length = n) (hD : d' + 1 ≤ d) (hst : stk = As.reverse ++ .ref (mt_adr (kG K) c) :: st) (hw8 : (st.map fun v => v.category).sum ≤ 8) (hd : decode cc pc = .ok (.invokevirtual idx, 3))
    (con : ∀ r σ1, g = some (r, σ1) → mt_Con (kl K) (kG K) y b mL rt d' (.ref (mt_adr (kG K) c) :: As) σ (none) σ1) (kk : ∀ r σ1, mt_V K cc own nL d σ1 (pc + 3) lv (st) (kf r σ1 = some o)) : mt_V K cc own nL d σ pc lv stk (mt_call g kf = some o) := by
  intro hP
  cases hg : g with
  | none => rw [hg] at hP; cases hP
  | some q => rw [hg] at hP; exact mv_cV0 hcal hins hml0 hr hci hcl hn hD hst hw8 hd (con q.1 q.2 hg) (kk q.1 q.2) hP
theorem mv_cSwi {β : Type} {y : MethodName} {b : ByteArray} {mL n d' idx : Nat} {rt : Option FieldType} {As stk : List Value} {g : Option (Int32 × mt_St)} {kf : Int32 → mt_St → Option β} {o : β} (hcal : mt_cal y b mL rt n) (hsta : Cond.static y ∈ lw_g) (hml0 : mt_ml own idx y) (hn : As.length = n) (hD : d' + 1 ≤ d) (hst : stk = As.reverse ++ st) (hw8 : (st.map fun v => v.category).sum ≤ 8) (hd : decode cc pc = .ok (.invokestatic idx, 3))
    (con : ∀ r σ1, g = some (r, σ1) → mt_Con (kl K) (kG K) y b mL rt d' As σ (some (.int r)) σ1) (kk : ∀ r σ1, mt_V K cc own nL d σ1 (pc + 3) lv (.int r :: st) (kf r σ1 = some o)) : mt_V K cc own nL d σ pc lv stk (mt_call g kf = some o) := by
  intro hP
  cases hg : g with
  | none => rw [hg] at hP; cases hP
  | some q => rw [hg] at hP; exact mv_cS0 hcal hsta hml0 hn hD hst hw8 hd (con q.1 q.2 hg) (kk q.1 q.2) hP
theorem mv_cSri {β : Type} {y : MethodName} {b : ByteArray} {mL n d' idx : Nat} {rt : Option FieldType} {As stk : List Value} {g : Option Int32} {kf : Int32 → Option β} {o : β} (hcal : mt_cal y b mL rt n) (hsta : Cond.static y ∈ lw_g) (hml0 : mt_ml own idx y) (hn : As.length = n) (hD : d' + 1 ≤ d) (hst : stk = As.reverse ++ st) (hw8 : (st.map fun v => v.category).sum ≤ 8) (hd : decode cc pc = .ok (.invokestatic idx, 3))
    (con : ∀ r, g = some r → mt_Con (kl K) (kG K) y b mL rt d' As σ (some (.int r)) σ) (kk : ∀ r, mt_V K cc own nL d σ (pc + 3) lv (.int r :: st) (kf r = some o)) : mt_V K cc own nL d σ pc lv stk (mt_ask g kf = some o) := by
  intro hP
  cases hg : g with
  | none => rw [hg] at hP; cases hP
  | some q => rw [hg] at hP; exact mv_cS0 hcal hsta hml0 hn hD hst hw8 hd (con q hg) (kk q) hP
theorem mv_cSwl {β : Type} {y : MethodName} {b : ByteArray} {mL n d' idx : Nat} {rt : Option FieldType} {As stk : List Value} {g : Option (Int64 × mt_St)} {kf : Int64 → mt_St → Option β} {o : β} (hcal : mt_cal y b mL rt n) (hsta : Cond.static y ∈ lw_g) (hml0 : mt_ml own idx y) (hn : As.length = n) (hD : d' + 1 ≤ d) (hst : stk = As.reverse ++ st) (hw8 : (st.map fun v => v.category).sum ≤ 8) (hd : decode cc pc = .ok (.invokestatic idx, 3))
    (con : ∀ r σ1, g = some (r, σ1) → mt_Con (kl K) (kG K) y b mL rt d' As σ (some (.long r)) σ1) (kk : ∀ r σ1, mt_V K cc own nL d σ1 (pc + 3) lv (.long r :: st) (kf r σ1 = some o)) : mt_V K cc own nL d σ pc lv stk (mt_call g kf = some o) := by
  intro hP
  cases hg : g with
  | none => rw [hg] at hP; cases hP
  | some q => rw [hg] at hP; exact mv_cS0 hcal hsta hml0 hn hD hst hw8 hd (con q.1 q.2 hg) (kk q.1 q.2) hP
theorem mv_cSrl {β : Type} {y : MethodName} {b : ByteArray} {mL n d' idx : Nat} {rt : Option FieldType} {As stk : List Value} {g : Option Int64} {kf : Int64 → Option β} {o : β} (hcal : mt_cal y b mL rt n) (hsta : Cond.static y ∈ lw_g) (hml0 : mt_ml own idx y) (hn : As.length = n) (hD : d' + 1 ≤ d) (hst : stk = As.reverse ++ st) (hw8 : (st.map fun v => v.category).sum ≤ 8) (hd : decode cc pc = .ok (.invokestatic idx, 3))
    (con : ∀ r, g = some r → mt_Con (kl K) (kG K) y b mL rt d' As σ (some (.long r)) σ) (kk : ∀ r, mt_V K cc own nL d σ (pc + 3) lv (.long r :: st) (kf r = some o)) : mt_V K cc own nL d σ pc lv stk (mt_ask g kf = some o) := by
  intro hP
  cases hg : g with
  | none => rw [hg] at hP; cases hP
  | some q => rw [hg] at hP; exact mv_cS0 hcal hsta hml0 hn hD hst hw8 hd (con q hg) (kk q) hP
theorem mv_cSwv {β : Type} {y : MethodName} {b : ByteArray} {mL n d' idx : Nat} {rt : Option FieldType} {As stk : List Value} {g : Option (Unit × mt_St)} {kf : Unit → mt_St → Option β} {o : β} (hcal : mt_cal y b mL rt n) (hsta : Cond.static y ∈ lw_g) (hml0 : mt_ml own idx y) (hn : As.length = n) (hD : d' + 1 ≤ d) (hst : stk = As.reverse ++ st) (hw8 : (st.map fun v => v.category).sum ≤ 8) (hd : decode cc pc = .ok (.invokestatic idx, 3))
    (con : ∀ r σ1, g = some (r, σ1) → mt_Con (kl K) (kG K) y b mL rt d' As σ (none) σ1) (kk : ∀ r σ1, mt_V K cc own nL d σ1 (pc + 3) lv (st) (kf r σ1 = some o)) : mt_V K cc own nL d σ pc lv stk (mt_call g kf = some o) := by
  intro hP
  cases hg : g with
  | none => rw [hg] at hP; cases hP
  | some q => rw [hg] at hP; exact mv_cS0 hcal hsta hml0 hn hD hst hw8 hd (con q.1 q.2 hg) (kk q.1 q.2) hP
theorem mt_con {l : Launch} {G : mt_G} {y : MethodName} {b : ByteArray} {mL d : Nat} {rt : Option FieldType} {As : List Value} {o : Option Value} {σ' : mt_St} (hy : plainName y.cls = true) (hlen : (lg_sl As).length ≤ mL) (body : ∀ K, kl K = l → kG K = G → mt_R K rt o σ' → mt_V K b y.cls mL d σ 0 (lv_args 0 As) [] True) : mt_Con l G y b mL rt d As σ o σ' := by
  refine Met.ofW (cc := b) (maxL := mL) (ret := rt) hy rfl ?_
  intro p e s m args below meth c s₁ B hml hv
  obtain ⟨rfl, hP, hK⟩ := hv
  have hts := atoms_spec (ws := Cond.code y b mL rt :: lw_g) B.pre
  have h := body (p, l, e, mt_rm d, s, m, As.toArray, below, meth, c, 0, 0, G, MQ below (mt_Qc G o σ') As.toArray s 0 0 (mt_A G)) rfl rfl ⟨rfl, B.returns, rfl, rfl⟩ trivial ⟨B.exec, B.bytes, hml, findClass_of_methodNamed B.named, fun w hw => hts w (List.mem_cons_of_mem _ hw), hK, ⟨Nat.le_refl _, Nat.le_refl _⟩, ⟨Nat.le_refl _, Nat.le_refl _⟩, B.notSynchronized⟩ s.heap [] _ hP va_S.rf (lv_entry As hlen)
  rw [lg_entry_eq]
  exact h
end MH
end
section
theorem kd_w1 : ∀ {w : Nat}, mt_kd w = 4 → mt_kd (w + 1) = 7 := fun {w} h => (show ∀ w, w < 68 → mt_kd w = 4 → mt_kd (w + 1) = 7 by decide) w (mt_lt h (by decide)) h
theorem kd_w2 : ∀ {w : Nat}, mt_kd w = 4 → mt_kd (w + 2) = 9 := fun {w} h => (show ∀ w, w < 68 → mt_kd w = 4 → mt_kd (w + 2) = 9 by decide) w (mt_lt h (by decide)) h
theorem kd_w3 : ∀ {w : Nat}, mt_kd w = 4 → mt_kd (w + 3) = 7 := fun {w} h => (show ∀ w, w < 68 → mt_kd w = 4 → mt_kd (w + 3) = 7 by decide) w (mt_lt h (by decide)) h
theorem ln_w1 : ∀ {w : Nat}, mt_kd w = 4 → mt_ln (w + 1) = 6 := fun {w} h => (show ∀ w, w < 68 → mt_kd w = 4 → mt_ln (w + 1) = 6 by decide) w (mt_lt h (by decide)) h
theorem ln_w2 : ∀ {w : Nat}, mt_kd w = 4 → mt_ln (w + 2) = 8 := fun {w} h => (show ∀ w, w < 68 → mt_kd w = 4 → mt_ln (w + 2) = 8 by decide) w (mt_lt h (by decide)) h
theorem ln_w3 : ∀ {w : Nat}, mt_kd w = 4 → mt_ln (w + 3) = 10 := fun {w} h => (show ∀ w, w < 68 → mt_kd w = 4 → mt_ln (w + 3) = 10 by decide) w (mt_lt h (by decide)) h
theorem kd_sh : ∀ {w : Nat}, mt_kd w = 1 → mt_kd (w + 4) = 7 := fun {w} h => (show ∀ w, w < 68 → mt_kd w = 1 → mt_kd (w + 4) = 7 by decide) w (mt_lt h (by decide)) h
theorem ln_sh : ∀ {w : Nat}, mt_kd w = 1 → mt_ln (w + 4) = 40 := fun {w} h => (show ∀ w, w < 68 → mt_kd w = 1 → mt_ln (w + 4) = 40 by decide) w (mt_lt h (by decide)) h
theorem mt_cl_lt {i : Int32} {n : Nat} (h : mt_in i n = true) : i.toNatClampNeg < n := by
  have := mt_in_iff.mp h
  exact Nat.not_le.mp fun q => this (Or.inr q)
theorem kd_tr {c : Nat} {i : Int32} (h : mt_kd c = 9) (hi : mt_in i 8 = true) : mt_kd (c + 2 + i.toNatClampNeg) = 3 := (show ∀ c, c < 68 → mt_kd c = 9 → ∀ j, j < 8 → mt_kd (c + 2 + j) = 3 by decide) c (mt_lt h (by decide)) h _ (mt_cl_lt hi)
theorem kd_st {c : Nat} {i : Int32} (h : mt_kd c = 10) (hi : mt_in i 4 = true) : mt_kd (c + 1 + i.toNatClampNeg) = 1 := (show ∀ c, c < 68 → mt_kd c = 10 → ∀ j, j < 4 → mt_kd (c + 1 + j) = 1 by decide) c (mt_lt h (by decide)) h _ (mt_cl_lt hi)
theorem st_lt {i : Int32} (hi : mt_in i 7 = true) : i.toNatClampNeg < 13 := Nat.lt_of_lt_of_le (mt_cl_lt hi) (by decide)
theorem mt_inc {x : Int32} {n : Int} {v : Int32} (h : Int32.ofInt n = v) : x + Int32.ofInt n = x + v := by rw [h]
section MF
variable {K : mt_C} {cc : ByteArray} {own : String} {nL d : Nat} {σ : mt_St} {pc : Nat} {lv : List (Nat × Value)} {st : List Value} {P : Prop}
theorem mg_X0_0 {idx : Nat} (hw : mt_fl own idx TX0 0) (hd : decode cc pc = .ok (.getfield idx, 3)) (kk : mt_V K cc own nL d σ (pc + 3) lv (.ref (mt_adr (kG K) 45) :: st) P) : mt_V K cc own nL d σ pc lv (.ref (mt_adr (kG K) 44) :: st) P :=
  mv_getf (ci := 0) (k := 0) rfl in_X0 (mt_lt (show mt_kd 44 = 0 from rfl) (by decide)) (mt_E0 (show mt_kd 44 = 0 from rfl)) (by decide) hw rfl hd kk
theorem mg_X0_1 {idx : Nat} (hw : mt_fl own idx TX0 1) (hd : decode cc pc = .ok (.getfield idx, 3)) (kk : mt_V K cc own nL d σ (pc + 3) lv (.int (σ 44 1) :: st) P) : mt_V K cc own nL d σ pc lv (.ref (mt_adr (kG K) 44) :: st) P :=
  mv_getf (ci := 0) (k := 1) rfl in_X0 (mt_lt (show mt_kd 44 = 0 from rfl) (by decide)) (mt_E0 (show mt_kd 44 = 0 from rfl)) (by decide) hw rfl hd kk
theorem mp_X0_1 {β : Type} {idx : Nat} {v : Int32} {kf : mt_St → Option β} {o : Option β} (hw : mt_fl own idx TX0 1) (hd : decode cc pc = .ok (.putfield idx, 3)) (kk : ∀ σ1, mt_V K cc own nL d σ1 (pc + 3) lv st (kf σ1 = o)) : mt_V K cc own nL d σ pc lv (.int v :: .ref (mt_adr (kG K) 44) :: st) (mt_bnd (mt_up σ 44 1 v) kf = o) :=
  mv_putf (ci := 0) (k := 1) (ty := .int) rfl in_X0 tyX0_ok nmX0 (mt_lt (show mt_kd 44 = 0 from rfl) (by decide)) (mt_E0 (show mt_kd 44 = 0 from rfl)) ((mt_E0 (show mt_kd 44 = 0 from rfl)).trans rfl) (by decide) hw rfl (tyX0_ok 1 (by decide)) rfl rfl (Nat.le_of_ble_eq_true rfl) hd kk
theorem mg_X0_2 {idx : Nat} (hw : mt_fl own idx TX0 2) (hd : decode cc pc = .ok (.getfield idx, 3)) (kk : mt_V K cc own nL d σ (pc + 3) lv (.int (σ 44 2) :: st) P) : mt_V K cc own nL d σ pc lv (.ref (mt_adr (kG K) 44) :: st) P :=
  mv_getf (ci := 0) (k := 2) rfl in_X0 (mt_lt (show mt_kd 44 = 0 from rfl) (by decide)) (mt_E0 (show mt_kd 44 = 0 from rfl)) (by decide) hw rfl hd kk
theorem mp_X0_2 {β : Type} {idx : Nat} {v : Int32} {kf : mt_St → Option β} {o : Option β} (hw : mt_fl own idx TX0 2) (hd : decode cc pc = .ok (.putfield idx, 3)) (kk : ∀ σ1, mt_V K cc own nL d σ1 (pc + 3) lv st (kf σ1 = o)) : mt_V K cc own nL d σ pc lv (.int v :: .ref (mt_adr (kG K) 44) :: st) (mt_bnd (mt_up σ 44 2 v) kf = o) :=
  mv_putf (ci := 0) (k := 2) (ty := .int) rfl in_X0 tyX0_ok nmX0 (mt_lt (show mt_kd 44 = 0 from rfl) (by decide)) (mt_E0 (show mt_kd 44 = 0 from rfl)) ((mt_E0 (show mt_kd 44 = 0 from rfl)).trans rfl) (by decide) hw rfl (tyX0_ok 2 (by decide)) rfl rfl (Nat.le_of_ble_eq_true rfl) hd kk
theorem mg_X0_3 {idx : Nat} (hw : mt_fl own idx TX0 3) (hd : decode cc pc = .ok (.getfield idx, 3)) (kk : mt_V K cc own nL d σ (pc + 3) lv (.int (σ 44 3) :: st) P) : mt_V K cc own nL d σ pc lv (.ref (mt_adr (kG K) 44) :: st) P :=
  mv_getf (ci := 0) (k := 3) rfl in_X0 (mt_lt (show mt_kd 44 = 0 from rfl) (by decide)) (mt_E0 (show mt_kd 44 = 0 from rfl)) (by decide) hw rfl hd kk
theorem mp_X0_3 {β : Type} {idx : Nat} {v : Int32} {kf : mt_St → Option β} {o : Option β} (hw : mt_fl own idx TX0 3) (hd : decode cc pc = .ok (.putfield idx, 3)) (kk : ∀ σ1, mt_V K cc own nL d σ1 (pc + 3) lv st (kf σ1 = o)) : mt_V K cc own nL d σ pc lv (.int v :: .ref (mt_adr (kG K) 44) :: st) (mt_bnd (mt_up σ 44 3 v) kf = o) :=
  mv_putf (ci := 0) (k := 3) (ty := .int) rfl in_X0 tyX0_ok nmX0 (mt_lt (show mt_kd 44 = 0 from rfl) (by decide)) (mt_E0 (show mt_kd 44 = 0 from rfl)) ((mt_E0 (show mt_kd 44 = 0 from rfl)).trans rfl) (by decide) hw rfl (tyX0_ok 3 (by decide)) rfl rfl (Nat.le_of_ble_eq_true rfl) hd kk
theorem mg_X0_4 {idx : Nat} (hw : mt_fl own idx TX0 4) (hd : decode cc pc = .ok (.getfield idx, 3)) (kk : mt_V K cc own nL d σ (pc + 3) lv (.int (σ 44 4) :: st) P) : mt_V K cc own nL d σ pc lv (.ref (mt_adr (kG K) 44) :: st) P :=
  mv_getf (ci := 0) (k := 4) rfl in_X0 (mt_lt (show mt_kd 44 = 0 from rfl) (by decide)) (mt_E0 (show mt_kd 44 = 0 from rfl)) (by decide) hw rfl hd kk
theorem mp_X0_4 {β : Type} {idx : Nat} {v : Int32} {kf : mt_St → Option β} {o : Option β} (hw : mt_fl own idx TX0 4) (hd : decode cc pc = .ok (.putfield idx, 3)) (kk : ∀ σ1, mt_V K cc own nL d σ1 (pc + 3) lv st (kf σ1 = o)) : mt_V K cc own nL d σ pc lv (.int v :: .ref (mt_adr (kG K) 44) :: st) (mt_bnd (mt_up σ 44 4 v) kf = o) :=
  mv_putf (ci := 0) (k := 4) (ty := .int) rfl in_X0 tyX0_ok nmX0 (mt_lt (show mt_kd 44 = 0 from rfl) (by decide)) (mt_E0 (show mt_kd 44 = 0 from rfl)) ((mt_E0 (show mt_kd 44 = 0 from rfl)).trans rfl) (by decide) hw rfl (tyX0_ok 4 (by decide)) rfl rfl (Nat.le_of_ble_eq_true rfl) hd kk
theorem mg_X0_5 {idx : Nat} (hw : mt_fl own idx TX0 5) (hd : decode cc pc = .ok (.getfield idx, 3)) (kk : mt_V K cc own nL d σ (pc + 3) lv (.int (σ 44 5) :: st) P) : mt_V K cc own nL d σ pc lv (.ref (mt_adr (kG K) 44) :: st) P :=
  mv_getf (ci := 0) (k := 5) rfl in_X0 (mt_lt (show mt_kd 44 = 0 from rfl) (by decide)) (mt_E0 (show mt_kd 44 = 0 from rfl)) (by decide) hw rfl hd kk
theorem mp_X0_5 {β : Type} {idx : Nat} {v : Int32} {kf : mt_St → Option β} {o : Option β} (hw : mt_fl own idx TX0 5) (hd : decode cc pc = .ok (.putfield idx, 3)) (kk : ∀ σ1, mt_V K cc own nL d σ1 (pc + 3) lv st (kf σ1 = o)) : mt_V K cc own nL d σ pc lv (.int v :: .ref (mt_adr (kG K) 44) :: st) (mt_bnd (mt_up σ 44 5 v) kf = o) :=
  mv_putf (ci := 0) (k := 5) (ty := .int) rfl in_X0 tyX0_ok nmX0 (mt_lt (show mt_kd 44 = 0 from rfl) (by decide)) (mt_E0 (show mt_kd 44 = 0 from rfl)) ((mt_E0 (show mt_kd 44 = 0 from rfl)).trans rfl) (by decide) hw rfl (tyX0_ok 5 (by decide)) rfl rfl (Nat.le_of_ble_eq_true rfl) hd kk
theorem mg_X1_0 {c : Nat} {idx : Nat} (hk : mt_kd c = 1) (hw : mt_fl own idx TX1 0) (hd : decode cc pc = .ok (.getfield idx, 3)) (kk : mt_V K cc own nL d σ (pc + 3) lv (.int (σ c 0) :: st) P) : mt_V K cc own nL d σ pc lv (.ref (mt_adr (kG K) c) :: st) P :=
  mv_getf (ci := 1) (k := 0) rfl in_X1 (mt_lt hk (by decide)) (mt_E1 hk) (by decide) hw rfl hd kk
theorem mp_X1_0 {β : Type} {c : Nat} {idx : Nat} {v : Int32} {kf : mt_St → Option β} {o : Option β} (hk : mt_kd c = 1) (hw : mt_fl own idx TX1 0) (hd : decode cc pc = .ok (.putfield idx, 3)) (kk : ∀ σ1, mt_V K cc own nL d σ1 (pc + 3) lv st (kf σ1 = o)) : mt_V K cc own nL d σ pc lv (.int v :: .ref (mt_adr (kG K) c) :: st) (mt_bnd (mt_up σ c 0 v) kf = o) :=
  mv_putf (ci := 1) (k := 0) (ty := .int) rfl in_X1 tyX1_ok nmX1 (mt_lt hk (by decide)) (mt_E1 hk) ((mt_E1 hk).trans rfl) (by decide) hw rfl (tyX1_ok 0 (by decide)) rfl rfl (Nat.le_of_ble_eq_true rfl) hd kk
theorem mg_X1_1 {c : Nat} {idx : Nat} (hk : mt_kd c = 1) (hw : mt_fl own idx TX1 1) (hd : decode cc pc = .ok (.getfield idx, 3)) (kk : mt_V K cc own nL d σ (pc + 3) lv (.int (σ c 1) :: st) P) : mt_V K cc own nL d σ pc lv (.ref (mt_adr (kG K) c) :: st) P :=
  mv_getf (ci := 1) (k := 1) rfl in_X1 (mt_lt hk (by decide)) (mt_E1 hk) (by decide) hw rfl hd kk
theorem mp_X1_1 {β : Type} {c : Nat} {idx : Nat} {v : Int32} {kf : mt_St → Option β} {o : Option β} (hk : mt_kd c = 1) (hw : mt_fl own idx TX1 1) (hd : decode cc pc = .ok (.putfield idx, 3)) (kk : ∀ σ1, mt_V K cc own nL d σ1 (pc + 3) lv st (kf σ1 = o)) : mt_V K cc own nL d σ pc lv (.int v :: .ref (mt_adr (kG K) c) :: st) (mt_bnd (mt_up σ c 1 v) kf = o) :=
  mv_putf (ci := 1) (k := 1) (ty := .int) rfl in_X1 tyX1_ok nmX1 (mt_lt hk (by decide)) (mt_E1 hk) ((mt_E1 hk).trans rfl) (by decide) hw rfl (tyX1_ok 1 (by decide)) rfl rfl (Nat.le_of_ble_eq_true rfl) hd kk
theorem mg_X1_2 {c : Nat} {idx : Nat} (hk : mt_kd c = 1) (hw : mt_fl own idx TX1 2) (hd : decode cc pc = .ok (.getfield idx, 3)) (kk : mt_V K cc own nL d σ (pc + 3) lv (.ref (mt_adr (kG K) (c + 4)) :: st) P) : mt_V K cc own nL d σ pc lv (.ref (mt_adr (kG K) c) :: st) P :=
  mv_getf (ci := 1) (k := 2) rfl in_X1 (mt_lt hk (by decide)) (mt_E1 hk) (by decide) hw rfl hd kk
theorem mg_X2_0 {idx : Nat} (hw : mt_fl own idx TX2 0) (hd : decode cc pc = .ok (.getfield idx, 3)) (kk : mt_V K cc own nL d σ (pc + 3) lv (.ref (mt_adr (kG K) 40) :: st) P) : mt_V K cc own nL d σ pc lv (.ref (mt_adr (kG K) 39) :: st) P :=
  mv_getf (ci := 2) (k := 0) rfl in_X2 (mt_lt (show mt_kd 39 = 2 from rfl) (by decide)) (mt_E2 (show mt_kd 39 = 2 from rfl)) (by decide) hw rfl hd kk
theorem mg_X2_1 {idx : Nat} (hw : mt_fl own idx TX2 1) (hd : decode cc pc = .ok (.getfield idx, 3)) (kk : mt_V K cc own nL d σ (pc + 3) lv (.ref (mt_adr (kG K) 41) :: st) P) : mt_V K cc own nL d σ pc lv (.ref (mt_adr (kG K) 39) :: st) P :=
  mv_getf (ci := 2) (k := 1) rfl in_X2 (mt_lt (show mt_kd 39 = 2 from rfl) (by decide)) (mt_E2 (show mt_kd 39 = 2 from rfl)) (by decide) hw rfl hd kk
theorem mg_X2_2 {idx : Nat} (hw : mt_fl own idx TX2 2) (hd : decode cc pc = .ok (.getfield idx, 3)) (kk : mt_V K cc own nL d σ (pc + 3) lv (.int (σ 39 2) :: st) P) : mt_V K cc own nL d σ pc lv (.ref (mt_adr (kG K) 39) :: st) P :=
  mv_getf (ci := 2) (k := 2) rfl in_X2 (mt_lt (show mt_kd 39 = 2 from rfl) (by decide)) (mt_E2 (show mt_kd 39 = 2 from rfl)) (by decide) hw rfl hd kk
theorem mp_X2_2 {β : Type} {idx : Nat} {v : Int32} {kf : mt_St → Option β} {o : Option β} (hw : mt_fl own idx TX2 2) (hd : decode cc pc = .ok (.putfield idx, 3)) (kk : ∀ σ1, mt_V K cc own nL d σ1 (pc + 3) lv st (kf σ1 = o)) : mt_V K cc own nL d σ pc lv (.int v :: .ref (mt_adr (kG K) 39) :: st) (mt_bnd (mt_up σ 39 2 v) kf = o) :=
  mv_putf (ci := 2) (k := 2) (ty := .int) rfl in_X2 tyX2_ok nmX2 (mt_lt (show mt_kd 39 = 2 from rfl) (by decide)) (mt_E2 (show mt_kd 39 = 2 from rfl)) ((mt_E2 (show mt_kd 39 = 2 from rfl)).trans rfl) (by decide) hw rfl (tyX2_ok 2 (by decide)) rfl rfl (Nat.le_of_ble_eq_true rfl) hd kk
theorem mg_X3_0 {c : Nat} {idx : Nat} (hk : mt_kd c = 3) (hw : mt_fl own idx TX3 0) (hd : decode cc pc = .ok (.getfield idx, 3)) (kk : mt_V K cc own nL d σ (pc + 3) lv (.int (σ c 0) :: st) P) : mt_V K cc own nL d σ pc lv (.ref (mt_adr (kG K) c) :: st) P :=
  mv_getf (ci := 3) (k := 0) rfl in_X3 (mt_lt hk (by decide)) (mt_E3 hk) (by decide) hw rfl hd kk
theorem mp_X3_0 {β : Type} {c : Nat} {idx : Nat} {v : Int32} {kf : mt_St → Option β} {o : Option β} (hk : mt_kd c = 3) (hw : mt_fl own idx TX3 0) (hd : decode cc pc = .ok (.putfield idx, 3)) (kk : ∀ σ1, mt_V K cc own nL d σ1 (pc + 3) lv st (kf σ1 = o)) : mt_V K cc own nL d σ pc lv (.int v :: .ref (mt_adr (kG K) c) :: st) (mt_bnd (mt_up σ c 0 v) kf = o) :=
  mv_putf (ci := 3) (k := 0) (ty := .int) rfl in_X3 tyX3_ok nmX3 (mt_lt hk (by decide)) (mt_E3 hk) ((mt_E3 hk).trans rfl) (by decide) hw rfl (tyX3_ok 0 (by decide)) rfl rfl (Nat.le_of_ble_eq_true rfl) hd kk
theorem mg_X3_1 {c : Nat} {idx : Nat} (hk : mt_kd c = 3) (hw : mt_fl own idx TX3 1) (hd : decode cc pc = .ok (.getfield idx, 3)) (kk : mt_V K cc own nL d σ (pc + 3) lv (.int (σ c 1) :: st) P) : mt_V K cc own nL d σ pc lv (.ref (mt_adr (kG K) c) :: st) P :=
  mv_getf (ci := 3) (k := 1) rfl in_X3 (mt_lt hk (by decide)) (mt_E3 hk) (by decide) hw rfl hd kk
theorem mp_X3_1 {β : Type} {c : Nat} {idx : Nat} {v : Int32} {kf : mt_St → Option β} {o : Option β} (hk : mt_kd c = 3) (hw : mt_fl own idx TX3 1) (hd : decode cc pc = .ok (.putfield idx, 3)) (kk : ∀ σ1, mt_V K cc own nL d σ1 (pc + 3) lv st (kf σ1 = o)) : mt_V K cc own nL d σ pc lv (.int v :: .ref (mt_adr (kG K) c) :: st) (mt_bnd (mt_up σ c 1 v) kf = o) :=
  mv_putf (ci := 3) (k := 1) (ty := .int) rfl in_X3 tyX3_ok nmX3 (mt_lt hk (by decide)) (mt_E3 hk) ((mt_E3 hk).trans rfl) (by decide) hw rfl (tyX3_ok 1 (by decide)) rfl rfl (Nat.le_of_ble_eq_true rfl) hd kk
theorem mg_X3_2 {c : Nat} {idx : Nat} (hk : mt_kd c = 3) (hw : mt_fl own idx TX3 2) (hd : decode cc pc = .ok (.getfield idx, 3)) (kk : mt_V K cc own nL d σ (pc + 3) lv (.int (σ c 2) :: st) P) : mt_V K cc own nL d σ pc lv (.ref (mt_adr (kG K) c) :: st) P :=
  mv_getf (ci := 3) (k := 2) rfl in_X3 (mt_lt hk (by decide)) (mt_E3 hk) (by decide) hw rfl hd kk
theorem mp_X3_2 {β : Type} {c : Nat} {idx : Nat} {v : Int32} {kf : mt_St → Option β} {o : Option β} (hk : mt_kd c = 3) (hw : mt_fl own idx TX3 2) (hd : decode cc pc = .ok (.putfield idx, 3)) (kk : ∀ σ1, mt_V K cc own nL d σ1 (pc + 3) lv st (kf σ1 = o)) : mt_V K cc own nL d σ pc lv (.int v :: .ref (mt_adr (kG K) c) :: st) (mt_bnd (mt_up σ c 2 v) kf = o) :=
  mv_putf (ci := 3) (k := 2) (ty := .int) rfl in_X3 tyX3_ok nmX3 (mt_lt hk (by decide)) (mt_E3 hk) ((mt_E3 hk).trans rfl) (by decide) hw rfl (tyX3_ok 2 (by decide)) rfl rfl (Nat.le_of_ble_eq_true rfl) hd kk
theorem mg_X3_3 {c : Nat} {idx : Nat} (hk : mt_kd c = 3) (hw : mt_fl own idx TX3 3) (hd : decode cc pc = .ok (.getfield idx, 3)) (kk : mt_V K cc own nL d σ (pc + 3) lv (.int (σ c 3) :: st) P) : mt_V K cc own nL d σ pc lv (.ref (mt_adr (kG K) c) :: st) P :=
  mv_getf (ci := 3) (k := 3) rfl in_X3 (mt_lt hk (by decide)) (mt_E3 hk) (by decide) hw rfl hd kk
theorem mp_X3_3 {β : Type} {c : Nat} {idx : Nat} {v : Int32} {kf : mt_St → Option β} {o : Option β} (hk : mt_kd c = 3) (hw : mt_fl own idx TX3 3) (hd : decode cc pc = .ok (.putfield idx, 3)) (kk : ∀ σ1, mt_V K cc own nL d σ1 (pc + 3) lv st (kf σ1 = o)) : mt_V K cc own nL d σ pc lv (.int v :: .ref (mt_adr (kG K) c) :: st) (mt_bnd (mt_up σ c 3 v) kf = o) :=
  mv_putf (ci := 3) (k := 3) (ty := .int) rfl in_X3 tyX3_ok nmX3 (mt_lt hk (by decide)) (mt_E3 hk) ((mt_E3 hk).trans rfl) (by decide) hw rfl (tyX3_ok 3 (by decide)) rfl rfl (Nat.le_of_ble_eq_true rfl) hd kk
theorem mg_X3_4 {c : Nat} {idx : Nat} (hk : mt_kd c = 3) (hw : mt_fl own idx TX3 4) (hd : decode cc pc = .ok (.getfield idx, 3)) (kk : mt_V K cc own nL d σ (pc + 3) lv (.int (σ c 4) :: st) P) : mt_V K cc own nL d σ pc lv (.ref (mt_adr (kG K) c) :: st) P :=
  mv_getf (ci := 3) (k := 4) rfl in_X3 (mt_lt hk (by decide)) (mt_E3 hk) (by decide) hw rfl hd kk
theorem mp_X3_4 {β : Type} {c : Nat} {idx : Nat} {v : Int32} {kf : mt_St → Option β} {o : Option β} (hk : mt_kd c = 3) (hw : mt_fl own idx TX3 4) (hd : decode cc pc = .ok (.putfield idx, 3)) (kk : ∀ σ1, mt_V K cc own nL d σ1 (pc + 3) lv st (kf σ1 = o)) : mt_V K cc own nL d σ pc lv (.int v :: .ref (mt_adr (kG K) c) :: st) (mt_bnd (mt_up σ c 4 v) kf = o) :=
  mv_putf (ci := 3) (k := 4) (ty := .int) rfl in_X3 tyX3_ok nmX3 (mt_lt hk (by decide)) (mt_E3 hk) ((mt_E3 hk).trans rfl) (by decide) hw rfl (tyX3_ok 4 (by decide)) rfl rfl (Nat.le_of_ble_eq_true rfl) hd kk
theorem mg_X3_5 {c : Nat} {idx : Nat} (hk : mt_kd c = 3) (hw : mt_fl own idx TX3 5) (hd : decode cc pc = .ok (.getfield idx, 3)) (kk : mt_V K cc own nL d σ (pc + 3) lv (.int (σ c 5) :: st) P) : mt_V K cc own nL d σ pc lv (.ref (mt_adr (kG K) c) :: st) P :=
  mv_getf (ci := 3) (k := 5) rfl in_X3 (mt_lt hk (by decide)) (mt_E3 hk) (by decide) hw rfl hd kk
theorem mp_X3_5 {β : Type} {c : Nat} {idx : Nat} {v : Int32} {kf : mt_St → Option β} {o : Option β} (hk : mt_kd c = 3) (hw : mt_fl own idx TX3 5) (hd : decode cc pc = .ok (.putfield idx, 3)) (kk : ∀ σ1, mt_V K cc own nL d σ1 (pc + 3) lv st (kf σ1 = o)) : mt_V K cc own nL d σ pc lv (.int v :: .ref (mt_adr (kG K) c) :: st) (mt_bnd (mt_up σ c 5 v) kf = o) :=
  mv_putf (ci := 3) (k := 5) (ty := .int) rfl in_X3 tyX3_ok nmX3 (mt_lt hk (by decide)) (mt_E3 hk) ((mt_E3 hk).trans rfl) (by decide) hw rfl (tyX3_ok 5 (by decide)) rfl rfl (Nat.le_of_ble_eq_true rfl) hd kk
theorem mg_X3_6 {c : Nat} {idx : Nat} (hk : mt_kd c = 3) (hw : mt_fl own idx TX3 6) (hd : decode cc pc = .ok (.getfield idx, 3)) (kk : mt_V K cc own nL d σ (pc + 3) lv (.int (σ c 6) :: st) P) : mt_V K cc own nL d σ pc lv (.ref (mt_adr (kG K) c) :: st) P :=
  mv_getf (ci := 3) (k := 6) rfl in_X3 (mt_lt hk (by decide)) (mt_E3 hk) (by decide) hw rfl hd kk
theorem mp_X3_6 {β : Type} {c : Nat} {idx : Nat} {v : Int32} {kf : mt_St → Option β} {o : Option β} (hk : mt_kd c = 3) (hw : mt_fl own idx TX3 6) (hd : decode cc pc = .ok (.putfield idx, 3)) (kk : ∀ σ1, mt_V K cc own nL d σ1 (pc + 3) lv st (kf σ1 = o)) : mt_V K cc own nL d σ pc lv (.int v :: .ref (mt_adr (kG K) c) :: st) (mt_bnd (mt_up σ c 6 v) kf = o) :=
  mv_putf (ci := 3) (k := 6) (ty := .int) rfl in_X3 tyX3_ok nmX3 (mt_lt hk (by decide)) (mt_E3 hk) ((mt_E3 hk).trans rfl) (by decide) hw rfl (tyX3_ok 6 (by decide)) rfl rfl (Nat.le_of_ble_eq_true rfl) hd kk
theorem mg_X3_7 {c : Nat} {idx : Nat} (hk : mt_kd c = 3) (hw : mt_fl own idx TX3 7) (hd : decode cc pc = .ok (.getfield idx, 3)) (kk : mt_V K cc own nL d σ (pc + 3) lv (.int (σ c 7) :: st) P) : mt_V K cc own nL d σ pc lv (.ref (mt_adr (kG K) c) :: st) P :=
  mv_getf (ci := 3) (k := 7) rfl in_X3 (mt_lt hk (by decide)) (mt_E3 hk) (by decide) hw rfl hd kk
theorem mp_X3_7 {β : Type} {c : Nat} {idx : Nat} {v : Int32} {kf : mt_St → Option β} {o : Option β} (hk : mt_kd c = 3) (hw : mt_fl own idx TX3 7) (hd : decode cc pc = .ok (.putfield idx, 3)) (kk : ∀ σ1, mt_V K cc own nL d σ1 (pc + 3) lv st (kf σ1 = o)) : mt_V K cc own nL d σ pc lv (.int v :: .ref (mt_adr (kG K) c) :: st) (mt_bnd (mt_up σ c 7 v) kf = o) :=
  mv_putf (ci := 3) (k := 7) (ty := .int) rfl in_X3 tyX3_ok nmX3 (mt_lt hk (by decide)) (mt_E3 hk) ((mt_E3 hk).trans rfl) (by decide) hw rfl (tyX3_ok 7 (by decide)) rfl rfl (Nat.le_of_ble_eq_true rfl) hd kk
theorem mg_X4_0 {c : Nat} {idx : Nat} (hk : mt_kd c = 4) (hw : mt_fl own idx TX4 0) (hd : decode cc pc = .ok (.getfield idx, 3)) (kk : mt_V K cc own nL d σ (pc + 3) lv (.int (σ c 0) :: st) P) : mt_V K cc own nL d σ pc lv (.ref (mt_adr (kG K) c) :: st) P :=
  mv_getf (ci := 4) (k := 0) rfl in_X4 (mt_lt hk (by decide)) (mt_E4 hk) (by decide) hw rfl hd kk
theorem mp_X4_0 {β : Type} {c : Nat} {idx : Nat} {v : Int32} {kf : mt_St → Option β} {o : Option β} (hk : mt_kd c = 4) (hw : mt_fl own idx TX4 0) (hd : decode cc pc = .ok (.putfield idx, 3)) (kk : ∀ σ1, mt_V K cc own nL d σ1 (pc + 3) lv st (kf σ1 = o)) : mt_V K cc own nL d σ pc lv (.int v :: .ref (mt_adr (kG K) c) :: st) (mt_bnd (mt_up σ c 0 v) kf = o) :=
  mv_putf (ci := 4) (k := 0) (ty := .int) rfl in_X4 tyX4_ok nmX4 (mt_lt hk (by decide)) (mt_E4 hk) ((mt_E4 hk).trans rfl) (by decide) hw rfl (tyX4_ok 0 (by decide)) rfl rfl (Nat.le_of_ble_eq_true rfl) hd kk
theorem mg_X4_1 {c : Nat} {idx : Nat} (hk : mt_kd c = 4) (hw : mt_fl own idx TX4 1) (hd : decode cc pc = .ok (.getfield idx, 3)) (kk : mt_V K cc own nL d σ (pc + 3) lv (.int (σ c 1) :: st) P) : mt_V K cc own nL d σ pc lv (.ref (mt_adr (kG K) c) :: st) P :=
  mv_getf (ci := 4) (k := 1) rfl in_X4 (mt_lt hk (by decide)) (mt_E4 hk) (by decide) hw rfl hd kk
theorem mp_X4_1 {β : Type} {c : Nat} {idx : Nat} {v : Int32} {kf : mt_St → Option β} {o : Option β} (hk : mt_kd c = 4) (hw : mt_fl own idx TX4 1) (hd : decode cc pc = .ok (.putfield idx, 3)) (kk : ∀ σ1, mt_V K cc own nL d σ1 (pc + 3) lv st (kf σ1 = o)) : mt_V K cc own nL d σ pc lv (.int v :: .ref (mt_adr (kG K) c) :: st) (mt_bnd (mt_up σ c 1 v) kf = o) :=
  mv_putf (ci := 4) (k := 1) (ty := .int) rfl in_X4 tyX4_ok nmX4 (mt_lt hk (by decide)) (mt_E4 hk) ((mt_E4 hk).trans rfl) (by decide) hw rfl (tyX4_ok 1 (by decide)) rfl rfl (Nat.le_of_ble_eq_true rfl) hd kk
theorem mg_X4_2 {c : Nat} {idx : Nat} (hk : mt_kd c = 4) (hw : mt_fl own idx TX4 2) (hd : decode cc pc = .ok (.getfield idx, 3)) (kk : mt_V K cc own nL d σ (pc + 3) lv (.ref (mt_adr (kG K) (c + 1)) :: st) P) : mt_V K cc own nL d σ pc lv (.ref (mt_adr (kG K) c) :: st) P :=
  mv_getf (ci := 4) (k := 2) rfl in_X4 (mt_lt hk (by decide)) (mt_E4 hk) (by decide) hw rfl hd kk
theorem mg_X4_3 {c : Nat} {idx : Nat} (hk : mt_kd c = 4) (hw : mt_fl own idx TX4 3) (hd : decode cc pc = .ok (.getfield idx, 3)) (kk : mt_V K cc own nL d σ (pc + 3) lv (.int (σ c 3) :: st) P) : mt_V K cc own nL d σ pc lv (.ref (mt_adr (kG K) c) :: st) P :=
  mv_getf (ci := 4) (k := 3) rfl in_X4 (mt_lt hk (by decide)) (mt_E4 hk) (by decide) hw rfl hd kk
theorem mp_X4_3 {β : Type} {c : Nat} {idx : Nat} {v : Int32} {kf : mt_St → Option β} {o : Option β} (hk : mt_kd c = 4) (hw : mt_fl own idx TX4 3) (hd : decode cc pc = .ok (.putfield idx, 3)) (kk : ∀ σ1, mt_V K cc own nL d σ1 (pc + 3) lv st (kf σ1 = o)) : mt_V K cc own nL d σ pc lv (.int v :: .ref (mt_adr (kG K) c) :: st) (mt_bnd (mt_up σ c 3 v) kf = o) :=
  mv_putf (ci := 4) (k := 3) (ty := .int) rfl in_X4 tyX4_ok nmX4 (mt_lt hk (by decide)) (mt_E4 hk) ((mt_E4 hk).trans rfl) (by decide) hw rfl (tyX4_ok 3 (by decide)) rfl rfl (Nat.le_of_ble_eq_true rfl) hd kk
theorem mg_X4_4 {c : Nat} {idx : Nat} (hk : mt_kd c = 4) (hw : mt_fl own idx TX4 4) (hd : decode cc pc = .ok (.getfield idx, 3)) (kk : mt_V K cc own nL d σ (pc + 3) lv (.int (σ c 4) :: st) P) : mt_V K cc own nL d σ pc lv (.ref (mt_adr (kG K) c) :: st) P :=
  mv_getf (ci := 4) (k := 4) rfl in_X4 (mt_lt hk (by decide)) (mt_E4 hk) (by decide) hw rfl hd kk
theorem mp_X4_4 {β : Type} {c : Nat} {idx : Nat} {v : Int32} {kf : mt_St → Option β} {o : Option β} (hk : mt_kd c = 4) (hw : mt_fl own idx TX4 4) (hd : decode cc pc = .ok (.putfield idx, 3)) (kk : ∀ σ1, mt_V K cc own nL d σ1 (pc + 3) lv st (kf σ1 = o)) : mt_V K cc own nL d σ pc lv (.int v :: .ref (mt_adr (kG K) c) :: st) (mt_bnd (mt_up σ c 4 v) kf = o) :=
  mv_putf (ci := 4) (k := 4) (ty := .int) rfl in_X4 tyX4_ok nmX4 (mt_lt hk (by decide)) (mt_E4 hk) ((mt_E4 hk).trans rfl) (by decide) hw rfl (tyX4_ok 4 (by decide)) rfl rfl (Nat.le_of_ble_eq_true rfl) hd kk
theorem mg_X4_5 {c : Nat} {idx : Nat} (hk : mt_kd c = 4) (hw : mt_fl own idx TX4 5) (hd : decode cc pc = .ok (.getfield idx, 3)) (kk : mt_V K cc own nL d σ (pc + 3) lv (.int (σ c 5) :: st) P) : mt_V K cc own nL d σ pc lv (.ref (mt_adr (kG K) c) :: st) P :=
  mv_getf (ci := 4) (k := 5) rfl in_X4 (mt_lt hk (by decide)) (mt_E4 hk) (by decide) hw rfl hd kk
theorem mp_X4_5 {β : Type} {c : Nat} {idx : Nat} {v : Int32} {kf : mt_St → Option β} {o : Option β} (hk : mt_kd c = 4) (hw : mt_fl own idx TX4 5) (hd : decode cc pc = .ok (.putfield idx, 3)) (kk : ∀ σ1, mt_V K cc own nL d σ1 (pc + 3) lv st (kf σ1 = o)) : mt_V K cc own nL d σ pc lv (.int v :: .ref (mt_adr (kG K) c) :: st) (mt_bnd (mt_up σ c 5 v) kf = o) :=
  mv_putf (ci := 4) (k := 5) (ty := .int) rfl in_X4 tyX4_ok nmX4 (mt_lt hk (by decide)) (mt_E4 hk) ((mt_E4 hk).trans rfl) (by decide) hw rfl (tyX4_ok 5 (by decide)) rfl rfl (Nat.le_of_ble_eq_true rfl) hd kk
theorem mg_X4_6 {c : Nat} {idx : Nat} (hk : mt_kd c = 4) (hw : mt_fl own idx TX4 6) (hd : decode cc pc = .ok (.getfield idx, 3)) (kk : mt_V K cc own nL d σ (pc + 3) lv (.ref (mt_adr (kG K) (c + 2)) :: st) P) : mt_V K cc own nL d σ pc lv (.ref (mt_adr (kG K) c) :: st) P :=
  mv_getf (ci := 4) (k := 6) rfl in_X4 (mt_lt hk (by decide)) (mt_E4 hk) (by decide) hw rfl hd kk
theorem mg_X4_7 {c : Nat} {idx : Nat} (hk : mt_kd c = 4) (hw : mt_fl own idx TX4 7) (hd : decode cc pc = .ok (.getfield idx, 3)) (kk : mt_V K cc own nL d σ (pc + 3) lv (.int (σ c 7) :: st) P) : mt_V K cc own nL d σ pc lv (.ref (mt_adr (kG K) c) :: st) P :=
  mv_getf (ci := 4) (k := 7) rfl in_X4 (mt_lt hk (by decide)) (mt_E4 hk) (by decide) hw rfl hd kk
theorem mp_X4_7 {β : Type} {c : Nat} {idx : Nat} {v : Int32} {kf : mt_St → Option β} {o : Option β} (hk : mt_kd c = 4) (hw : mt_fl own idx TX4 7) (hd : decode cc pc = .ok (.putfield idx, 3)) (kk : ∀ σ1, mt_V K cc own nL d σ1 (pc + 3) lv st (kf σ1 = o)) : mt_V K cc own nL d σ pc lv (.int v :: .ref (mt_adr (kG K) c) :: st) (mt_bnd (mt_up σ c 7 v) kf = o) :=
  mv_putf (ci := 4) (k := 7) (ty := .int) rfl in_X4 tyX4_ok nmX4 (mt_lt hk (by decide)) (mt_E4 hk) ((mt_E4 hk).trans rfl) (by decide) hw rfl (tyX4_ok 7 (by decide)) rfl rfl (Nat.le_of_ble_eq_true rfl) hd kk
theorem mg_X4_8 {c : Nat} {idx : Nat} (hk : mt_kd c = 4) (hw : mt_fl own idx TX4 8) (hd : decode cc pc = .ok (.getfield idx, 3)) (kk : mt_V K cc own nL d σ (pc + 3) lv (.ref (mt_adr (kG K) (c + 3)) :: st) P) : mt_V K cc own nL d σ pc lv (.ref (mt_adr (kG K) c) :: st) P :=
  mv_getf (ci := 4) (k := 8) rfl in_X4 (mt_lt hk (by decide)) (mt_E4 hk) (by decide) hw rfl hd kk
theorem mg_X5_0 {idx : Nat} (hw : mt_fl own idx TX5 0) (hd : decode cc pc = .ok (.getfield idx, 3)) (kk : mt_V K cc own nL d σ (pc + 3) lv (.ref (mt_adr (kG K) 1) :: st) P) : mt_V K cc own nL d σ pc lv (.ref (mt_adr (kG K) 0) :: st) P :=
  mv_getf (ci := 5) (k := 0) rfl in_X5 (mt_lt (show mt_kd 0 = 5 from rfl) (by decide)) (mt_E5 (show mt_kd 0 = 5 from rfl)) (by decide) hw rfl hd kk
theorem mg_X5_1 {idx : Nat} (hw : mt_fl own idx TX5 1) (hd : decode cc pc = .ok (.getfield idx, 3)) (kk : mt_V K cc own nL d σ (pc + 3) lv (.ref (mt_adr (kG K) 13) :: st) P) : mt_V K cc own nL d σ pc lv (.ref (mt_adr (kG K) 0) :: st) P :=
  mv_getf (ci := 5) (k := 1) rfl in_X5 (mt_lt (show mt_kd 0 = 5 from rfl) (by decide)) (mt_E5 (show mt_kd 0 = 5 from rfl)) (by decide) hw rfl hd kk
theorem mg_X5_2 {idx : Nat} (hw : mt_fl own idx TX5 2) (hd : decode cc pc = .ok (.getfield idx, 3)) (kk : mt_V K cc own nL d σ (pc + 3) lv (.int (σ 0 2) :: st) P) : mt_V K cc own nL d σ pc lv (.ref (mt_adr (kG K) 0) :: st) P :=
  mv_getf (ci := 5) (k := 2) rfl in_X5 (mt_lt (show mt_kd 0 = 5 from rfl) (by decide)) (mt_E5 (show mt_kd 0 = 5 from rfl)) (by decide) hw rfl hd kk
theorem mz_X5_2 {β : Type} {idx : Nat} {v : Int32} {kf : mt_St → Option β} {o : Option β} (hb : mt_b01 v = true) (hw : mt_fl own idx TX5 2) (hd : decode cc pc = .ok (.putfield idx, 3)) (kk : ∀ σ1, mt_V K cc own nL d σ1 (pc + 3) lv st (kf σ1 = o)) : mt_V K cc own nL d σ pc lv (.int v :: .ref (mt_adr (kG K) 0) :: st) (mt_bnd (mt_up σ 0 2 v) kf = o) :=
  mv_putf (ci := 5) (k := 2) (ty := .boolean) rfl in_X5 tyX5_ok nmX5 (mt_lt (show mt_kd 0 = 5 from rfl) (by decide)) (mt_E5 (show mt_kd 0 = 5 from rfl)) ((mt_E5 (show mt_kd 0 = 5 from rfl)).trans rfl) (by decide) hw rfl (tyX5_ok 2 (by decide)) (mt_n01 hb).1 (mt_n01 hb).2 (Nat.le_of_ble_eq_true rfl) hd kk
theorem mzc_X5_2 {β : Type} {idx : Nat} {v : Int32} {kf : mt_St → Option β} {o : β} (hw : mt_fl own idx TX5 2) (hd : decode cc pc = .ok (.putfield idx, 3)) (kk : ∀ σ1, mt_V K cc own nL d σ1 (pc + 3) lv st (kf σ1 = some o)) : mt_V K cc own nL d σ pc lv (.int v :: .ref (mt_adr (kG K) 0) :: st) (mt_chk (mt_b01 v) (mt_bnd (mt_up σ 0 2 v) kf) = some o) :=
  fun hP => mz_X5_2 (mt_somE hP).1 hw hd kk (mt_somE hP).2
theorem mg_X5_3 {idx : Nat} (hw : mt_fl own idx TX5 3) (hd : decode cc pc = .ok (.getfield idx, 3)) (kk : mt_V K cc own nL d σ (pc + 3) lv (.ref (mt_adr (kG K) 25) :: st) P) : mt_V K cc own nL d σ pc lv (.ref (mt_adr (kG K) 0) :: st) P :=
  mv_getf (ci := 5) (k := 3) rfl in_X5 (mt_lt (show mt_kd 0 = 5 from rfl) (by decide)) (mt_E5 (show mt_kd 0 = 5 from rfl)) (by decide) hw rfl hd kk
theorem mg_X5_4 {idx : Nat} (hw : mt_fl own idx TX5 4) (hd : decode cc pc = .ok (.getfield idx, 3)) (kk : mt_V K cc own nL d σ (pc + 3) lv (.ref (mt_adr (kG K) 37) :: st) P) : mt_V K cc own nL d σ pc lv (.ref (mt_adr (kG K) 0) :: st) P :=
  mv_getf (ci := 5) (k := 4) rfl in_X5 (mt_lt (show mt_kd 0 = 5 from rfl) (by decide)) (mt_E5 (show mt_kd 0 = 5 from rfl)) (by decide) hw rfl hd kk
theorem mg_X5_5 {idx : Nat} (hw : mt_fl own idx TX5 5) (hd : decode cc pc = .ok (.getfield idx, 3)) (kk : mt_V K cc own nL d σ (pc + 3) lv (.ref (mt_adr (kG K) 38) :: st) P) : mt_V K cc own nL d σ pc lv (.ref (mt_adr (kG K) 0) :: st) P :=
  mv_getf (ci := 5) (k := 5) rfl in_X5 (mt_lt (show mt_kd 0 = 5 from rfl) (by decide)) (mt_E5 (show mt_kd 0 = 5 from rfl)) (by decide) hw rfl hd kk
theorem mg_X5_6 {idx : Nat} (hw : mt_fl own idx TX5 6) (hd : decode cc pc = .ok (.getfield idx, 3)) (kk : mt_V K cc own nL d σ (pc + 3) lv (.ref (mt_adr (kG K) 39) :: st) P) : mt_V K cc own nL d σ pc lv (.ref (mt_adr (kG K) 0) :: st) P :=
  mv_getf (ci := 5) (k := 6) rfl in_X5 (mt_lt (show mt_kd 0 = 5 from rfl) (by decide)) (mt_E5 (show mt_kd 0 = 5 from rfl)) (by decide) hw rfl hd kk
theorem mg_X5_7 {idx : Nat} (hw : mt_fl own idx TX5 7) (hd : decode cc pc = .ok (.getfield idx, 3)) (kk : mt_V K cc own nL d σ (pc + 3) lv (.ref (mt_adr (kG K) 42) :: st) P) : mt_V K cc own nL d σ pc lv (.ref (mt_adr (kG K) 0) :: st) P :=
  mv_getf (ci := 5) (k := 7) rfl in_X5 (mt_lt (show mt_kd 0 = 5 from rfl) (by decide)) (mt_E5 (show mt_kd 0 = 5 from rfl)) (by decide) hw rfl hd kk
theorem mg_X5_8 {idx : Nat} (hw : mt_fl own idx TX5 8) (hd : decode cc pc = .ok (.getfield idx, 3)) (kk : mt_V K cc own nL d σ (pc + 3) lv (.ref (mt_adr (kG K) 43) :: st) P) : mt_V K cc own nL d σ pc lv (.ref (mt_adr (kG K) 0) :: st) P :=
  mv_getf (ci := 5) (k := 8) rfl in_X5 (mt_lt (show mt_kd 0 = 5 from rfl) (by decide)) (mt_E5 (show mt_kd 0 = 5 from rfl)) (by decide) hw rfl hd kk
theorem mg_X5_9 {idx : Nat} (hw : mt_fl own idx TX5 9) (hd : decode cc pc = .ok (.getfield idx, 3)) (kk : mt_V K cc own nL d σ (pc + 3) lv (.ref (mt_adr (kG K) 44) :: st) P) : mt_V K cc own nL d σ pc lv (.ref (mt_adr (kG K) 0) :: st) P :=
  mv_getf (ci := 5) (k := 9) rfl in_X5 (mt_lt (show mt_kd 0 = 5 from rfl) (by decide)) (mt_E5 (show mt_kd 0 = 5 from rfl)) (by decide) hw rfl hd kk
theorem mg_X5_10 {idx : Nat} (hw : mt_fl own idx TX5 10) (hd : decode cc pc = .ok (.getfield idx, 3)) (kk : mt_V K cc own nL d σ (pc + 3) lv (.ref (mt_adr (kG K) 46) :: st) P) : mt_V K cc own nL d σ pc lv (.ref (mt_adr (kG K) 0) :: st) P :=
  mv_getf (ci := 5) (k := 10) rfl in_X5 (mt_lt (show mt_kd 0 = 5 from rfl) (by decide)) (mt_E5 (show mt_kd 0 = 5 from rfl)) (by decide) hw rfl hd kk
theorem mg_X5_11 {idx : Nat} (hw : mt_fl own idx TX5 11) (hd : decode cc pc = .ok (.getfield idx, 3)) (kk : mt_V K cc own nL d σ (pc + 3) lv (.ref (mt_adr (kG K) 55) :: st) P) : mt_V K cc own nL d σ pc lv (.ref (mt_adr (kG K) 0) :: st) P :=
  mv_getf (ci := 5) (k := 11) rfl in_X5 (mt_lt (show mt_kd 0 = 5 from rfl) (by decide)) (mt_E5 (show mt_kd 0 = 5 from rfl)) (by decide) hw rfl hd kk
theorem mg_X6_0 {idx : Nat} (hw : mt_fl own idx TX6 0) (hd : decode cc pc = .ok (.getfield idx, 3)) (kk : mt_V K cc own nL d σ (pc + 3) lv (.ref (mt_adr (kG K) 57) :: st) P) : mt_V K cc own nL d σ pc lv (.ref (mt_adr (kG K) 56) :: st) P :=
  mv_getf (ci := 6) (k := 0) rfl in_X6 (mt_lt (show mt_kd 56 = 6 from rfl) (by decide)) (mt_E6 (show mt_kd 56 = 6 from rfl)) (by decide) hw rfl hd kk
theorem mg_X6_1 {idx : Nat} (hw : mt_fl own idx TX6 1) (hd : decode cc pc = .ok (.getfield idx, 3)) (kk : mt_V K cc own nL d σ (pc + 3) lv (.ref (mt_adr (kG K) 58) :: st) P) : mt_V K cc own nL d σ pc lv (.ref (mt_adr (kG K) 56) :: st) P :=
  mv_getf (ci := 6) (k := 1) rfl in_X6 (mt_lt (show mt_kd 56 = 6 from rfl) (by decide)) (mt_E6 (show mt_kd 56 = 6 from rfl)) (by decide) hw rfl hd kk
theorem mg_X6_2 {idx : Nat} (hw : mt_fl own idx TX6 2) (hd : decode cc pc = .ok (.getfield idx, 3)) (kk : mt_V K cc own nL d σ (pc + 3) lv (.ref (mt_adr (kG K) 59) :: st) P) : mt_V K cc own nL d σ pc lv (.ref (mt_adr (kG K) 56) :: st) P :=
  mv_getf (ci := 6) (k := 2) rfl in_X6 (mt_lt (show mt_kd 56 = 6 from rfl) (by decide)) (mt_E6 (show mt_kd 56 = 6 from rfl)) (by decide) hw rfl hd kk
theorem mg_X6_3 {idx : Nat} (hw : mt_fl own idx TX6 3) (hd : decode cc pc = .ok (.getfield idx, 3)) (kk : mt_V K cc own nL d σ (pc + 3) lv (.int (σ 56 3) :: st) P) : mt_V K cc own nL d σ pc lv (.ref (mt_adr (kG K) 56) :: st) P :=
  mv_getf (ci := 6) (k := 3) rfl in_X6 (mt_lt (show mt_kd 56 = 6 from rfl) (by decide)) (mt_E6 (show mt_kd 56 = 6 from rfl)) (by decide) hw rfl hd kk
theorem mz_X6_3 {β : Type} {idx : Nat} {v : Int32} {kf : mt_St → Option β} {o : Option β} (hb : mt_b01 v = true) (hw : mt_fl own idx TX6 3) (hd : decode cc pc = .ok (.putfield idx, 3)) (kk : ∀ σ1, mt_V K cc own nL d σ1 (pc + 3) lv st (kf σ1 = o)) : mt_V K cc own nL d σ pc lv (.int v :: .ref (mt_adr (kG K) 56) :: st) (mt_bnd (mt_up σ 56 3 v) kf = o) :=
  mv_putf (ci := 6) (k := 3) (ty := .boolean) rfl in_X6 tyX6_ok nmX6 (mt_lt (show mt_kd 56 = 6 from rfl) (by decide)) (mt_E6 (show mt_kd 56 = 6 from rfl)) ((mt_E6 (show mt_kd 56 = 6 from rfl)).trans rfl) (by decide) hw rfl (tyX6_ok 3 (by decide)) (mt_n01 hb).1 (mt_n01 hb).2 (Nat.le_of_ble_eq_true rfl) hd kk
theorem mzc_X6_3 {β : Type} {idx : Nat} {v : Int32} {kf : mt_St → Option β} {o : β} (hw : mt_fl own idx TX6 3) (hd : decode cc pc = .ok (.putfield idx, 3)) (kk : ∀ σ1, mt_V K cc own nL d σ1 (pc + 3) lv st (kf σ1 = some o)) : mt_V K cc own nL d σ pc lv (.int v :: .ref (mt_adr (kG K) 56) :: st) (mt_chk (mt_b01 v) (mt_bnd (mt_up σ 56 3 v) kf) = some o) :=
  fun hP => mz_X6_3 (mt_somE hP).1 hw hd kk (mt_somE hP).2
theorem mg_X6_4 {idx : Nat} (hw : mt_fl own idx TX6 4) (hd : decode cc pc = .ok (.getfield idx, 3)) (kk : mt_V K cc own nL d σ (pc + 3) lv (.ref (mt_adr (kG K) 60) :: st) P) : mt_V K cc own nL d σ pc lv (.ref (mt_adr (kG K) 56) :: st) P :=
  mv_getf (ci := 6) (k := 4) rfl in_X6 (mt_lt (show mt_kd 56 = 6 from rfl) (by decide)) (mt_E6 (show mt_kd 56 = 6 from rfl)) (by decide) hw rfl hd kk
theorem mg_X6_5 {idx : Nat} (hw : mt_fl own idx TX6 5) (hd : decode cc pc = .ok (.getfield idx, 3)) (kk : mt_V K cc own nL d σ (pc + 3) lv (.int (σ 56 5) :: st) P) : mt_V K cc own nL d σ pc lv (.ref (mt_adr (kG K) 56) :: st) P :=
  mv_getf (ci := 6) (k := 5) rfl in_X6 (mt_lt (show mt_kd 56 = 6 from rfl) (by decide)) (mt_E6 (show mt_kd 56 = 6 from rfl)) (by decide) hw rfl hd kk
theorem mp_X6_5 {β : Type} {idx : Nat} {v : Int32} {kf : mt_St → Option β} {o : Option β} (hw : mt_fl own idx TX6 5) (hd : decode cc pc = .ok (.putfield idx, 3)) (kk : ∀ σ1, mt_V K cc own nL d σ1 (pc + 3) lv st (kf σ1 = o)) : mt_V K cc own nL d σ pc lv (.int v :: .ref (mt_adr (kG K) 56) :: st) (mt_bnd (mt_up σ 56 5 v) kf = o) :=
  mv_putf (ci := 6) (k := 5) (ty := .int) rfl in_X6 tyX6_ok nmX6 (mt_lt (show mt_kd 56 = 6 from rfl) (by decide)) (mt_E6 (show mt_kd 56 = 6 from rfl)) ((mt_E6 (show mt_kd 56 = 6 from rfl)).trans rfl) (by decide) hw rfl (tyX6_ok 5 (by decide)) rfl rfl (Nat.le_of_ble_eq_true rfl) hd kk
theorem mg_X6_6 {idx : Nat} (hw : mt_fl own idx TX6 6) (hd : decode cc pc = .ok (.getfield idx, 3)) (kk : mt_V K cc own nL d σ (pc + 3) lv (.ref (mt_adr (kG K) 61) :: st) P) : mt_V K cc own nL d σ pc lv (.ref (mt_adr (kG K) 56) :: st) P :=
  mv_getf (ci := 6) (k := 6) rfl in_X6 (mt_lt (show mt_kd 56 = 6 from rfl) (by decide)) (mt_E6 (show mt_kd 56 = 6 from rfl)) (by decide) hw rfl hd kk
theorem mg_X6_7 {idx : Nat} (hw : mt_fl own idx TX6 7) (hd : decode cc pc = .ok (.getfield idx, 3)) (kk : mt_V K cc own nL d σ (pc + 3) lv (.int (σ 56 7) :: st) P) : mt_V K cc own nL d σ pc lv (.ref (mt_adr (kG K) 56) :: st) P :=
  mv_getf (ci := 6) (k := 7) rfl in_X6 (mt_lt (show mt_kd 56 = 6 from rfl) (by decide)) (mt_E6 (show mt_kd 56 = 6 from rfl)) (by decide) hw rfl hd kk
theorem mp_X6_7 {β : Type} {idx : Nat} {v : Int32} {kf : mt_St → Option β} {o : Option β} (hw : mt_fl own idx TX6 7) (hd : decode cc pc = .ok (.putfield idx, 3)) (kk : ∀ σ1, mt_V K cc own nL d σ1 (pc + 3) lv st (kf σ1 = o)) : mt_V K cc own nL d σ pc lv (.int v :: .ref (mt_adr (kG K) 56) :: st) (mt_bnd (mt_up σ 56 7 v) kf = o) :=
  mv_putf (ci := 6) (k := 7) (ty := .int) rfl in_X6 tyX6_ok nmX6 (mt_lt (show mt_kd 56 = 6 from rfl) (by decide)) (mt_E6 (show mt_kd 56 = 6 from rfl)) ((mt_E6 (show mt_kd 56 = 6 from rfl)).trans rfl) (by decide) hw rfl (tyX6_ok 7 (by decide)) rfl rfl (Nat.le_of_ble_eq_true rfl) hd kk
theorem mg_X6_8 {idx : Nat} (hw : mt_fl own idx TX6 8) (hd : decode cc pc = .ok (.getfield idx, 3)) (kk : mt_V K cc own nL d σ (pc + 3) lv (.int (σ 56 8) :: st) P) : mt_V K cc own nL d σ pc lv (.ref (mt_adr (kG K) 56) :: st) P :=
  mv_getf (ci := 6) (k := 8) rfl in_X6 (mt_lt (show mt_kd 56 = 6 from rfl) (by decide)) (mt_E6 (show mt_kd 56 = 6 from rfl)) (by decide) hw rfl hd kk
theorem mp_X6_8 {β : Type} {idx : Nat} {v : Int32} {kf : mt_St → Option β} {o : Option β} (hw : mt_fl own idx TX6 8) (hd : decode cc pc = .ok (.putfield idx, 3)) (kk : ∀ σ1, mt_V K cc own nL d σ1 (pc + 3) lv st (kf σ1 = o)) : mt_V K cc own nL d σ pc lv (.int v :: .ref (mt_adr (kG K) 56) :: st) (mt_bnd (mt_up σ 56 8 v) kf = o) :=
  mv_putf (ci := 6) (k := 8) (ty := .int) rfl in_X6 tyX6_ok nmX6 (mt_lt (show mt_kd 56 = 6 from rfl) (by decide)) (mt_E6 (show mt_kd 56 = 6 from rfl)) ((mt_E6 (show mt_kd 56 = 6 from rfl)).trans rfl) (by decide) hw rfl (tyX6_ok 8 (by decide)) rfl rfl (Nat.le_of_ble_eq_true rfl) hd kk
theorem mg_X6_9 {idx : Nat} (hw : mt_fl own idx TX6 9) (hd : decode cc pc = .ok (.getfield idx, 3)) (kk : mt_V K cc own nL d σ (pc + 3) lv (.int (σ 56 9) :: st) P) : mt_V K cc own nL d σ pc lv (.ref (mt_adr (kG K) 56) :: st) P :=
  mv_getf (ci := 6) (k := 9) rfl in_X6 (mt_lt (show mt_kd 56 = 6 from rfl) (by decide)) (mt_E6 (show mt_kd 56 = 6 from rfl)) (by decide) hw rfl hd kk
theorem mp_X6_9 {β : Type} {idx : Nat} {v : Int32} {kf : mt_St → Option β} {o : Option β} (hw : mt_fl own idx TX6 9) (hd : decode cc pc = .ok (.putfield idx, 3)) (kk : ∀ σ1, mt_V K cc own nL d σ1 (pc + 3) lv st (kf σ1 = o)) : mt_V K cc own nL d σ pc lv (.int v :: .ref (mt_adr (kG K) 56) :: st) (mt_bnd (mt_up σ 56 9 v) kf = o) :=
  mv_putf (ci := 6) (k := 9) (ty := .int) rfl in_X6 tyX6_ok nmX6 (mt_lt (show mt_kd 56 = 6 from rfl) (by decide)) (mt_E6 (show mt_kd 56 = 6 from rfl)) ((mt_E6 (show mt_kd 56 = 6 from rfl)).trans rfl) (by decide) hw rfl (tyX6_ok 9 (by decide)) rfl rfl (Nat.le_of_ble_eq_true rfl) hd kk
theorem mg_X6_10 {idx : Nat} (hw : mt_fl own idx TX6 10) (hd : decode cc pc = .ok (.getfield idx, 3)) (kk : mt_V K cc own nL d σ (pc + 3) lv (.int (σ 56 10) :: st) P) : mt_V K cc own nL d σ pc lv (.ref (mt_adr (kG K) 56) :: st) P :=
  mv_getf (ci := 6) (k := 10) rfl in_X6 (mt_lt (show mt_kd 56 = 6 from rfl) (by decide)) (mt_E6 (show mt_kd 56 = 6 from rfl)) (by decide) hw rfl hd kk
theorem mp_X6_10 {β : Type} {idx : Nat} {v : Int32} {kf : mt_St → Option β} {o : Option β} (hw : mt_fl own idx TX6 10) (hd : decode cc pc = .ok (.putfield idx, 3)) (kk : ∀ σ1, mt_V K cc own nL d σ1 (pc + 3) lv st (kf σ1 = o)) : mt_V K cc own nL d σ pc lv (.int v :: .ref (mt_adr (kG K) 56) :: st) (mt_bnd (mt_up σ 56 10 v) kf = o) :=
  mv_putf (ci := 6) (k := 10) (ty := .int) rfl in_X6 tyX6_ok nmX6 (mt_lt (show mt_kd 56 = 6 from rfl) (by decide)) (mt_E6 (show mt_kd 56 = 6 from rfl)) ((mt_E6 (show mt_kd 56 = 6 from rfl)).trans rfl) (by decide) hw rfl (tyX6_ok 10 (by decide)) rfl rfl (Nat.le_of_ble_eq_true rfl) hd kk
theorem mg_X6_11 {idx : Nat} (hw : mt_fl own idx TX6 11) (hd : decode cc pc = .ok (.getfield idx, 3)) (kk : mt_V K cc own nL d σ (pc + 3) lv (.int (σ 56 11) :: st) P) : mt_V K cc own nL d σ pc lv (.ref (mt_adr (kG K) 56) :: st) P :=
  mv_getf (ci := 6) (k := 11) rfl in_X6 (mt_lt (show mt_kd 56 = 6 from rfl) (by decide)) (mt_E6 (show mt_kd 56 = 6 from rfl)) (by decide) hw rfl hd kk
theorem mp_X6_11 {β : Type} {idx : Nat} {v : Int32} {kf : mt_St → Option β} {o : Option β} (hw : mt_fl own idx TX6 11) (hd : decode cc pc = .ok (.putfield idx, 3)) (kk : ∀ σ1, mt_V K cc own nL d σ1 (pc + 3) lv st (kf σ1 = o)) : mt_V K cc own nL d σ pc lv (.int v :: .ref (mt_adr (kG K) 56) :: st) (mt_bnd (mt_up σ 56 11 v) kf = o) :=
  mv_putf (ci := 6) (k := 11) (ty := .int) rfl in_X6 tyX6_ok nmX6 (mt_lt (show mt_kd 56 = 6 from rfl) (by decide)) (mt_E6 (show mt_kd 56 = 6 from rfl)) ((mt_E6 (show mt_kd 56 = 6 from rfl)).trans rfl) (by decide) hw rfl (tyX6_ok 11 (by decide)) rfl rfl (Nat.le_of_ble_eq_true rfl) hd kk
theorem mg_X6_12 {idx : Nat} (hw : mt_fl own idx TX6 12) (hd : decode cc pc = .ok (.getfield idx, 3)) (kk : mt_V K cc own nL d σ (pc + 3) lv (.int (σ 56 12) :: st) P) : mt_V K cc own nL d σ pc lv (.ref (mt_adr (kG K) 56) :: st) P :=
  mv_getf (ci := 6) (k := 12) rfl in_X6 (mt_lt (show mt_kd 56 = 6 from rfl) (by decide)) (mt_E6 (show mt_kd 56 = 6 from rfl)) (by decide) hw rfl hd kk
theorem mz_X6_12 {β : Type} {idx : Nat} {v : Int32} {kf : mt_St → Option β} {o : Option β} (hb : mt_b01 v = true) (hw : mt_fl own idx TX6 12) (hd : decode cc pc = .ok (.putfield idx, 3)) (kk : ∀ σ1, mt_V K cc own nL d σ1 (pc + 3) lv st (kf σ1 = o)) : mt_V K cc own nL d σ pc lv (.int v :: .ref (mt_adr (kG K) 56) :: st) (mt_bnd (mt_up σ 56 12 v) kf = o) :=
  mv_putf (ci := 6) (k := 12) (ty := .boolean) rfl in_X6 tyX6_ok nmX6 (mt_lt (show mt_kd 56 = 6 from rfl) (by decide)) (mt_E6 (show mt_kd 56 = 6 from rfl)) ((mt_E6 (show mt_kd 56 = 6 from rfl)).trans rfl) (by decide) hw rfl (tyX6_ok 12 (by decide)) (mt_n01 hb).1 (mt_n01 hb).2 (Nat.le_of_ble_eq_true rfl) hd kk
theorem mzc_X6_12 {β : Type} {idx : Nat} {v : Int32} {kf : mt_St → Option β} {o : β} (hw : mt_fl own idx TX6 12) (hd : decode cc pc = .ok (.putfield idx, 3)) (kk : ∀ σ1, mt_V K cc own nL d σ1 (pc + 3) lv st (kf σ1 = some o)) : mt_V K cc own nL d σ pc lv (.int v :: .ref (mt_adr (kG K) 56) :: st) (mt_chk (mt_b01 v) (mt_bnd (mt_up σ 56 12 v) kf) = some o) :=
  fun hP => mz_X6_12 (mt_somE hP).1 hw hd kk (mt_somE hP).2
theorem mg_X6_13 {idx : Nat} (hw : mt_fl own idx TX6 13) (hd : decode cc pc = .ok (.getfield idx, 3)) (kk : mt_V K cc own nL d σ (pc + 3) lv (.ref (mt_adr (kG K) 62) :: st) P) : mt_V K cc own nL d σ pc lv (.ref (mt_adr (kG K) 56) :: st) P :=
  mv_getf (ci := 6) (k := 13) rfl in_X6 (mt_lt (show mt_kd 56 = 6 from rfl) (by decide)) (mt_E6 (show mt_kd 56 = 6 from rfl)) (by decide) hw rfl hd kk
theorem mg_X6_14 {idx : Nat} (hw : mt_fl own idx TX6 14) (hd : decode cc pc = .ok (.getfield idx, 3)) (kk : mt_V K cc own nL d σ (pc + 3) lv (.ref (mt_adr (kG K) 63) :: st) P) : mt_V K cc own nL d σ pc lv (.ref (mt_adr (kG K) 56) :: st) P :=
  mv_getf (ci := 6) (k := 14) rfl in_X6 (mt_lt (show mt_kd 56 = 6 from rfl) (by decide)) (mt_E6 (show mt_kd 56 = 6 from rfl)) (by decide) hw rfl hd kk
theorem mg_X6_15 {idx : Nat} (hw : mt_fl own idx TX6 15) (hd : decode cc pc = .ok (.getfield idx, 3)) (kk : mt_V K cc own nL d σ (pc + 3) lv (.int (σ 56 15) :: st) P) : mt_V K cc own nL d σ pc lv (.ref (mt_adr (kG K) 56) :: st) P :=
  mv_getf (ci := 6) (k := 15) rfl in_X6 (mt_lt (show mt_kd 56 = 6 from rfl) (by decide)) (mt_E6 (show mt_kd 56 = 6 from rfl)) (by decide) hw rfl hd kk
theorem mp_X6_15 {β : Type} {idx : Nat} {v : Int32} {kf : mt_St → Option β} {o : Option β} (hw : mt_fl own idx TX6 15) (hd : decode cc pc = .ok (.putfield idx, 3)) (kk : ∀ σ1, mt_V K cc own nL d σ1 (pc + 3) lv st (kf σ1 = o)) : mt_V K cc own nL d σ pc lv (.int v :: .ref (mt_adr (kG K) 56) :: st) (mt_bnd (mt_up σ 56 15 v) kf = o) :=
  mv_putf (ci := 6) (k := 15) (ty := .int) rfl in_X6 tyX6_ok nmX6 (mt_lt (show mt_kd 56 = 6 from rfl) (by decide)) (mt_E6 (show mt_kd 56 = 6 from rfl)) ((mt_E6 (show mt_kd 56 = 6 from rfl)).trans rfl) (by decide) hw rfl (tyX6_ok 15 (by decide)) rfl rfl (Nat.le_of_ble_eq_true rfl) hd kk
theorem mg_X6_16 {idx : Nat} (hw : mt_fl own idx TX6 16) (hd : decode cc pc = .ok (.getfield idx, 3)) (kk : mt_V K cc own nL d σ (pc + 3) lv (.int (σ 56 16) :: st) P) : mt_V K cc own nL d σ pc lv (.ref (mt_adr (kG K) 56) :: st) P :=
  mv_getf (ci := 6) (k := 16) rfl in_X6 (mt_lt (show mt_kd 56 = 6 from rfl) (by decide)) (mt_E6 (show mt_kd 56 = 6 from rfl)) (by decide) hw rfl hd kk
theorem mp_X6_16 {β : Type} {idx : Nat} {v : Int32} {kf : mt_St → Option β} {o : Option β} (hw : mt_fl own idx TX6 16) (hd : decode cc pc = .ok (.putfield idx, 3)) (kk : ∀ σ1, mt_V K cc own nL d σ1 (pc + 3) lv st (kf σ1 = o)) : mt_V K cc own nL d σ pc lv (.int v :: .ref (mt_adr (kG K) 56) :: st) (mt_bnd (mt_up σ 56 16 v) kf = o) :=
  mv_putf (ci := 6) (k := 16) (ty := .int) rfl in_X6 tyX6_ok nmX6 (mt_lt (show mt_kd 56 = 6 from rfl) (by decide)) (mt_E6 (show mt_kd 56 = 6 from rfl)) ((mt_E6 (show mt_kd 56 = 6 from rfl)).trans rfl) (by decide) hw rfl (tyX6_ok 16 (by decide)) rfl rfl (Nat.le_of_ble_eq_true rfl) hd kk
theorem mg_X6_17 {idx : Nat} (hw : mt_fl own idx TX6 17) (hd : decode cc pc = .ok (.getfield idx, 3)) (kk : mt_V K cc own nL d σ (pc + 3) lv (.ref (mt_adr (kG K) 64) :: st) P) : mt_V K cc own nL d σ pc lv (.ref (mt_adr (kG K) 56) :: st) P :=
  mv_getf (ci := 6) (k := 17) rfl in_X6 (mt_lt (show mt_kd 56 = 6 from rfl) (by decide)) (mt_E6 (show mt_kd 56 = 6 from rfl)) (by decide) hw rfl hd kk
theorem mg_X6_18 {idx : Nat} (hw : mt_fl own idx TX6 18) (hd : decode cc pc = .ok (.getfield idx, 3)) (kk : mt_V K cc own nL d σ (pc + 3) lv (.ref (mt_adr (kG K) 65) :: st) P) : mt_V K cc own nL d σ pc lv (.ref (mt_adr (kG K) 56) :: st) P :=
  mv_getf (ci := 6) (k := 18) rfl in_X6 (mt_lt (show mt_kd 56 = 6 from rfl) (by decide)) (mt_E6 (show mt_kd 56 = 6 from rfl)) (by decide) hw rfl hd kk
theorem mg_X6_19 {idx : Nat} (hw : mt_fl own idx TX6 19) (hd : decode cc pc = .ok (.getfield idx, 3)) (kk : mt_V K cc own nL d σ (pc + 3) lv (.ref (mt_adr (kG K) 66) :: st) P) : mt_V K cc own nL d σ pc lv (.ref (mt_adr (kG K) 56) :: st) P :=
  mv_getf (ci := 6) (k := 19) rfl in_X6 (mt_lt (show mt_kd 56 = 6 from rfl) (by decide)) (mt_E6 (show mt_kd 56 = 6 from rfl)) (by decide) hw rfl hd kk
theorem mg_X6_20 {idx : Nat} (hw : mt_fl own idx TX6 20) (hd : decode cc pc = .ok (.getfield idx, 3)) (kk : mt_V K cc own nL d σ (pc + 3) lv (.ref (mt_adr (kG K) 67) :: st) P) : mt_V K cc own nL d σ pc lv (.ref (mt_adr (kG K) 56) :: st) P :=
  mv_getf (ci := 6) (k := 20) rfl in_X6 (mt_lt (show mt_kd 56 = 6 from rfl) (by decide)) (mt_E6 (show mt_kd 56 = 6 from rfl)) (by decide) hw rfl hd kk
end MF
theorem fl_X0_15 : mt_fl RX0 15 TX0 1 := Or.inl (lw_in 259 (by decide +kernel) rfl)
theorem fl_X0_9 : mt_fl RX0 9 TX0 0 := Or.inl (lw_in 258 (by decide +kernel) rfl)
set_option maxRecDepth 100000 in
theorem cal_X0_take : mt_cal yX0_take cX0_take 2 none 1 := ⟨lw_in 703 rfl rfl, lw_in 115 (by decide +kernel) rfl, by decide +kernel, by decide⟩
theorem ins_X0_take : mt_ins yX0_take := ⟨lw_in 702 (by decide +kernel) rfl, lw_in 47 (by decide +kernel) rfl⟩
set_option maxRecDepth 100000 in
theorem cal_X0_isLetter : mt_cal yX0_isLetter cX0_isLetter 1 (some .boolean) 1 := ⟨lw_in 722 rfl rfl, lw_in 115 (by decide +kernel) rfl, by decide +kernel, by decide⟩
theorem sta_X0_isLetter : Cond.static yX0_isLetter ∈ lw_g := lw_in 721 (by decide +kernel) rfl
theorem fl_X0_25 : mt_fl RX0 25 TX0 4 := Or.inl (lw_in 263 (by decide +kernel) rfl)
theorem ml_X0_128 : mt_ml RX0 128 yX0_isLetter := Or.inl (lw_in 720 (by decide +kernel) rfl)
set_option maxRecDepth 100000 in
theorem cal_X0_advanceLetters : mt_cal yX0_advanceLetters cX0_advanceLetters 1 none 0 := ⟨lw_in 726 rfl rfl, lw_in 115 (by decide +kernel) rfl, by decide +kernel, by decide⟩
theorem ins_X0_advanceLetters : mt_ins yX0_advanceLetters := ⟨lw_in 725 (by decide +kernel) rfl, lw_in 50 (by decide +kernel) rfl⟩
set_option maxRecDepth 100000 in
theorem cal_X0_isDigit : mt_cal yX0_isDigit cX0_isDigit 1 (some .boolean) 1 := ⟨lw_in 729 rfl rfl, lw_in 115 (by decide +kernel) rfl, by decide +kernel, by decide⟩
theorem sta_X0_isDigit : Cond.static yX0_isDigit ∈ lw_g := lw_in 728 (by decide +kernel) rfl
theorem ml_X0_134 : mt_ml RX0 134 yX0_isDigit := Or.inl (lw_in 727 (by decide +kernel) rfl)
theorem fl_X0_28 : mt_fl RX0 28 TX0 5 := Or.inl (lw_in 264 (by decide +kernel) rfl)
set_option maxRecDepth 100000 in
theorem cal_X0_advanceDigits : mt_cal yX0_advanceDigits cX0_advanceDigits 1 none 0 := ⟨lw_in 733 rfl rfl, lw_in 115 (by decide +kernel) rfl, by decide +kernel, by decide⟩
theorem ins_X0_advanceDigits : mt_ins yX0_advanceDigits := ⟨lw_in 732 (by decide +kernel) rfl, lw_in 51 (by decide +kernel) rfl⟩
theorem fl_X0_22 : mt_fl RX0 22 TX0 3 := Or.inl (lw_in 262 (by decide +kernel) rfl)
theorem fl_X0_19 : mt_fl RX0 19 TX0 2 := Or.inl (lw_in 261 (by decide +kernel) rfl)
theorem ml_X0_131 : mt_ml RX0 131 yX0_advanceLetters := Or.inl (lw_in 723 (by decide +kernel) rfl)
theorem ml_X0_137 : mt_ml RX0 137 yX0_advanceDigits := Or.inl (lw_in 730 (by decide +kernel) rfl)
set_option maxRecDepth 100000 in
theorem cal_X0_advance : mt_cal yX0_advance cX0_advance 1 none 0 := ⟨lw_in 719 rfl rfl, lw_in 115 (by decide +kernel) rfl, by decide +kernel, by decide⟩
theorem ins_X0_advance : mt_ins yX0_advance := ⟨lw_in 718 (by decide +kernel) rfl, lw_in 49 (by decide +kernel) rfl⟩
theorem ml_X0_120 : mt_ml RX0 120 yJ0_length_8abf5 := Or.inl (lw_in 747 (by decide +kernel) rfl)
theorem ml_X0_124 : mt_ml RX0 124 yJ0_charAt_5068e := Or.inl (lw_in 757 (by decide +kernel) rfl)
set_option maxRecDepth 100000 in
theorem cal_X0_isWord : mt_cal yX0_isWord cX0_isWord 3 (some .boolean) 1 := ⟨lw_in 746 rfl rfl, lw_in 115 (by decide +kernel) rfl, by decide +kernel, by decide⟩
theorem ins_X0_isWord : mt_ins yX0_isWord := ⟨lw_in 745 (by decide +kernel) rfl, lw_in 54 (by decide +kernel) rfl⟩
theorem ml_X0_51 : mt_ml RX0 51 yX0_isWord := Or.inl (lw_in 743 (by decide +kernel) rfl)
set_option maxRecDepth 100000 in
theorem cal_X0_kindTold : mt_cal yX0_kindTold cX0_kindTold 1 (some .int) 0 := ⟨lw_in 741 rfl rfl, lw_in 115 (by decide +kernel) rfl, by decide +kernel, by decide⟩
theorem ins_X0_kindTold : mt_ins yX0_kindTold := ⟨lw_in 740 (by decide +kernel) rfl, lw_in 53 (by decide +kernel) rfl⟩
theorem ml_X0_31 : mt_ml RX0 31 yX0_advance := Or.inl (lw_in 716 (by decide +kernel) rfl)
set_option maxRecDepth 100000 in
theorem cal_X0_passNumber : mt_cal yX0_passNumber cX0_passNumber 2 (some .boolean) 1 := ⟨lw_in 808 rfl rfl, lw_in 115 (by decide +kernel) rfl, by decide +kernel, by decide⟩
theorem ins_X0_passNumber : mt_ins yX0_passNumber := ⟨lw_in 807 (by decide +kernel) rfl, lw_in 56 (by decide +kernel) rfl⟩
theorem fl_X3_9 : mt_fl RX3 9 TX3 0 := Or.inl (lw_in 147 (by decide +kernel) rfl)
theorem fl_X3_15 : mt_fl RX3 15 TX3 1 := Or.inl (lw_in 150 (by decide +kernel) rfl)
theorem fl_X3_18 : mt_fl RX3 18 TX3 2 := Or.inl (lw_in 152 (by decide +kernel) rfl)
theorem fl_X3_21 : mt_fl RX3 21 TX3 3 := Or.inl (lw_in 155 (by decide +kernel) rfl)
theorem fl_X3_24 : mt_fl RX3 24 TX3 4 := Or.inl (lw_in 160 (by decide +kernel) rfl)
theorem fl_X3_27 : mt_fl RX3 27 TX3 5 := Or.inl (lw_in 164 (by decide +kernel) rfl)
theorem fl_X3_30 : mt_fl RX3 30 TX3 6 := Or.inl (lw_in 168 (by decide +kernel) rfl)
theorem fl_X3_33 : mt_fl RX3 33 TX3 7 := Or.inl (lw_in 170 (by decide +kernel) rfl)
set_option maxRecDepth 100000 in
theorem cal_X3_begin : mt_cal yX3_begin cX3_begin 5 none 4 := ⟨lw_in 378 rfl rfl, lw_in 113 (by decide +kernel) rfl, by decide +kernel, by decide⟩
theorem ins_X3_begin : mt_ins yX3_begin := ⟨lw_in 377 (by decide +kernel) rfl, lw_in 3 (by decide +kernel) rfl⟩
theorem fl_X4_37 : mt_fl RX4 37 TX4 7 := Or.inl (lw_in 209 (by decide +kernel) rfl)
theorem fl_X4_33 : mt_fl RX4 33 TX4 6 := Or.inl (lw_in 206 (by decide +kernel) rfl)
theorem fl_X4_9 : mt_fl RX4 9 TX4 0 := Or.inl (lw_in 191 (by decide +kernel) rfl)
theorem ml_X4_54 : mt_ml RX4 54 yX3_begin := Or.inr (lw_inn 375 (by decide +kernel) rfl)
set_option maxRecDepth 100000 in
theorem cal_X4_sign : mt_cal yX4_sign cX4_sign 4 none 3 := ⟨lw_in 374 rfl rfl, lw_in 112 (by decide +kernel) rfl, by decide +kernel, by decide⟩
theorem ins_X4_sign : mt_ins yX4_sign := ⟨lw_in 373 (by decide +kernel) rfl, lw_in 2 (by decide +kernel) rfl⟩
theorem fl_X0_80 : mt_fl RX0 80 TX4 7 := Or.inr (lw_inn 210 (by decide +kernel) rfl)
theorem ml_X0_59 : mt_ml RX0 59 yX0_passNumber := Or.inl (lw_in 805 (by decide +kernel) rfl)
theorem ml_X0_83 : mt_ml RX0 83 yX4_sign := Or.inr (lw_inn 809 (by decide +kernel) rfl)
set_option maxRecDepth 100000 in
theorem cal_X0_readPowers : mt_cal yX0_readPowers cX0_readPowers 5 (some .boolean) 2 := ⟨lw_in 804 rfl rfl, lw_in 115 (by decide +kernel) rfl, by decide +kernel, by decide⟩
theorem ins_X0_readPowers : mt_ins yX0_readPowers := ⟨lw_in 803 (by decide +kernel) rfl, lw_in 55 (by decide +kernel) rfl⟩
set_option maxRecDepth 100000 in
theorem cal_X5_isWithin : mt_cal yX5_isWithin cX5_isWithin 2 (some .boolean) 2 := ⟨lw_in 342 rfl rfl, lw_in 111 (by decide +kernel) rfl, by decide +kernel, by decide⟩
theorem sta_X5_isWithin : Cond.static yX5_isWithin ∈ lw_g := lw_in 341 (by decide +kernel) rfl
theorem ml_X0_72 : mt_ml RX0 72 yX5_isWithin := Or.inr (lw_inn 814 (by decide +kernel) rfl)
theorem fl_X0_87 : mt_fl RX0 87 TX4 6 := Or.inr (lw_inn 207 (by decide +kernel) rfl)
theorem fl_X0_93 : mt_fl RX0 93 TX3 3 := Or.inr (lw_inn 156 (by decide +kernel) rfl)
theorem fl_X0_99 : mt_fl RX0 99 TX3 5 := Or.inr (lw_inn 165 (by decide +kernel) rfl)
theorem fl_X0_103 : mt_fl RX0 103 TX3 4 := Or.inr (lw_inn 162 (by decide +kernel) rfl)
set_option maxRecDepth 100000 in
theorem cal_X0_readTerms : mt_cal yX0_readTerms cX0_readTerms 3 (some .boolean) 1 := ⟨lw_in 813 rfl rfl, lw_in 115 (by decide +kernel) rfl, by decide +kernel, by decide⟩
theorem ins_X0_readTerms : mt_ins yX0_readTerms := ⟨lw_in 812 (by decide +kernel) rfl, lw_in 57 (by decide +kernel) rfl⟩
theorem fl_X0_76 : mt_fl RX0 76 TX4 2 := Or.inr (lw_inn 199 (by decide +kernel) rfl)
set_option maxRecDepth 100000 in
theorem cal_X0_readEvent : mt_cal yX0_readEvent cX0_readEvent 3 (some .boolean) 1 := ⟨lw_in 824 rfl rfl, lw_in 115 (by decide +kernel) rfl, by decide +kernel, by decide⟩
theorem ins_X0_readEvent : mt_ins yX0_readEvent := ⟨lw_in 823 (by decide +kernel) rfl, lw_in 58 (by decide +kernel) rfl⟩
theorem ml_X0_38 : mt_ml RX0 38 yX0_kindTold := Or.inl (lw_in 738 (by decide +kernel) rfl)
theorem ml_X0_42 : mt_ml RX0 42 yX0_readPowers := Or.inl (lw_in 801 (by decide +kernel) rfl)
theorem ml_X0_46 : mt_ml RX0 46 yX0_readTerms := Or.inl (lw_in 810 (by decide +kernel) rfl)
theorem fl_X0_55 : mt_fl RX0 55 TX4 0 := Or.inr (lw_inn 193 (by decide +kernel) rfl)
theorem fl_X0_65 : mt_fl RX0 65 TX4 1 := Or.inr (lw_inn 196 (by decide +kernel) rfl)
theorem ml_X0_69 : mt_ml RX0 69 yX0_readEvent := Or.inl (lw_in 821 (by decide +kernel) rfl)
set_option maxRecDepth 100000 in
theorem cal_X0_readItem : mt_cal yX0_readItem cX0_readItem 3 (some .boolean) 1 := ⟨lw_in 737 rfl rfl, lw_in 115 (by decide +kernel) rfl, by decide +kernel, by decide⟩
theorem ins_X0_readItem : mt_ins yX0_readItem := ⟨lw_in 736 (by decide +kernel) rfl, lw_in 52 (by decide +kernel) rfl⟩
theorem ml_X0_34 : mt_ml RX0 34 yX0_readItem := Or.inl (lw_in 734 (by decide +kernel) rfl)
set_option maxRecDepth 100000 in
theorem cal_X0_readInto : mt_cal yX0_readInto cX0_readInto 3 (some .int) 1 := ⟨lw_in 715 rfl rfl, lw_in 115 (by decide +kernel) rfl, by decide +kernel, by decide⟩
theorem ins_X0_readInto : mt_ins yX0_readInto := ⟨lw_in 714 (by decide +kernel) rfl, lw_in 48 (by decide +kernel) rfl⟩
theorem fl_X1_9 : mt_fl RX1 9 TX1 0 := Or.inl (lw_in 286 (by decide +kernel) rfl)
set_option maxRecDepth 100000 in
theorem cal_X1_isMissing : mt_cal yX1_isMissing cX1_isMissing 1 (some .boolean) 0 := ⟨lw_in 642 rfl rfl, lw_in 116 (by decide +kernel) rfl, by decide +kernel, by decide⟩
theorem ins_X1_isMissing : mt_ins yX1_isMissing := ⟨lw_in 641 (by decide +kernel) rfl, lw_in 39 (by decide +kernel) rfl⟩
theorem mm_X1_22 : Cond.methodLink RX1 22 Lib.Math.min.name ∈ lw_g := lw_in 647 (by decide +kernel) rfl
theorem fl_X1_15 : mt_fl RX1 15 TX1 1 := Or.inl (lw_in 288 (by decide +kernel) rfl)
theorem fl_X1_18 : mt_fl RX1 18 TX1 2 := Or.inl (lw_in 290 (by decide +kernel) rfl)
set_option maxRecDepth 100000 in
theorem cal_X1_begin : mt_cal yX1_begin cX1_begin 4 none 2 := ⟨lw_in 846 rfl rfl, lw_in 116 (by decide +kernel) rfl, by decide +kernel, by decide⟩
theorem ins_X1_begin : mt_ins yX1_begin := ⟨lw_in 845 (by decide +kernel) rfl, lw_in 60 (by decide +kernel) rfl⟩
theorem ml_X1_28 : mt_ml RX1 28 yX5_isWithin := Or.inr (lw_inn 668 (by decide +kernel) rfl)
set_option maxRecDepth 100000 in
theorem cal_X1_put : mt_cal yX1_put cX1_put 3 none 2 := ⟨lw_in 854 rfl rfl, lw_in 116 (by decide +kernel) rfl, by decide +kernel, by decide⟩
theorem ins_X1_put : mt_ins yX1_put := ⟨lw_in 853 (by decide +kernel) rfl, lw_in 61 (by decide +kernel) rfl⟩
set_option maxRecDepth 100000 in
theorem cal_X1_allows : mt_cal yX1_allows cX1_allows 3 (some .boolean) 2 := ⟨lw_in 667 rfl rfl, lw_in 116 (by decide +kernel) rfl, by decide +kernel, by decide⟩
theorem ins_X1_allows : mt_ins yX1_allows := ⟨lw_in 666 (by decide +kernel) rfl, lw_in 45 (by decide +kernel) rfl⟩
set_option maxRecDepth 100000 in
theorem cal_X1_hasRange : mt_cal yX1_hasRange cX1_hasRange 3 (some .boolean) 2 := ⟨lw_in 862 rfl rfl, lw_in 116 (by decide +kernel) rfl, by decide +kernel, by decide⟩
theorem ins_X1_hasRange : mt_ins yX1_hasRange := ⟨lw_in 861 (by decide +kernel) rfl, lw_in 62 (by decide +kernel) rfl⟩
set_option maxRecDepth 100000 in
theorem cal_X1_lastTold : mt_cal yX1_lastTold cX1_lastTold 3 (some .int) 1 := ⟨lw_in 646 rfl rfl, lw_in 116 (by decide +kernel) rfl, by decide +kernel, by decide⟩
theorem ins_X1_lastTold : mt_ins yX1_lastTold := ⟨lw_in 645 (by decide +kernel) rfl, lw_in 40 (by decide +kernel) rfl⟩
theorem kc_J6_265 : Cond.constant RJ6 265 (1431655765) ∈ lw_g := lw_in 406 (by decide +kernel) rfl
theorem kc_J6_266 : Cond.constant RJ6 266 (858993459) ∈ lw_g := lw_in 407 (by decide +kernel) rfl
theorem kc_J6_267 : Cond.constant RJ6 267 (252645135) ∈ lw_g := lw_in 408 (by decide +kernel) rfl
set_option maxRecDepth 100000 in
theorem cal_J6_bitCount_0f7a4 : mt_cal yJ6_bitCount_0f7a4 cJ6_bitCount_0f7a4 1 (some .int) 1 := ⟨lw_in 405 rfl rfl, lw_in 118 (by decide +kernel) rfl, by decide +kernel, by decide⟩
theorem sta_J6_bitCount_0f7a4 : Cond.static yJ6_bitCount_0f7a4 ∈ lw_g := lw_in 404 (by decide +kernel) rfl
theorem ml_X2_41 : mt_ml RX2 41 yJ6_bitCount_0f7a4 := Or.inl (lw_in 604 (by decide +kernel) rfl)
theorem fl_X2_18 : mt_fl RX2 18 TX2 2 := Or.inl (lw_in 243 (by decide +kernel) rfl)
theorem fl_X2_11 : mt_fl RX2 11 TX2 0 := Or.inl (lw_in 241 (by decide +kernel) rfl)
theorem fl_X2_15 : mt_fl RX2 15 TX2 1 := Or.inl (lw_in 242 (by decide +kernel) rfl)
set_option maxRecDepth 100000 in
theorem cal_X2_add : mt_cal yX2_add cX2_add 3 none 2 := ⟨lw_in 603 rfl rfl, lw_in 114 (by decide +kernel) rfl, by decide +kernel, by decide⟩
theorem ins_X2_add : mt_ins yX2_add := ⟨lw_in 602 (by decide +kernel) rfl, lw_in 32 (by decide +kernel) rfl⟩
set_option maxRecDepth 100000 in
theorem cal_X3_bears : mt_cal yX3_bears cX3_bears 3 (some .int) 1 := ⟨lw_in 394 rfl rfl, lw_in 113 (by decide +kernel) rfl, by decide +kernel, by decide⟩
theorem ins_X3_bears : mt_ins yX3_bears := ⟨lw_in 393 (by decide +kernel) rfl, lw_in 6 (by decide +kernel) rfl⟩
theorem fl_X2_22 : mt_fl RX2 22 TX3 4 := Or.inr (lw_inn 159 (by decide +kernel) rfl)
theorem fl_X2_27 : mt_fl RX2 27 TX3 3 := Or.inr (lw_inn 154 (by decide +kernel) rfl)
theorem fl_X2_30 : mt_fl RX2 30 TX3 0 := Or.inr (lw_inn 148 (by decide +kernel) rfl)
theorem ml_X2_33 : mt_ml RX2 33 yX2_add := Or.inl (lw_in 600 (by decide +kernel) rfl)
theorem ml_X2_37 : mt_ml RX2 37 yX3_bears := Or.inr (lw_inn 605 (by decide +kernel) rfl)
set_option maxRecDepth 100000 in
theorem cal_X2_addOf : mt_cal yX2_addOf cX2_addOf 4 none 2 := ⟨lw_in 599 rfl rfl, lw_in 114 (by decide +kernel) rfl, by decide +kernel, by decide⟩
theorem ins_X2_addOf : mt_ins yX2_addOf := ⟨lw_in 598 (by decide +kernel) rfl, lw_in 31 (by decide +kernel) rfl⟩
set_option maxRecDepth 100000 in
theorem cal_X2_areEasedBy : mt_cal yX2_areEasedBy cX2_areEasedBy 3 (some .boolean) 1 := ⟨lw_in 610 rfl rfl, lw_in 114 (by decide +kernel) rfl, by decide +kernel, by decide⟩
theorem ins_X2_areEasedBy : mt_ins yX2_areEasedBy := ⟨lw_in 609 (by decide +kernel) rfl, lw_in 33 (by decide +kernel) rfl⟩
set_option maxRecDepth 100000 in
theorem cal_X3_become : mt_cal yX3_become cX3_become 2 none 1 := ⟨lw_in 540 rfl rfl, lw_in 113 (by decide +kernel) rfl, by decide +kernel, by decide⟩
theorem ins_X3_become : mt_ins yX3_become := ⟨lw_in 539 (by decide +kernel) rfl, lw_in 27 (by decide +kernel) rfl⟩
set_option maxRecDepth 100000 in
theorem cal_X3_fades : mt_cal yX3_fades cX3_fades 1 (some .int) 0 := ⟨lw_in 398 rfl rfl, lw_in 113 (by decide +kernel) rfl, by decide +kernel, by decide⟩
theorem ins_X3_fades : mt_ins yX3_fades := ⟨lw_in 397 (by decide +kernel) rfl, lw_in 7 (by decide +kernel) rfl⟩
theorem ml_X3_50 : mt_ml RX3 50 yJ6_bitCount_0f7a4 := Or.inl (lw_in 403 (by decide +kernel) rfl)
set_option maxRecDepth 100000 in
theorem cal_X3_yields : mt_cal yX3_yields cX3_yields 1 (some .int) 0 := ⟨lw_in 402 rfl rfl, lw_in 113 (by decide +kernel) rfl, by decide +kernel, by decide⟩
theorem ins_X3_yields : mt_ins yX3_yields := ⟨lw_in 401 (by decide +kernel) rfl, lw_in 8 (by decide +kernel) rfl⟩
set_option maxRecDepth 100000 in
theorem cal_X3_renews : mt_cal yX3_renews cX3_renews 1 (some .int) 0 := ⟨lw_in 412 rfl rfl, lw_in 113 (by decide +kernel) rfl, by decide +kernel, by decide⟩
theorem ins_X3_renews : mt_ins yX3_renews := ⟨lw_in 411 (by decide +kernel) rfl, lw_in 9 (by decide +kernel) rfl⟩
theorem ml_X3_36 : mt_ml RX3 36 yX3_bears := Or.inl (lw_in 391 (by decide +kernel) rfl)
theorem ml_X3_40 : mt_ml RX3 40 yX3_fades := Or.inl (lw_in 395 (by decide +kernel) rfl)
theorem ml_X3_44 : mt_ml RX3 44 yX3_yields := Or.inl (lw_in 399 (by decide +kernel) rfl)
theorem ml_X3_47 : mt_ml RX3 47 yX3_renews := Or.inl (lw_in 409 (by decide +kernel) rfl)
set_option maxRecDepth 100000 in
theorem cal_X3_tell : mt_cal yX3_tell cX3_tell 3 (some .int) 2 := ⟨lw_in 390 rfl rfl, lw_in 113 (by decide +kernel) rfl, by decide +kernel, by decide⟩
theorem ins_X3_tell : mt_ins yX3_tell := ⟨lw_in 389 (by decide +kernel) rfl, lw_in 5 (by decide +kernel) rfl⟩
theorem ml_X5_67 : mt_ml RX5 67 yX5_isWithin := Or.inl (lw_in 340 (by decide +kernel) rfl)
set_option maxRecDepth 100000 in
theorem cal_X5_isPair : mt_cal yX5_isPair cX5_isPair 2 (some .boolean) 2 := ⟨lw_in 370 rfl rfl, lw_in 111 (by decide +kernel) rfl, by decide +kernel, by decide⟩
theorem sta_X5_isPair : Cond.static yX5_isPair ∈ lw_g := lw_in 369 (by decide +kernel) rfl
theorem ml_X3_55 : mt_ml RX3 55 yX5_isWithin := Or.inr (lw_inn 421 (by decide +kernel) rfl)
theorem ml_X3_59 : mt_ml RX3 59 yX5_isPair := Or.inr (lw_inn 422 (by decide +kernel) rfl)
set_option maxRecDepth 100000 in
theorem cal_X3_takes : mt_cal yX3_takes cX3_takes 3 (some .boolean) 2 := ⟨lw_in 420 rfl rfl, lw_in 113 (by decide +kernel) rfl, by decide +kernel, by decide⟩
theorem ins_X3_takes : mt_ins yX3_takes := ⟨lw_in 419 (by decide +kernel) rfl, lw_in 10 (by decide +kernel) rfl⟩
set_option maxRecDepth 100000 in
theorem cal_X3_alter : mt_cal yX3_alter cX3_alter 3 none 2 := ⟨lw_in 426 rfl rfl, lw_in 113 (by decide +kernel) rfl, by decide +kernel, by decide⟩
theorem ins_X3_alter : mt_ins yX3_alter := ⟨lw_in 425 (by decide +kernel) rfl, lw_in 11 (by decide +kernel) rfl⟩
set_option maxRecDepth 100000 in
theorem cal_X3_isA : mt_cal yX3_isA cX3_isA 4 (some .boolean) 1 := ⟨lw_in 836 rfl rfl, lw_in 113 (by decide +kernel) rfl, by decide +kernel, by decide⟩
theorem ins_X3_isA : mt_ins yX3_isA := ⟨lw_in 835 (by decide +kernel) rfl, lw_in 59 (by decide +kernel) rfl⟩
set_option maxRecDepth 100000 in
theorem cal_X3_isOverborne : mt_cal yX3_isOverborne cX3_isOverborne 2 (some .boolean) 1 := ⟨lw_in 474 rfl rfl, lw_in 113 (by decide +kernel) rfl, by decide +kernel, by decide⟩
theorem ins_X3_isOverborne : mt_ins yX3_isOverborne := ⟨lw_in 473 (by decide +kernel) rfl, lw_in 17 (by decide +kernel) rfl⟩
theorem mm_X3_74 : Cond.methodLink RX3 74 Lib.Math.min.name ∈ lw_g := lw_in 470 (by decide +kernel) rfl
set_option maxRecDepth 100000 in
theorem cal_X3_await : mt_cal yX3_await cX3_await 3 none 1 := ⟨lw_in 469 rfl rfl, lw_in 113 (by decide +kernel) rfl, by decide +kernel, by decide⟩
theorem ins_X3_await : mt_ins yX3_await := ⟨lw_in 468 (by decide +kernel) rfl, lw_in 16 (by decide +kernel) rfl⟩
set_option maxRecDepth 100000 in
theorem cal_X3_isToFade : mt_cal yX3_isToFade cX3_isToFade 3 (some .boolean) 1 := ⟨lw_in 482 rfl rfl, lw_in 113 (by decide +kernel) rfl, by decide +kernel, by decide⟩
theorem ins_X3_isToFade : mt_ins yX3_isToFade := ⟨lw_in 481 (by decide +kernel) rfl, lw_in 19 (by decide +kernel) rfl⟩
theorem kc_J6_264 : Cond.constant RJ6 264 (65536) ∈ lw_g := lw_in 490 (by decide +kernel) rfl
set_option maxRecDepth 100000 in
theorem cal_J6_numberOfLeadingZeros_0f7a4 : mt_cal yJ6_numberOfLeadingZeros_0f7a4 cJ6_numberOfLeadingZeros_0f7a4 2 (some .int) 1 := ⟨lw_in 489 rfl rfl, lw_in 118 (by decide +kernel) rfl, by decide +kernel, by decide⟩
theorem sta_J6_numberOfLeadingZeros_0f7a4 : Cond.static yJ6_numberOfLeadingZeros_0f7a4 ∈ lw_g := lw_in 488 (by decide +kernel) rfl
theorem kc_J6_127 : Cond.constant RJ6 127 (-2147483648) ∈ lw_g := lw_in 486 (by decide +kernel) rfl
theorem ml_J6_51 : mt_ml RJ6 51 yJ6_numberOfLeadingZeros_0f7a4 := Or.inl (lw_in 487 (by decide +kernel) rfl)
set_option maxRecDepth 100000 in
theorem cal_J6_highestOneBit_0f7a4 : mt_cal yJ6_highestOneBit_0f7a4 cJ6_highestOneBit_0f7a4 1 (some .int) 1 := ⟨lw_in 485 rfl rfl, lw_in 118 (by decide +kernel) rfl, by decide +kernel, by decide⟩
theorem sta_J6_highestOneBit_0f7a4 : Cond.static yJ6_highestOneBit_0f7a4 ∈ lw_g := lw_in 484 (by decide +kernel) rfl
theorem ml_X3_86 : mt_ml RX3 86 yX3_isToFade := Or.inl (lw_in 479 (by decide +kernel) rfl)
theorem ml_X3_89 : mt_ml RX3 89 yJ6_highestOneBit_0f7a4 := Or.inl (lw_in 483 (by decide +kernel) rfl)
set_option maxRecDepth 100000 in
theorem cal_X3_fade : mt_cal yX3_fade cX3_fade 1 none 0 := ⟨lw_in 478 rfl rfl, lw_in 113 (by decide +kernel) rfl, by decide +kernel, by decide⟩
theorem ins_X3_fade : mt_ins yX3_fade := ⟨lw_in 477 (by decide +kernel) rfl, lw_in 18 (by decide +kernel) rfl⟩
theorem ml_X3_66 : mt_ml RX3 66 yX3_await := Or.inl (lw_in 466 (by decide +kernel) rfl)
theorem ml_X3_70 : mt_ml RX3 70 yX3_isOverborne := Or.inl (lw_in 471 (by decide +kernel) rfl)
theorem ml_X3_80 : mt_ml RX3 80 yX3_fade := Or.inl (lw_in 475 (by decide +kernel) rfl)
set_option maxRecDepth 100000 in
theorem cal_X3_live : mt_cal yX3_live cX3_live 4 (some .int) 2 := ⟨lw_in 465 rfl rfl, lw_in 113 (by decide +kernel) rfl, by decide +kernel, by decide⟩
theorem ins_X3_live : mt_ins yX3_live := ⟨lw_in 464 (by decide +kernel) rfl, lw_in 15 (by decide +kernel) rfl⟩
theorem ml_X3_83 : mt_ml RX3 83 yX3_live := Or.inl (lw_in 545 (by decide +kernel) rfl)
set_option maxRecDepth 100000 in
theorem cal_X3_liveYears : mt_cal yX3_liveYears cX3_liveYears 6 (some .int) 3 := ⟨lw_in 544 rfl rfl, lw_in 113 (by decide +kernel) rfl, by decide +kernel, by decide⟩
theorem ins_X3_liveYears : mt_ins yX3_liveYears := ⟨lw_in 543 (by decide +kernel) rfl, lw_in 28 (by decide +kernel) rfl⟩
set_option maxRecDepth 100000 in
theorem cal_X3_fadesWithin : mt_cal yX3_fadesWithin cX3_fadesWithin 3 (some .boolean) 1 := ⟨lw_in 655 rfl rfl, lw_in 113 (by decide +kernel) rfl, by decide +kernel, by decide⟩
theorem ins_X3_fadesWithin : mt_ins yX3_fadesWithin := ⟨lw_in 654 (by decide +kernel) rfl, lw_in 42 (by decide +kernel) rfl⟩
theorem fl_X4_15 : mt_fl RX4 15 TX4 1 := Or.inl (lw_in 194 (by decide +kernel) rfl)
theorem fl_X4_18 : mt_fl RX4 18 TX4 2 := Or.inl (lw_in 197 (by decide +kernel) rfl)
theorem ml_X4_44 : Cond.methodLink RX4 44 arraycopyName ∈ lw_g := lw_in 554 (by decide +kernel) rfl
theorem fl_X4_22 : mt_fl RX4 22 TX4 3 := Or.inl (lw_in 200 (by decide +kernel) rfl)
theorem fl_X4_25 : mt_fl RX4 25 TX4 4 := Or.inl (lw_in 202 (by decide +kernel) rfl)
theorem fl_X4_28 : mt_fl RX4 28 TX4 5 := Or.inl (lw_in 204 (by decide +kernel) rfl)
theorem ml_X4_50 : mt_ml RX4 50 yX3_become := Or.inr (lw_inn 557 (by decide +kernel) rfl)
theorem fl_X4_40 : mt_fl RX4 40 TX4 8 := Or.inl (lw_in 212 (by decide +kernel) rfl)
set_option maxRecDepth 100000 in
theorem cal_X4_become : mt_cal yX4_become cX4_become 3 none 1 := ⟨lw_in 553 rfl rfl, lw_in 112 (by decide +kernel) rfl, by decide +kernel, by decide⟩
theorem ins_X4_become : mt_ins yX4_become := ⟨lw_in 552 (by decide +kernel) rfl, lw_in 29 (by decide +kernel) rfl⟩
theorem kc_X4_58 : Cond.constant RX4 58 (1103515245) ∈ lw_g := lw_in 681 (by decide +kernel) rfl
set_option maxRecDepth 100000 in
theorem cal_X4_draw : mt_cal yX4_draw cX4_draw 1 (some .int) 0 := ⟨lw_in 680 rfl rfl, lw_in 112 (by decide +kernel) rfl, by decide +kernel, by decide⟩
theorem ins_X4_draw : mt_ins yX4_draw := ⟨lw_in 679 (by decide +kernel) rfl, lw_in 46 (by decide +kernel) rfl⟩
set_option maxRecDepth 100000 in
theorem cal_X5_toggled : mt_cal yX5_toggled cX5_toggled 2 (some .int) 2 := ⟨lw_in 461 rfl rfl, lw_in 111 (by decide +kernel) rfl, by decide +kernel, by decide⟩
theorem sta_X5_toggled : Cond.static yX5_toggled ∈ lw_g := lw_in 460 (by decide +kernel) rfl
theorem ml_X4_62 : mt_ml RX4 62 yX5_toggled := Or.inr (lw_inn 459 (by decide +kernel) rfl)
theorem ml_X4_66 : mt_ml RX4 66 yX3_live := Or.inr (lw_inn 462 (by decide +kernel) rfl)
theorem kc_X4_69 : Cond.constant RX4 69 (99999) ∈ lw_g := lw_in 491 (by decide +kernel) rfl
theorem mm_X4_70 : Cond.methodLink RX4 70 Lib.Math.min.name ∈ lw_g := lw_in 492 (by decide +kernel) rfl
set_option maxRecDepth 100000 in
theorem cal_X4_pass : mt_cal yX4_pass cX4_pass 2 none 0 := ⟨lw_in 458 rfl rfl, lw_in 112 (by decide +kernel) rfl, by decide +kernel, by decide⟩
theorem ins_X4_pass : mt_ins yX4_pass := ⟨lw_in 457 (by decide +kernel) rfl, lw_in 14 (by decide +kernel) rfl⟩
theorem ml_X4_59 : mt_ml RX4 59 yX4_pass := Or.inl (lw_in 455 (by decide +kernel) rfl)
set_option maxRecDepth 100000 in
theorem cal_X4_passYears : mt_cal yX4_passYears cX4_passYears 3 none 1 := ⟨lw_in 454 rfl rfl, lw_in 112 (by decide +kernel) rfl, by decide +kernel, by decide⟩
theorem ins_X4_passYears : mt_ins yX4_passYears := ⟨lw_in 453 (by decide +kernel) rfl, lw_in 13 (by decide +kernel) rfl⟩
theorem fl_X4_75 : mt_fl RX4 75 TX3 4 := Or.inr (lw_inn 161 (by decide +kernel) rfl)
set_option maxRecDepth 100000 in
theorem cal_X4_inForce : mt_cal yX4_inForce cX4_inForce 3 (some .int) 0 := ⟨lw_in 496 rfl rfl, lw_in 112 (by decide +kernel) rfl, by decide +kernel, by decide⟩
theorem ins_X4_inForce : mt_ins yX4_inForce := ⟨lw_in 495 (by decide +kernel) rfl, lw_in 20 (by decide +kernel) rfl⟩
theorem ml_X4_78 : mt_ml RX4 78 yX3_isOverborne := Or.inr (lw_inn 515 (by decide +kernel) rfl)
set_option maxRecDepth 100000 in
theorem cal_X4_breaking : mt_cal yX4_breaking cX4_breaking 3 (some .int) 0 := ⟨lw_in 514 rfl rfl, lw_in 112 (by decide +kernel) rfl, by decide +kernel, by decide⟩
theorem ins_X4_breaking : mt_ins yX4_breaking := ⟨lw_in 513 (by decide +kernel) rfl, lw_in 22 (by decide +kernel) rfl⟩
theorem fl_X4_82 : mt_fl RX4 82 TX3 3 := Or.inr (lw_inn 157 (by decide +kernel) rfl)
set_option maxRecDepth 100000 in
theorem cal_X4_marksInForce : mt_cal yX4_marksInForce cX4_marksInForce 3 (some .int) 0 := ⟨lw_in 519 rfl rfl, lw_in 112 (by decide +kernel) rfl, by decide +kernel, by decide⟩
theorem ins_X4_marksInForce : mt_ins yX4_marksInForce := ⟨lw_in 518 (by decide +kernel) rfl, lw_in 23 (by decide +kernel) rfl⟩
theorem fl_X4_85 : mt_fl RX4 85 TX3 5 := Or.inr (lw_inn 166 (by decide +kernel) rfl)
set_option maxRecDepth 100000 in
theorem cal_X4_longestHeld : mt_cal yX4_longestHeld cX4_longestHeld 4 (some .int) 0 := ⟨lw_in 523 rfl rfl, lw_in 112 (by decide +kernel) rfl, by decide +kernel, by decide⟩
theorem ins_X4_longestHeld : mt_ins yX4_longestHeld := ⟨lw_in 522 (by decide +kernel) rfl, lw_in 24 (by decide +kernel) rfl⟩
theorem fl_X4_88 : mt_fl RX4 88 TX3 7 := Or.inr (lw_inn 171 (by decide +kernel) rfl)
set_option maxRecDepth 100000 in
theorem cal_X4_allBroken : mt_cal yX4_allBroken cX4_allBroken 3 (some .int) 0 := ⟨lw_in 504 rfl rfl, lw_in 112 (by decide +kernel) rfl, by decide +kernel, by decide⟩
theorem ins_X4_allBroken : mt_ins yX4_allBroken := ⟨lw_in 503 (by decide +kernel) rfl, lw_in 21 (by decide +kernel) rfl⟩
set_option maxRecDepth 100000 in
theorem cal_X4_spotsHolding : mt_cal yX4_spotsHolding cX4_spotsHolding 3 (some .int) 0 := ⟨lw_in 891 rfl rfl, lw_in 112 (by decide +kernel) rfl, by decide +kernel, by decide⟩
theorem ins_X4_spotsHolding : mt_ins yX4_spotsHolding := ⟨lw_in 890 (by decide +kernel) rfl, lw_in 63 (by decide +kernel) rfl⟩
theorem mm_X5_287 : Cond.methodLink RX5 287 Lib.Math.min.name ∈ lw_g := lw_in 438 (by decide +kernel) rfl
theorem mm_X5_296 : Cond.methodLink RX5 296 Lib.Math.max.name ∈ lw_g := lw_in 441 (by decide +kernel) rfl
set_option maxRecDepth 100000 in
theorem cal_X5_pair : mt_cal yX5_pair cX5_pair 2 (some .long) 2 := ⟨lw_in 437 rfl rfl, lw_in 111 (by decide +kernel) rfl, by decide +kernel, by decide⟩
theorem sta_X5_pair : Cond.static yX5_pair ∈ lw_g := lw_in 436 (by decide +kernel) rfl
theorem fl_X4_91 : mt_fl RX4 91 TX3 1 := Or.inr (lw_inn 151 (by decide +kernel) rfl)
theorem fl_X4_94 : mt_fl RX4 94 TX3 2 := Or.inr (lw_inn 153 (by decide +kernel) rfl)
theorem ml_X4_97 : mt_ml RX4 97 yX5_pair := Or.inr (lw_inn 435 (by decide +kernel) rfl)
theorem kc_X4_101 : Cond.constantLong RX4 101 (-1) ∈ lw_g := lw_in 444 (by decide +kernel) rfl
set_option maxRecDepth 100000 in
theorem cal_X4_pairsAtWar : mt_cal yX4_pairsAtWar cX4_pairsAtWar 8 (some .long) 0 := ⟨lw_in 434 rfl rfl, lw_in 112 (by decide +kernel) rfl, by decide +kernel, by decide⟩
theorem ins_X4_pairsAtWar : mt_ins yX4_pairsAtWar := ⟨lw_in 433 (by decide +kernel) rfl, lw_in 12 (by decide +kernel) rfl⟩
theorem fl_X5_63 : mt_fl RX5 63 TX5 11 := Or.inl (lw_in 310 (by decide +kernel) rfl)
theorem kc_X5_295 : Cond.constant RX5 295 (-1000001) ∈ lw_g := lw_in 347 (by decide +kernel) rfl
set_option maxRecDepth 100000 in
theorem cal_X5_finding : mt_cal yX5_finding cX5_finding 2 (some .int) 1 := ⟨lw_in 346 rfl rfl, lw_in 111 (by decide +kernel) rfl, by decide +kernel, by decide⟩
theorem ins_X5_finding : mt_ins yX5_finding := ⟨lw_in 345 (by decide +kernel) rfl, lw_in 0 (by decide +kernel) rfl⟩
theorem fl_X5_10 : mt_fl RX5 10 TX5 0 := Or.inl (lw_in 299 (by decide +kernel) rfl)
theorem fl_X5_78 : mt_fl RX5 78 TX4 0 := Or.inr (lw_inn 192 (by decide +kernel) rfl)
theorem fl_X5_82 : mt_fl RX5 82 TX4 1 := Or.inr (lw_inn 195 (by decide +kernel) rfl)
set_option maxRecDepth 100000 in
theorem cal_X5_figuresOf : mt_cal yX5_figuresOf cX5_figuresOf 2 (some .int) 1 := ⟨lw_in 351 rfl rfl, lw_in 111 (by decide +kernel) rfl, by decide +kernel, by decide⟩
theorem ins_X5_figuresOf : mt_ins yX5_figuresOf := ⟨lw_in 350 (by decide +kernel) rfl, lw_in 1 (by decide +kernel) rfl⟩
theorem ml_X5_71 : mt_ml RX5 71 yX5_finding := Or.inl (lw_in 343 (by decide +kernel) rfl)
theorem ml_X5_75 : mt_ml RX5 75 yX5_figuresOf := Or.inl (lw_in 348 (by decide +kernel) rfl)
set_option maxRecDepth 100000 in
theorem cal_X5_set : mt_cal yX5_set cX5_set 4 (some .int) 2 := ⟨lw_in 339 rfl rfl, lw_in 111 (by decide +kernel) rfl, by decide +kernel, by decide⟩
theorem ins_X5_set : mt_ins yX5_set := ⟨lw_in 337 (by decide +kernel) rfl, lw_in 338 (by decide +kernel) rfl⟩
set_option maxRecDepth 100000 in
theorem cal_X5_seen : mt_cal yX5_seen cX5_seen 2 (some .int) 1 := ⟨lw_in 355 rfl rfl, lw_in 111 (by decide +kernel) rfl, by decide +kernel, by decide⟩
theorem ins_X5_seen : mt_ins yX5_seen := ⟨lw_in 353 (by decide +kernel) rfl, lw_in 354 (by decide +kernel) rfl⟩
theorem fl_X5_85 : mt_fl RX5 85 TX4 2 := Or.inr (lw_inn 198 (by decide +kernel) rfl)
set_option maxRecDepth 100000 in
theorem cal_X5_event : mt_cal yX5_event cX5_event 4 (some .int) 2 := ⟨lw_in 359 rfl rfl, lw_in 111 (by decide +kernel) rfl, by decide +kernel, by decide⟩
theorem ins_X5_event : mt_ins yX5_event := ⟨lw_in 357 (by decide +kernel) rfl, lw_in 358 (by decide +kernel) rfl⟩
set_option maxRecDepth 100000 in
theorem cal_X5_listed : mt_cal yX5_listed cX5_listed 2 (some .int) 1 := ⟨lw_in 363 rfl rfl, lw_in 111 (by decide +kernel) rfl, by decide +kernel, by decide⟩
theorem ins_X5_listed : mt_ins yX5_listed := ⟨lw_in 361 (by decide +kernel) rfl, lw_in 362 (by decide +kernel) rfl⟩
theorem ml_X5_88 : mt_ml RX5 88 yX5_isPair := Or.inl (lw_in 368 (by decide +kernel) rfl)
theorem fl_X5_91 : mt_fl RX5 91 TX4 7 := Or.inr (lw_inn 211 (by decide +kernel) rfl)
theorem ml_X5_94 : mt_ml RX5 94 yX4_sign := Or.inr (lw_inn 371 (by decide +kernel) rfl)
set_option maxRecDepth 100000 in
theorem cal_X5_treaty : mt_cal yX5_treaty cX5_treaty 4 (some .int) 3 := ⟨lw_in 367 rfl rfl, lw_in 111 (by decide +kernel) rfl, by decide +kernel, by decide⟩
theorem ins_X5_treaty : mt_ins yX5_treaty := ⟨lw_in 365 (by decide +kernel) rfl, lw_in 366 (by decide +kernel) rfl⟩
set_option maxRecDepth 100000 in
theorem cal_X5_isTreaty : mt_cal yX5_isTreaty cX5_isTreaty 2 (some .boolean) 1 := ⟨lw_in 386 rfl rfl, lw_in 111 (by decide +kernel) rfl, by decide +kernel, by decide⟩
theorem ins_X5_isTreaty : mt_ins yX5_isTreaty := ⟨lw_in 385 (by decide +kernel) rfl, lw_in 4 (by decide +kernel) rfl⟩
theorem ml_X5_98 : mt_ml RX5 98 yX5_isTreaty := Or.inl (lw_in 383 (by decide +kernel) rfl)
theorem fl_X5_102 : mt_fl RX5 102 TX4 6 := Or.inr (lw_inn 208 (by decide +kernel) rfl)
theorem ml_X5_106 : mt_ml RX5 106 yX3_tell := Or.inr (lw_inn 387 (by decide +kernel) rfl)
set_option maxRecDepth 100000 in
theorem cal_X5_of : mt_cal yX5_of cX5_of 3 (some .int) 2 := ⟨lw_in 382 rfl rfl, lw_in 111 (by decide +kernel) rfl, by decide +kernel, by decide⟩
theorem ins_X5_of : mt_ins yX5_of := ⟨lw_in 380 (by decide +kernel) rfl, lw_in 381 (by decide +kernel) rfl⟩
theorem ml_X5_110 : mt_ml RX5 110 yX3_takes := Or.inr (lw_inn 417 (by decide +kernel) rfl)
theorem ml_X5_113 : mt_ml RX5 113 yX3_alter := Or.inr (lw_inn 423 (by decide +kernel) rfl)
set_option maxRecDepth 100000 in
theorem cal_X5_change : mt_cal yX5_change cX5_change 6 (some .int) 3 := ⟨lw_in 416 rfl rfl, lw_in 111 (by decide +kernel) rfl, by decide +kernel, by decide⟩
theorem ins_X5_change : mt_ins yX5_change := ⟨lw_in 414 (by decide +kernel) rfl, lw_in 415 (by decide +kernel) rfl⟩
theorem ml_X5_117 : mt_ml RX5 117 yX4_pairsAtWar := Or.inr (lw_inn 431 (by decide +kernel) rfl)
theorem ml_X5_121 : mt_ml RX5 121 yX5_pair := Or.inl (lw_in 445 (by decide +kernel) rfl)
set_option maxRecDepth 100000 in
theorem cal_X5_wars : mt_cal yX5_wars cX5_wars 6 (some .int) 1 := ⟨lw_in 430 rfl rfl, lw_in 111 (by decide +kernel) rfl, by decide +kernel, by decide⟩
theorem ins_X5_wars : mt_ins yX5_wars := ⟨lw_in 428 (by decide +kernel) rfl, lw_in 429 (by decide +kernel) rfl⟩
theorem fl_X5_125 : mt_fl RX5 125 TX4 4 := Or.inr (lw_inn 203 (by decide +kernel) rfl)
theorem kc_X5_128 : Cond.constant RX5 128 (99999) ∈ lw_g := lw_in 450 (by decide +kernel) rfl
theorem ml_X5_129 : mt_ml RX5 129 yX4_passYears := Or.inr (lw_inn 451 (by decide +kernel) rfl)
theorem ml_X5_133 : mt_ml RX5 133 yX4_inForce := Or.inr (lw_inn 493 (by decide +kernel) rfl)
set_option maxRecDepth 100000 in
theorem cal_X5_go : mt_cal yX5_go cX5_go 2 (some .int) 1 := ⟨lw_in 449 rfl rfl, lw_in 111 (by decide +kernel) rfl, by decide +kernel, by decide⟩
theorem ins_X5_go : mt_ins yX5_go := ⟨lw_in 447 (by decide +kernel) rfl, lw_in 448 (by decide +kernel) rfl⟩
theorem kc_J13_314 : Cond.constantLong RJ13 314 (6148914691236517205) ∈ lw_g := lw_in 508 (by decide +kernel) rfl
theorem kc_J13_316 : Cond.constantLong RJ13 316 (3689348814741910323) ∈ lw_g := lw_in 509 (by decide +kernel) rfl
theorem kc_J13_318 : Cond.constantLong RJ13 318 (1085102592571150095) ∈ lw_g := lw_in 510 (by decide +kernel) rfl
set_option maxRecDepth 100000 in
theorem cal_J13_bitCount_95d88 : mt_cal yJ13_bitCount_95d88 cJ13_bitCount_95d88 2 (some .int) 1 := ⟨lw_in 507 rfl rfl, lw_in 120 (by decide +kernel) rfl, by decide +kernel, by decide⟩
theorem sta_J13_bitCount_95d88 : Cond.static yJ13_bitCount_95d88 ∈ lw_g := lw_in 506 (by decide +kernel) rfl
theorem fl_X5_137 : mt_fl RX5 137 TX4 3 := Or.inr (lw_inn 201 (by decide +kernel) rfl)
theorem ml_X5_140 : mt_ml RX5 140 yX4_allBroken := Or.inr (lw_inn 501 (by decide +kernel) rfl)
theorem ml_X5_143 : mt_ml RX5 143 yJ13_bitCount_95d88 := Or.inl (lw_in 505 (by decide +kernel) rfl)
theorem ml_X5_149 : mt_ml RX5 149 yX4_breaking := Or.inr (lw_inn 511 (by decide +kernel) rfl)
theorem ml_X5_152 : mt_ml RX5 152 yX4_marksInForce := Or.inr (lw_inn 516 (by decide +kernel) rfl)
theorem ml_X5_155 : mt_ml RX5 155 yX4_longestHeld := Or.inr (lw_inn 520 (by decide +kernel) rfl)
set_option maxRecDepth 100000 in
theorem cal_X5_now : mt_cal yX5_now cX5_now 2 (some .int) 1 := ⟨lw_in 500 rfl rfl, lw_in 111 (by decide +kernel) rfl, by decide +kernel, by decide⟩
theorem ins_X5_now : mt_ins yX5_now := ⟨lw_in 498 (by decide +kernel) rfl, lw_in 499 (by decide +kernel) rfl⟩
theorem ml_X5_302 : mt_ml RX5 302 yX5_toggled := Or.inl (lw_in 532 (by decide +kernel) rfl)
theorem fl_X5_33 : mt_fl RX5 33 TX5 5 := Or.inl (lw_in 304 (by decide +kernel) rfl)
set_option maxRecDepth 100000 in
theorem cal_X5_foreseeUps : mt_cal yX5_foreseeUps cX5_foreseeUps 5 none 1 := ⟨lw_in 531 rfl rfl, lw_in 111 (by decide +kernel) rfl, by decide +kernel, by decide⟩
theorem ins_X5_foreseeUps : mt_ins yX5_foreseeUps := ⟨lw_in 530 (by decide +kernel) rfl, lw_in 25 (by decide +kernel) rfl⟩
theorem fl_X5_29 : mt_fl RX5 29 TX5 4 := Or.inl (lw_in 303 (by decide +kernel) rfl)
theorem ml_X5_299 : mt_ml RX5 299 yX3_become := Or.inr (lw_inn 537 (by decide +kernel) rfl)
set_option maxRecDepth 100000 in
theorem cal_X5_tryAlone : mt_cal yX5_tryAlone cX5_tryAlone 2 none 1 := ⟨lw_in 536 rfl rfl, lw_in 111 (by decide +kernel) rfl, by decide +kernel, by decide⟩
theorem ins_X5_tryAlone : mt_ins yX5_tryAlone := ⟨lw_in 535 (by decide +kernel) rfl, lw_in 26 (by decide +kernel) rfl⟩
theorem ml_X5_158 : mt_ml RX5 158 yX5_foreseeUps := Or.inl (lw_in 528 (by decide +kernel) rfl)
theorem ml_X5_161 : mt_ml RX5 161 yX5_tryAlone := Or.inl (lw_in 533 (by decide +kernel) rfl)
theorem ml_X5_164 : mt_ml RX5 164 yX3_liveYears := Or.inr (lw_inn 541 (by decide +kernel) rfl)
set_option maxRecDepth 100000 in
theorem cal_X5_ahead : mt_cal yX5_ahead cX5_ahead 5 (some .int) 3 := ⟨lw_in 527 rfl rfl, lw_in 111 (by decide +kernel) rfl, by decide +kernel, by decide⟩
theorem ins_X5_ahead : mt_ins yX5_ahead := ⟨lw_in 525 (by decide +kernel) rfl, lw_in 526 (by decide +kernel) rfl⟩
theorem fl_X5_23 : mt_fl RX5 23 TX5 3 := Or.inl (lw_in 302 (by decide +kernel) rfl)
theorem ml_X5_168 : mt_ml RX5 168 yX4_become := Or.inr (lw_inn 550 (by decide +kernel) rfl)
set_option maxRecDepth 100000 in
theorem cal_X5_gold : mt_cal yX5_gold cX5_gold 2 (some .int) 1 := ⟨lw_in 549 rfl rfl, lw_in 111 (by decide +kernel) rfl, by decide +kernel, by decide⟩
theorem ins_X5_gold : mt_ins yX5_gold := ⟨lw_in 547 (by decide +kernel) rfl, lw_in 548 (by decide +kernel) rfl⟩
theorem fl_X5_172 : mt_fl RX5 172 TX3 7 := Or.inr (lw_inn 172 (by decide +kernel) rfl)
theorem ml_X5_175 : mt_ml RX5 175 yX3_live := Or.inr (lw_inn 562 (by decide +kernel) rfl)
set_option maxRecDepth 100000 in
theorem cal_X5_breaks : mt_cal yX5_breaks cX5_breaks 4 (some .int) 1 := ⟨lw_in 561 rfl rfl, lw_in 111 (by decide +kernel) rfl, by decide +kernel, by decide⟩
theorem ins_X5_breaks : mt_ins yX5_breaks := ⟨lw_in 559 (by decide +kernel) rfl, lw_in 560 (by decide +kernel) rfl⟩
theorem ml_X5_178 : mt_ml RX5 178 yX4_pass := Or.inr (lw_inn 567 (by decide +kernel) rfl)
set_option maxRecDepth 100000 in
theorem cal_X5_war : mt_cal yX5_war cX5_war 6 (some .int) 2 := ⟨lw_in 566 rfl rfl, lw_in 111 (by decide +kernel) rfl, by decide +kernel, by decide⟩
theorem ins_X5_war : mt_ins yX5_war := ⟨lw_in 564 (by decide +kernel) rfl, lw_in 565 (by decide +kernel) rfl⟩
set_option maxRecDepth 100000 in
theorem cal_X5_peace : mt_cal yX5_peace cX5_peace 2 (some .int) 0 := ⟨lw_in 571 rfl rfl, lw_in 111 (by decide +kernel) rfl, by decide +kernel, by decide⟩
theorem ins_X5_peace : mt_ins yX5_peace := ⟨lw_in 569 (by decide +kernel) rfl, lw_in 570 (by decide +kernel) rfl⟩
theorem fl_X5_181 : mt_fl RX5 181 TX3 5 := Or.inr (lw_inn 167 (by decide +kernel) rfl)
set_option maxRecDepth 100000 in
theorem cal_X5_when : mt_cal yX5_when cX5_when 4 (some .int) 2 := ⟨lw_in 575 rfl rfl, lw_in 111 (by decide +kernel) rfl, by decide +kernel, by decide⟩
theorem ins_X5_when : mt_ins yX5_when := ⟨lw_in 573 (by decide +kernel) rfl, lw_in 574 (by decide +kernel) rfl⟩
set_option maxRecDepth 100000 in
theorem cal_X5_yardFor : mt_cal yX5_yardFor cX5_yardFor 5 (some .int) 1 := ⟨lw_in 579 rfl rfl, lw_in 111 (by decide +kernel) rfl, by decide +kernel, by decide⟩
theorem ins_X5_yardFor : mt_ins yX5_yardFor := ⟨lw_in 577 (by decide +kernel) rfl, lw_in 578 (by decide +kernel) rfl⟩
theorem fl_X5_184 : mt_fl RX5 184 TX3 0 := Or.inr (lw_inn 149 (by decide +kernel) rfl)
set_option maxRecDepth 100000 in
theorem cal_X5_kindFor : mt_cal yX5_kindFor cX5_kindFor 6 (some .int) 2 := ⟨lw_in 583 rfl rfl, lw_in 111 (by decide +kernel) rfl, by decide +kernel, by decide⟩
theorem ins_X5_kindFor : mt_ins yX5_kindFor := ⟨lw_in 581 (by decide +kernel) rfl, lw_in 582 (by decide +kernel) rfl⟩
theorem fl_X5_187 : mt_fl RX5 187 TX3 3 := Or.inr (lw_inn 158 (by decide +kernel) rfl)
theorem fl_X5_190 : mt_fl RX5 190 TX3 4 := Or.inr (lw_inn 163 (by decide +kernel) rfl)
set_option maxRecDepth 100000 in
theorem cal_X5_strike : mt_cal yX5_strike cX5_strike 5 (some .int) 2 := ⟨lw_in 587 rfl rfl, lw_in 111 (by decide +kernel) rfl, by decide +kernel, by decide⟩
theorem ins_X5_strike : mt_ins yX5_strike := ⟨lw_in 585 (by decide +kernel) rfl, lw_in 586 (by decide +kernel) rfl⟩
theorem fl_X5_40 : mt_fl RX5 40 TX5 6 := Or.inl (lw_in 305 (by decide +kernel) rfl)
theorem fl_X5_311 : mt_fl RX5 311 TX2 2 := Or.inr (lw_inn 244 (by decide +kernel) rfl)
theorem ml_X5_312 : mt_ml RX5 312 yX2_addOf := Or.inr (lw_inn 596 (by decide +kernel) rfl)
set_option maxRecDepth 100000 in
theorem cal_X5_foreseeStrains : mt_cal yX5_foreseeStrains cX5_foreseeStrains 4 none 1 := ⟨lw_in 595 rfl rfl, lw_in 111 (by decide +kernel) rfl, by decide +kernel, by decide⟩
theorem ins_X5_foreseeStrains : mt_ins yX5_foreseeStrains := ⟨lw_in 594 (by decide +kernel) rfl, lw_in 30 (by decide +kernel) rfl⟩
theorem ml_X5_193 : mt_ml RX5 193 yX5_foreseeStrains := Or.inl (lw_in 592 (by decide +kernel) rfl)
theorem ml_X5_196 : mt_ml RX5 196 yJ6_bitCount_0f7a4 := Or.inl (lw_in 606 (by decide +kernel) rfl)
theorem ml_X5_200 : mt_ml RX5 200 yX2_areEasedBy := Or.inr (lw_inn 607 (by decide +kernel) rfl)
set_option maxRecDepth 100000 in
theorem cal_X5_lull : mt_cal yX5_lull cX5_lull 6 (some .int) 1 := ⟨lw_in 591 rfl rfl, lw_in 111 (by decide +kernel) rfl, by decide +kernel, by decide⟩
theorem ins_X5_lull : mt_ins yX5_lull := ⟨lw_in 589 (by decide +kernel) rfl, lw_in 590 (by decide +kernel) rfl⟩
theorem fl_X5_44 : mt_fl RX5 44 TX5 7 := Or.inl (lw_in 306 (by decide +kernel) rfl)
theorem fl_X5_316 : mt_fl RX5 316 TX3 6 := Or.inr (lw_inn 169 (by decide +kernel) rfl)
theorem fl_X5_47 : mt_fl RX5 47 TX5 8 := Or.inl (lw_in 307 (by decide +kernel) rfl)
set_option maxRecDepth 100000 in
theorem cal_X5_foreseeGains : mt_cal yX5_foreseeGains cX5_foreseeGains 3 none 1 := ⟨lw_in 618 rfl rfl, lw_in 111 (by decide +kernel) rfl, by decide +kernel, by decide⟩
theorem ins_X5_foreseeGains : mt_ins yX5_foreseeGains := ⟨lw_in 617 (by decide +kernel) rfl, lw_in 34 (by decide +kernel) rfl⟩
set_option maxRecDepth 100000 in
theorem cal_X5_goldWithTorn : mt_cal yX5_goldWithTorn cX5_goldWithTorn 4 (some .int) 1 := ⟨lw_in 622 rfl rfl, lw_in 111 (by decide +kernel) rfl, by decide +kernel, by decide⟩
theorem ins_X5_goldWithTorn : mt_ins yX5_goldWithTorn := ⟨lw_in 621 (by decide +kernel) rfl, lw_in 35 (by decide +kernel) rfl⟩
theorem ml_X5_203 : mt_ml RX5 203 yX5_foreseeGains := Or.inl (lw_in 615 (by decide +kernel) rfl)
theorem ml_X5_206 : mt_ml RX5 206 yX5_goldWithTorn := Or.inl (lw_in 619 (by decide +kernel) rfl)
set_option maxRecDepth 100000 in
theorem cal_X5_tear : mt_cal yX5_tear cX5_tear 7 (some .int) 2 := ⟨lw_in 614 rfl rfl, lw_in 111 (by decide +kernel) rfl, by decide +kernel, by decide⟩
theorem ins_X5_tear : mt_ins yX5_tear := ⟨lw_in 612 (by decide +kernel) rfl, lw_in 613 (by decide +kernel) rfl⟩
set_option maxRecDepth 100000 in
theorem cal_X5_isSheet : mt_cal yX5_isSheet cX5_isSheet 2 (some .boolean) 1 := ⟨lw_in 638 rfl rfl, lw_in 111 (by decide +kernel) rfl, by decide +kernel, by decide⟩
theorem ins_X5_isSheet : mt_ins yX5_isSheet := ⟨lw_in 637 (by decide +kernel) rfl, lw_in 38 (by decide +kernel) rfl⟩
theorem ml_X5_255 : mt_ml RX5 255 yX5_isSheet := Or.inl (lw_in 635 (by decide +kernel) rfl)
theorem fl_X5_59 : mt_fl RX5 59 TX5 10 := Or.inl (lw_in 309 (by decide +kernel) rfl)
theorem ml_X5_262 : mt_ml RX5 262 yX1_isMissing := Or.inr (lw_inn 639 (by decide +kernel) rfl)
set_option maxRecDepth 100000 in
theorem cal_X5_faultOfSheet : mt_cal yX5_faultOfSheet cX5_faultOfSheet 2 (some .int) 1 := ⟨lw_in 634 rfl rfl, lw_in 111 (by decide +kernel) rfl, by decide +kernel, by decide⟩
theorem ins_X5_faultOfSheet : mt_ins yX5_faultOfSheet := ⟨lw_in 633 (by decide +kernel) rfl, lw_in 37 (by decide +kernel) rfl⟩
theorem ml_X5_284 : mt_ml RX5 284 yX5_faultOfSheet := Or.inl (lw_in 631 (by decide +kernel) rfl)
set_option maxRecDepth 100000 in
theorem cal_X5_faultOfSheetAndTreaty : mt_cal yX5_faultOfSheetAndTreaty cX5_faultOfSheetAndTreaty 4 (some .int) 2 := ⟨lw_in 630 rfl rfl, lw_in 111 (by decide +kernel) rfl, by decide +kernel, by decide⟩
theorem ins_X5_faultOfSheetAndTreaty : mt_ins yX5_faultOfSheetAndTreaty := ⟨lw_in 629 (by decide +kernel) rfl, lw_in 36 (by decide +kernel) rfl⟩
theorem ml_X5_305 : mt_ml RX5 305 yX3_fadesWithin := Or.inr (lw_inn 652 (by decide +kernel) rfl)
set_option maxRecDepth 100000 in
theorem cal_X5_figuresWeighing : mt_cal yX5_figuresWeighing cX5_figuresWeighing 5 (some .int) 2 := ⟨lw_in 651 rfl rfl, lw_in 111 (by decide +kernel) rfl, by decide +kernel, by decide⟩
theorem ins_X5_figuresWeighing : mt_ins yX5_figuresWeighing := ⟨lw_in 650 (by decide +kernel) rfl, lw_in 41 (by decide +kernel) rfl⟩
theorem ml_X5_308 : mt_ml RX5 308 yX1_allows := Or.inr (lw_inn 664 (by decide +kernel) rfl)
set_option maxRecDepth 100000 in
theorem cal_X5_followsSheet : mt_cal yX5_followsSheet cX5_followsSheet 5 (some .boolean) 3 := ⟨lw_in 663 rfl rfl, lw_in 111 (by decide +kernel) rfl, by decide +kernel, by decide⟩
theorem ins_X5_followsSheet : mt_ins yX5_followsSheet := ⟨lw_in 662 (by decide +kernel) rfl, lw_in 44 (by decide +kernel) rfl⟩
theorem ml_X5_222 : mt_ml RX5 222 yX5_followsSheet := Or.inl (lw_in 660 (by decide +kernel) rfl)
set_option maxRecDepth 100000 in
theorem cal_X5_fitsMark : mt_cal yX5_fitsMark cX5_fitsMark 5 (some .boolean) 4 := ⟨lw_in 659 rfl rfl, lw_in 111 (by decide +kernel) rfl, by decide +kernel, by decide⟩
theorem ins_X5_fitsMark : mt_ins yX5_fitsMark := ⟨lw_in 658 (by decide +kernel) rfl, lw_in 43 (by decide +kernel) rfl⟩
theorem ml_X5_209 : mt_ml RX5 209 yX5_faultOfSheetAndTreaty := Or.inl (lw_in 627 (by decide +kernel) rfl)
theorem ml_X5_212 : mt_ml RX5 212 yX1_lastTold := Or.inr (lw_inn 643 (by decide +kernel) rfl)
theorem ml_X5_215 : mt_ml RX5 215 yX5_figuresWeighing := Or.inl (lw_in 648 (by decide +kernel) rfl)
theorem ml_X5_218 : mt_ml RX5 218 yX5_fitsMark := Or.inl (lw_in 656 (by decide +kernel) rfl)
set_option maxRecDepth 100000 in
theorem cal_X5_fits : mt_cal yX5_fits cX5_fits 8 (some .int) 2 := ⟨lw_in 626 rfl rfl, lw_in 111 (by decide +kernel) rfl, by decide +kernel, by decide⟩
theorem ins_X5_fits : mt_ins yX5_fits := ⟨lw_in 624 (by decide +kernel) rfl, lw_in 625 (by decide +kernel) rfl⟩
set_option maxRecDepth 100000 in
theorem cal_X5_kinds : mt_cal yX5_kinds cX5_kinds 7 (some .int) 2 := ⟨lw_in 672 rfl rfl, lw_in 111 (by decide +kernel) rfl, by decide +kernel, by decide⟩
theorem ins_X5_kinds : mt_ins yX5_kinds := ⟨lw_in 670 (by decide +kernel) rfl, lw_in 671 (by decide +kernel) rfl⟩
theorem ml_X5_226 : mt_ml RX5 226 yX4_draw := Or.inr (lw_inn 677 (by decide +kernel) rfl)
set_option maxRecDepth 100000 in
theorem cal_X5_wakings : mt_cal yX5_wakings cX5_wakings 3 (some .int) 1 := ⟨lw_in 676 rfl rfl, lw_in 111 (by decide +kernel) rfl, by decide +kernel, by decide⟩
theorem ins_X5_wakings : mt_ins yX5_wakings := ⟨lw_in 674 (by decide +kernel) rfl, lw_in 675 (by decide +kernel) rfl⟩
set_option maxRecDepth 100000 in
theorem cal_X5_sharedDivisor : mt_cal yX5_sharedDivisor cX5_sharedDivisor 3 (some .int) 2 := ⟨lw_in 688 rfl rfl, lw_in 111 (by decide +kernel) rfl, by decide +kernel, by decide⟩
theorem sta_X5_sharedDivisor : Cond.static yX5_sharedDivisor ∈ lw_g := lw_in 687 (by decide +kernel) rfl
set_option maxRecDepth 100000 in
theorem cal_X5_power : mt_cal yX5_power cX5_power 5 (some .long) 2 := ⟨lw_in 691 rfl rfl, lw_in 111 (by decide +kernel) rfl, by decide +kernel, by decide⟩
theorem sta_X5_power : Cond.static yX5_power ∈ lw_g := lw_in 690 (by decide +kernel) rfl
theorem ml_X5_229 : mt_ml RX5 229 yX5_sharedDivisor := Or.inl (lw_in 686 (by decide +kernel) rfl)
theorem ml_X5_232 : mt_ml RX5 232 yX5_power := Or.inl (lw_in 689 (by decide +kernel) rfl)
set_option maxRecDepth 100000 in
theorem cal_X5_odds : mt_cal yX5_odds cX5_odds 6 (some .long) 3 := ⟨lw_in 685 rfl rfl, lw_in 111 (by decide +kernel) rfl, by decide +kernel, by decide⟩
theorem ins_X5_odds : mt_ins yX5_odds := ⟨lw_in 683 (by decide +kernel) rfl, lw_in 684 (by decide +kernel) rfl⟩
theorem fl_X5_235 : mt_fl RX5 235 TX4 5 := Or.inr (lw_inn 205 (by decide +kernel) rfl)
set_option maxRecDepth 100000 in
theorem cal_X5_seed : mt_cal yX5_seed cX5_seed 3 (some .int) 1 := ⟨lw_in 695 rfl rfl, lw_in 111 (by decide +kernel) rfl, by decide +kernel, by decide⟩
theorem ins_X5_seed : mt_ins yX5_seed := ⟨lw_in 693 (by decide +kernel) rfl, lw_in 694 (by decide +kernel) rfl⟩
theorem fl_X5_53 : mt_fl RX5 53 TX5 9 := Or.inl (lw_in 308 (by decide +kernel) rfl)
theorem fl_X5_238 : mt_fl RX5 238 TX0 1 := Or.inr (lw_inn 260 (by decide +kernel) rfl)
theorem ml_X5_241 : mt_ml RX5 241 yX0_take := Or.inr (lw_inn 700 (by decide +kernel) rfl)
set_option maxRecDepth 100000 in
theorem cal_X5_feed : mt_cal yX5_feed cX5_feed 4 (some .int) 2 := ⟨lw_in 699 rfl rfl, lw_in 111 (by decide +kernel) rfl, by decide +kernel, by decide⟩
theorem ins_X5_feed : mt_ins yX5_feed := ⟨lw_in 697 (by decide +kernel) rfl, lw_in 698 (by decide +kernel) rfl⟩
set_option maxRecDepth 100000 in
theorem cal_X5_wipe : mt_cal yX5_wipe cX5_wipe 2 (some .int) 0 := ⟨lw_in 707 rfl rfl, lw_in 111 (by decide +kernel) rfl, by decide +kernel, by decide⟩
theorem ins_X5_wipe : mt_ins yX5_wipe := ⟨lw_in 705 (by decide +kernel) rfl, lw_in 706 (by decide +kernel) rfl⟩
theorem ml_X5_245 : mt_ml RX5 245 yX0_readInto := Or.inr (lw_inn 712 (by decide +kernel) rfl)
set_option maxRecDepth 100000 in
theorem cal_X5_text : mt_cal yX5_text cX5_text 2 (some .int) 0 := ⟨lw_in 711 rfl rfl, lw_in 111 (by decide +kernel) rfl, by decide +kernel, by decide⟩
theorem ins_X5_text : mt_ins yX5_text := ⟨lw_in 709 (by decide +kernel) rfl, lw_in 710 (by decide +kernel) rfl⟩
theorem fl_X5_249 : mt_fl RX5 249 TX4 8 := Or.inr (lw_inn 213 (by decide +kernel) rfl)
set_option maxRecDepth 100000 in
theorem cal_X5_hold : mt_cal yX5_hold cX5_hold 3 (some .int) 2 := ⟨lw_in 828 rfl rfl, lw_in 111 (by decide +kernel) rfl, by decide +kernel, by decide⟩
theorem ins_X5_hold : mt_ins yX5_hold := ⟨lw_in 826 (by decide +kernel) rfl, lw_in 827 (by decide +kernel) rfl⟩
theorem ml_X5_252 : mt_ml RX5 252 yX3_isA := Or.inr (lw_inn 833 (by decide +kernel) rfl)
set_option maxRecDepth 100000 in
theorem cal_X5_as : mt_cal yX5_as cX5_as 4 (some .int) 2 := ⟨lw_in 832 rfl rfl, lw_in 111 (by decide +kernel) rfl, by decide +kernel, by decide⟩
theorem ins_X5_as : mt_ins yX5_as := ⟨lw_in 830 (by decide +kernel) rfl, lw_in 831 (by decide +kernel) rfl⟩
theorem ml_X5_258 : mt_ml RX5 258 yX1_begin := Or.inr (lw_inn 843 (by decide +kernel) rfl)
theorem fl_X5_261 : mt_fl RX5 261 TX1 1 := Or.inr (lw_inn 289 (by decide +kernel) rfl)
set_option maxRecDepth 100000 in
theorem cal_X5_sheet : mt_cal yX5_sheet cX5_sheet 4 (some .int) 3 := ⟨lw_in 842 rfl rfl, lw_in 111 (by decide +kernel) rfl, by decide +kernel, by decide⟩
theorem ins_X5_sheet : mt_ins yX5_sheet := ⟨lw_in 840 (by decide +kernel) rfl, lw_in 841 (by decide +kernel) rfl⟩
theorem ml_X5_266 : mt_ml RX5 266 yX1_put := Or.inr (lw_inn 851 (by decide +kernel) rfl)
set_option maxRecDepth 100000 in
theorem cal_X5_write : mt_cal yX5_write cX5_write 4 (some .int) 3 := ⟨lw_in 850 rfl rfl, lw_in 111 (by decide +kernel) rfl, by decide +kernel, by decide⟩
theorem ins_X5_write : mt_ins yX5_write := ⟨lw_in 848 (by decide +kernel) rfl, lw_in 849 (by decide +kernel) rfl⟩
theorem fl_X5_269 : mt_fl RX5 269 TX1 0 := Or.inr (lw_inn 287 (by decide +kernel) rfl)
theorem ml_X5_272 : mt_ml RX5 272 yX1_hasRange := Or.inr (lw_inn 859 (by decide +kernel) rfl)
theorem fl_X5_275 : mt_fl RX5 275 TX1 2 := Or.inr (lw_inn 291 (by decide +kernel) rfl)
theorem ml_X5_278 : Cond.methodLink RX5 278 arraycopyName ∈ lw_g := lw_in 863 (by decide +kernel) rfl
set_option maxRecDepth 100000 in
theorem cal_X5_copy : mt_cal yX5_copy cX5_copy 8 (some .int) 5 := ⟨lw_in 858 rfl rfl, lw_in 111 (by decide +kernel) rfl, by decide +kernel, by decide⟩
theorem ins_X5_copy : mt_ins yX5_copy := ⟨lw_in 856 (by decide +kernel) rfl, lw_in 857 (by decide +kernel) rfl⟩
set_option maxRecDepth 100000 in
theorem cal_X5_load : mt_cal yX5_load cX5_load 5 (some .int) 1 := ⟨lw_in 867 rfl rfl, lw_in 111 (by decide +kernel) rfl, by decide +kernel, by decide⟩
theorem ins_X5_load : mt_ins yX5_load := ⟨lw_in 865 (by decide +kernel) rfl, lw_in 866 (by decide +kernel) rfl⟩
set_option maxRecDepth 100000 in
theorem cal_X5_judge : mt_cal yX5_judge cX5_judge 4 (some .int) 1 := ⟨lw_in 871 rfl rfl, lw_in 111 (by decide +kernel) rfl, by decide +kernel, by decide⟩
theorem ins_X5_judge : mt_ins yX5_judge := ⟨lw_in 869 (by decide +kernel) rfl, lw_in 870 (by decide +kernel) rfl⟩
theorem fl_X5_16 : mt_fl RX5 16 TX5 1 := Or.inl (lw_in 300 (by decide +kernel) rfl)
theorem fl_X5_19 : mt_fl RX5 19 TX5 2 := Or.inl (lw_in 301 (by decide +kernel) rfl)
set_option maxRecDepth 100000 in
theorem cal_X5_image : mt_cal yX5_image cX5_image 1 (some .int) 0 := ⟨lw_in 875 rfl rfl, lw_in 111 (by decide +kernel) rfl, by decide +kernel, by decide⟩
theorem ins_X5_image : mt_ins yX5_image := ⟨lw_in 873 (by decide +kernel) rfl, lw_in 874 (by decide +kernel) rfl⟩
set_option maxRecDepth 100000 in
theorem cal_X5_undo : mt_cal yX5_undo cX5_undo 1 (some .int) 0 := ⟨lw_in 879 rfl rfl, lw_in 111 (by decide +kernel) rfl, by decide +kernel, by decide⟩
theorem ins_X5_undo : mt_ins yX5_undo := ⟨lw_in 877 (by decide +kernel) rfl, lw_in 878 (by decide +kernel) rfl⟩
set_option maxRecDepth 100000 in
theorem cal_X5_forget : mt_cal yX5_forget cX5_forget 2 (some .int) 0 := ⟨lw_in 883 rfl rfl, lw_in 111 (by decide +kernel) rfl, by decide +kernel, by decide⟩
theorem ins_X5_forget : mt_ins yX5_forget := ⟨lw_in 881 (by decide +kernel) rfl, lw_in 882 (by decide +kernel) rfl⟩
theorem ml_X5_292 : mt_ml RX5 292 yX4_spotsHolding := Or.inr (lw_inn 888 (by decide +kernel) rfl)
set_option maxRecDepth 100000 in
theorem cal_X5_count : mt_cal yX5_count cX5_count 2 (some .int) 1 := ⟨lw_in 887 rfl rfl, lw_in 111 (by decide +kernel) rfl, by decide +kernel, by decide⟩
theorem ins_X5_count : mt_ins yX5_count := ⟨lw_in 885 (by decide +kernel) rfl, lw_in 886 (by decide +kernel) rfl⟩
set_option maxRecDepth 100000 in
theorem cal_X5_status : mt_cal yX5_status cX5_status 4 (some .int) 1 := ⟨lw_in 895 rfl rfl, lw_in 111 (by decide +kernel) rfl, by decide +kernel, by decide⟩
theorem ins_X5_status : mt_ins yX5_status := ⟨lw_in 893 (by decide +kernel) rfl, lw_in 894 (by decide +kernel) rfl⟩
theorem fl_X6_19 : mt_fl RX6 19 TX6 4 := Or.inl (lw_in 915 (by decide +kernel) rfl)
theorem kc_X6_60 : Cond.constant RX6 60 (-1000001) ∈ lw_g := lw_in 989 (by decide +kernel) rfl
set_option maxRecDepth 100000 in
theorem cal_X6_finding : mt_cal yX6_finding cX6_finding 2 (some .int) 1 := ⟨lw_in 993 rfl rfl, lw_in 117 (by decide +kernel) rfl, by decide +kernel, by decide⟩
theorem ins_X6_finding : mt_ins yX6_finding := ⟨lw_in 992 (by decide +kernel) rfl, lw_in 65 (by decide +kernel) rfl⟩
set_option maxRecDepth 100000 in
theorem cal_X6_within : mt_cal yX6_within cX6_within 3 (some .boolean) 3 := ⟨lw_in 981 rfl rfl, lw_in 117 (by decide +kernel) rfl, by decide +kernel, by decide⟩
theorem sta_X6_within : Cond.static yX6_within ∈ lw_g := lw_in 980 (by decide +kernel) rfl
theorem fl_X6_9 : mt_fl RX6 9 TX6 0 := Or.inl (lw_in 911 (by decide +kernel) rfl)
set_option maxRecDepth 100000 in
theorem cal_X6_become : mt_cal yX6_become cX6_become 4 (some .int) 2 := ⟨lw_in 988 rfl rfl, lw_in 117 (by decide +kernel) rfl, by decide +kernel, by decide⟩
theorem ins_X6_become : mt_ins yX6_become := ⟨lw_in 987 (by decide +kernel) rfl, lw_in 64 (by decide +kernel) rfl⟩
set_option maxRecDepth 100000 in
theorem cal_X6_copyRow : mt_cal yX6_copyRow cX6_copyRow 3 none 2 := ⟨lw_in 1151 rfl rfl, lw_in 117 (by decide +kernel) rfl, by decide +kernel, by decide⟩
theorem sta_X6_copyRow : Cond.static yX6_copyRow ∈ lw_g := lw_in 1150 (by decide +kernel) rfl
theorem fl_X6_16 : mt_fl RX6 16 TX6 2 := Or.inl (lw_in 913 (by decide +kernel) rfl)
theorem ml_X6_61 : mt_ml RX6 61 yX6_copyRow := Or.inl (lw_in 1149 (by decide +kernel) rfl)
set_option maxRecDepth 100000 in
theorem cal_X6_putBack : mt_cal yX6_putBack cX6_putBack 2 (some .int) 1 := ⟨lw_in 1155 rfl rfl, lw_in 117 (by decide +kernel) rfl, by decide +kernel, by decide⟩
theorem ins_X6_putBack : mt_ins yX6_putBack := ⟨lw_in 1154 (by decide +kernel) rfl, lw_in 90 (by decide +kernel) rfl⟩
theorem kc_X6_65 : Cond.constant RX6 65 (-1000004) ∈ lw_g := lw_in 1176 (by decide +kernel) rfl
theorem ml_X6_66 : mt_ml RX6 66 yX6_finding := Or.inl (lw_in 990 (by decide +kernel) rfl)
set_option maxRecDepth 100000 in
theorem cal_X6_orNone : mt_cal yX6_orNone cX6_orNone 2 (some .int) 1 := ⟨lw_in 1175 rfl rfl, lw_in 117 (by decide +kernel) rfl, by decide +kernel, by decide⟩
theorem ins_X6_orNone : mt_ins yX6_orNone := ⟨lw_in 1174 (by decide +kernel) rfl, lw_in 93 (by decide +kernel) rfl⟩
set_option maxRecDepth 100000 in
theorem cal_X6_bits : mt_cal yX6_bits cX6_bits 3 (some .int) 1 := ⟨lw_in 1057 rfl rfl, lw_in 117 (by decide +kernel) rfl, by decide +kernel, by decide⟩
theorem sta_X6_bits : Cond.static yX6_bits ∈ lw_g := lw_in 1056 (by decide +kernel) rfl
theorem ml_X6_70 : mt_ml RX6 70 yX6_within := Or.inl (lw_in 979 (by decide +kernel) rfl)
set_option maxRecDepth 100000 in
theorem cal_X6_isFigures : mt_cal yX6_isFigures cX6_isFigures 1 (some .boolean) 1 := ⟨lw_in 984 rfl rfl, lw_in 117 (by decide +kernel) rfl, by decide +kernel, by decide⟩
theorem sta_X6_isFigures : Cond.static yX6_isFigures ∈ lw_g := lw_in 983 (by decide +kernel) rfl
set_option maxRecDepth 100000 in
theorem cal_X6_isPower : mt_cal yX6_isPower cX6_isPower 1 (some .boolean) 1 := ⟨lw_in 1018 rfl rfl, lw_in 117 (by decide +kernel) rfl, by decide +kernel, by decide⟩
theorem sta_X6_isPower : Cond.static yX6_isPower ∈ lw_g := lw_in 1017 (by decide +kernel) rfl
theorem ml_X6_74 : mt_ml RX6 74 yX6_isFigures := Or.inl (lw_in 982 (by decide +kernel) rfl)
theorem ml_X6_78 : mt_ml RX6 78 yX6_become := Or.inl (lw_in 985 (by decide +kernel) rfl)
set_option maxRecDepth 100000 in
theorem cal_X6_set : mt_cal yX6_set cX6_set 3 (some .int) 2 := ⟨lw_in 978 rfl rfl, lw_in 117 (by decide +kernel) rfl, by decide +kernel, by decide⟩
theorem ins_X6_set : mt_ins yX6_set := ⟨lw_in 976 (by decide +kernel) rfl, lw_in 977 (by decide +kernel) rfl⟩
set_option maxRecDepth 100000 in
theorem cal_X6_seen : mt_cal yX6_seen cX6_seen 2 (some .int) 1 := ⟨lw_in 997 rfl rfl, lw_in 117 (by decide +kernel) rfl, by decide +kernel, by decide⟩
theorem ins_X6_seen : mt_ins yX6_seen := ⟨lw_in 995 (by decide +kernel) rfl, lw_in 996 (by decide +kernel) rfl⟩
set_option maxRecDepth 100000 in
theorem cal_X6_isPlace : mt_cal yX6_isPlace cX6_isPlace 1 (some .boolean) 1 := ⟨lw_in 1004 rfl rfl, lw_in 117 (by decide +kernel) rfl, by decide +kernel, by decide⟩
theorem sta_X6_isPlace : Cond.static yX6_isPlace ∈ lw_g := lw_in 1003 (by decide +kernel) rfl
theorem ml_X6_82 : mt_ml RX6 82 yX6_isPlace := Or.inl (lw_in 1002 (by decide +kernel) rfl)
set_option maxRecDepth 100000 in
theorem cal_X6_event : mt_cal yX6_event cX6_event 3 (some .int) 2 := ⟨lw_in 1001 rfl rfl, lw_in 117 (by decide +kernel) rfl, by decide +kernel, by decide⟩
theorem ins_X6_event : mt_ins yX6_event := ⟨lw_in 999 (by decide +kernel) rfl, lw_in 1000 (by decide +kernel) rfl⟩
set_option maxRecDepth 100000 in
theorem cal_X6_listed : mt_cal yX6_listed cX6_listed 2 (some .int) 1 := ⟨lw_in 1008 rfl rfl, lw_in 117 (by decide +kernel) rfl, by decide +kernel, by decide⟩
theorem ins_X6_listed : mt_ins yX6_listed := ⟨lw_in 1006 (by decide +kernel) rfl, lw_in 1007 (by decide +kernel) rfl⟩
set_option maxRecDepth 100000 in
theorem cal_X6_treatyAt : mt_cal yX6_treatyAt cX6_treatyAt 2 (some .int) 2 := ⟨lw_in 1026 rfl rfl, lw_in 117 (by decide +kernel) rfl, by decide +kernel, by decide⟩
theorem sta_X6_treatyAt : Cond.static yX6_treatyAt ∈ lw_g := lw_in 1025 (by decide +kernel) rfl
theorem ml_X6_85 : mt_ml RX6 85 yX6_treatyAt := Or.inl (lw_in 1024 (by decide +kernel) rfl)
set_option maxRecDepth 100000 in
theorem cal_X6_treatyIs : mt_cal yX6_treatyIs cX6_treatyIs 3 (some .int) 2 := ⟨lw_in 1046 rfl rfl, lw_in 117 (by decide +kernel) rfl, by decide +kernel, by decide⟩
theorem ins_X6_treatyIs : mt_ins yX6_treatyIs := ⟨lw_in 1045 (by decide +kernel) rfl, lw_in 70 (by decide +kernel) rfl⟩
set_option maxRecDepth 100000 in
theorem cal_X6_isTreaty : mt_cal yX6_isTreaty cX6_isTreaty 2 (some .boolean) 1 := ⟨lw_in 1034 rfl rfl, lw_in 117 (by decide +kernel) rfl, by decide +kernel, by decide⟩
theorem ins_X6_isTreaty : mt_ins yX6_isTreaty := ⟨lw_in 1033 (by decide +kernel) rfl, lw_in 67 (by decide +kernel) rfl⟩
set_option maxRecDepth 100000 in
theorem cal_X6_isKind : mt_cal yX6_isKind cX6_isKind 1 (some .boolean) 1 := ⟨lw_in 1015 rfl rfl, lw_in 117 (by decide +kernel) rfl, by decide +kernel, by decide⟩
theorem sta_X6_isKind : Cond.static yX6_isKind ∈ lw_g := lw_in 1014 (by decide +kernel) rfl
set_option maxRecDepth 100000 in
theorem cal_X6_comes : mt_cal yX6_comes cX6_comes 6 (some .int) 3 := ⟨lw_in 1023 rfl rfl, lw_in 117 (by decide +kernel) rfl, by decide +kernel, by decide⟩
theorem ins_X6_comes : mt_ins yX6_comes := ⟨lw_in 1022 (by decide +kernel) rfl, lw_in 66 (by decide +kernel) rfl⟩
theorem ml_X6_88 : mt_ml RX6 88 yX6_isKind := Or.inl (lw_in 1013 (by decide +kernel) rfl)
theorem ml_X6_91 : mt_ml RX6 91 yX6_isPower := Or.inl (lw_in 1016 (by decide +kernel) rfl)
theorem kc_X6_94 : Cond.constant RX6 94 (-1000002) ∈ lw_g := lw_in 1019 (by decide +kernel) rfl
theorem ml_X6_95 : mt_ml RX6 95 yX6_comes := Or.inl (lw_in 1020 (by decide +kernel) rfl)
set_option maxRecDepth 100000 in
theorem cal_X6_treaty : mt_cal yX6_treaty cX6_treaty 4 (some .int) 3 := ⟨lw_in 1012 rfl rfl, lw_in 117 (by decide +kernel) rfl, by decide +kernel, by decide⟩
theorem ins_X6_treaty : mt_ins yX6_treaty := ⟨lw_in 1010 (by decide +kernel) rfl, lw_in 1011 (by decide +kernel) rfl⟩
theorem ml_X6_99 : mt_ml RX6 99 yX6_treatyIs := Or.inl (lw_in 1043 (by decide +kernel) rfl)
set_option maxRecDepth 100000 in
theorem cal_X6_bears : mt_cal yX6_bears cX6_bears 3 (some .int) 1 := ⟨lw_in 1042 rfl rfl, lw_in 117 (by decide +kernel) rfl, by decide +kernel, by decide⟩
theorem ins_X6_bears : mt_ins yX6_bears := ⟨lw_in 1041 (by decide +kernel) rfl, lw_in 69 (by decide +kernel) rfl⟩
set_option maxRecDepth 100000 in
theorem cal_X6_fades : mt_cal yX6_fades cX6_fades 2 (some .int) 1 := ⟨lw_in 1050 rfl rfl, lw_in 117 (by decide +kernel) rfl, by decide +kernel, by decide⟩
theorem ins_X6_fades : mt_ins yX6_fades := ⟨lw_in 1049 (by decide +kernel) rfl, lw_in 71 (by decide +kernel) rfl⟩
theorem ml_X6_102 : mt_ml RX6 102 yX6_bits := Or.inl (lw_in 1055 (by decide +kernel) rfl)
set_option maxRecDepth 100000 in
theorem cal_X6_yields : mt_cal yX6_yields cX6_yields 3 (some .int) 1 := ⟨lw_in 1054 rfl rfl, lw_in 117 (by decide +kernel) rfl, by decide +kernel, by decide⟩
theorem ins_X6_yields : mt_ins yX6_yields := ⟨lw_in 1053 (by decide +kernel) rfl, lw_in 72 (by decide +kernel) rfl⟩
set_option maxRecDepth 100000 in
theorem cal_X6_renews : mt_cal yX6_renews cX6_renews 2 (some .int) 1 := ⟨lw_in 1061 rfl rfl, lw_in 117 (by decide +kernel) rfl, by decide +kernel, by decide⟩
theorem ins_X6_renews : mt_ins yX6_renews := ⟨lw_in 1060 (by decide +kernel) rfl, lw_in 73 (by decide +kernel) rfl⟩
set_option maxRecDepth 100000 in
theorem cal_X6_upIn : mt_cal yX6_upIn cX6_upIn 2 (some .int) 1 := ⟨lw_in 1065 rfl rfl, lw_in 117 (by decide +kernel) rfl, by decide +kernel, by decide⟩
theorem ins_X6_upIn : mt_ins yX6_upIn := ⟨lw_in 1064 (by decide +kernel) rfl, lw_in 74 (by decide +kernel) rfl⟩
theorem ml_X6_105 : mt_ml RX6 105 yX6_bears := Or.inl (lw_in 1039 (by decide +kernel) rfl)
theorem ml_X6_108 : mt_ml RX6 108 yX6_fades := Or.inl (lw_in 1047 (by decide +kernel) rfl)
theorem ml_X6_111 : mt_ml RX6 111 yX6_yields := Or.inl (lw_in 1051 (by decide +kernel) rfl)
theorem ml_X6_114 : mt_ml RX6 114 yX6_renews := Or.inl (lw_in 1058 (by decide +kernel) rfl)
theorem ml_X6_117 : mt_ml RX6 117 yX6_upIn := Or.inl (lw_in 1062 (by decide +kernel) rfl)
set_option maxRecDepth 100000 in
theorem cal_X6_told : mt_cal yX6_told cX6_told 3 (some .int) 2 := ⟨lw_in 1038 rfl rfl, lw_in 117 (by decide +kernel) rfl, by decide +kernel, by decide⟩
theorem ins_X6_told : mt_ins yX6_told := ⟨lw_in 1037 (by decide +kernel) rfl, lw_in 68 (by decide +kernel) rfl⟩
theorem ml_X6_120 : mt_ml RX6 120 yX6_isTreaty := Or.inl (lw_in 1031 (by decide +kernel) rfl)
theorem ml_X6_123 : mt_ml RX6 123 yX6_told := Or.inl (lw_in 1035 (by decide +kernel) rfl)
set_option maxRecDepth 100000 in
theorem cal_X6_of : mt_cal yX6_of cX6_of 3 (some .int) 2 := ⟨lw_in 1030 rfl rfl, lw_in 117 (by decide +kernel) rfl, by decide +kernel, by decide⟩
theorem ins_X6_of : mt_ins yX6_of := ⟨lw_in 1028 (by decide +kernel) rfl, lw_in 1029 (by decide +kernel) rfl⟩
set_option maxRecDepth 100000 in
theorem cal_X6_isField : mt_cal yX6_isField cX6_isField 4 (some .boolean) 3 := ⟨lw_in 1073 rfl rfl, lw_in 117 (by decide +kernel) rfl, by decide +kernel, by decide⟩
theorem ins_X6_isField : mt_ins yX6_isField := ⟨lw_in 1072 (by decide +kernel) rfl, lw_in 75 (by decide +kernel) rfl⟩
theorem ml_X6_126 : mt_ml RX6 126 yX6_isField := Or.inl (lw_in 1070 (by decide +kernel) rfl)
set_option maxRecDepth 100000 in
theorem cal_X6_change : mt_cal yX6_change cX6_change 4 (some .int) 3 := ⟨lw_in 1069 rfl rfl, lw_in 117 (by decide +kernel) rfl, by decide +kernel, by decide⟩
theorem ins_X6_change : mt_ins yX6_change := ⟨lw_in 1067 (by decide +kernel) rfl, lw_in 1068 (by decide +kernel) rfl⟩
set_option maxRecDepth 100000 in
theorem cal_X6_areBetween : mt_cal yX6_areBetween cX6_areBetween 6 (some .boolean) 3 := ⟨lw_in 1085 rfl rfl, lw_in 117 (by decide +kernel) rfl, by decide +kernel, by decide⟩
theorem ins_X6_areBetween : mt_ins yX6_areBetween := ⟨lw_in 1084 (by decide +kernel) rfl, lw_in 77 (by decide +kernel) rfl⟩
theorem ml_X6_129 : mt_ml RX6 129 yX6_areBetween := Or.inl (lw_in 1082 (by decide +kernel) rfl)
set_option maxRecDepth 100000 in
theorem cal_X6_isWar : mt_cal yX6_isWar cX6_isWar 5 (some .boolean) 2 := ⟨lw_in 1081 rfl rfl, lw_in 117 (by decide +kernel) rfl, by decide +kernel, by decide⟩
theorem ins_X6_isWar : mt_ins yX6_isWar := ⟨lw_in 1080 (by decide +kernel) rfl, lw_in 76 (by decide +kernel) rfl⟩
theorem ml_X6_132 : mt_ml RX6 132 yX6_isWar := Or.inl (lw_in 1078 (by decide +kernel) rfl)
set_option maxRecDepth 100000 in
theorem cal_X6_wars : mt_cal yX6_wars cX6_wars 4 (some .int) 1 := ⟨lw_in 1077 rfl rfl, lw_in 117 (by decide +kernel) rfl, by decide +kernel, by decide⟩
theorem ins_X6_wars : mt_ins yX6_wars := ⟨lw_in 1075 (by decide +kernel) rfl, lw_in 1076 (by decide +kernel) rfl⟩
set_option maxRecDepth 100000 in
theorem cal_X6_pairsAtWar : mt_cal yX6_pairsAtWar cX6_pairsAtWar 4 (some .int) 0 := ⟨lw_in 1132 rfl rfl, lw_in 117 (by decide +kernel) rfl, by decide +kernel, by decide⟩
theorem ins_X6_pairsAtWar : mt_ins yX6_pairsAtWar := ⟨lw_in 1131 (by decide +kernel) rfl, lw_in 86 (by decide +kernel) rfl⟩
theorem mm_X6_136 : Cond.methodLink RX6 136 Lib.Math.min.name ∈ lw_g := lw_in 1108 (by decide +kernel) rfl
set_option maxRecDepth 100000 in
theorem cal_X6_more : mt_cal yX6_more cX6_more 4 none 3 := ⟨lw_in 1107 rfl rfl, lw_in 117 (by decide +kernel) rfl, by decide +kernel, by decide⟩
theorem ins_X6_more : mt_ins yX6_more := ⟨lw_in 1106 (by decide +kernel) rfl, lw_in 81 (by decide +kernel) rfl⟩
set_option maxRecDepth 100000 in
theorem cal_X6_fadesNow : mt_cal yX6_fadesNow cX6_fadesNow 4 none 1 := ⟨lw_in 1112 rfl rfl, lw_in 117 (by decide +kernel) rfl, by decide +kernel, by decide⟩
theorem ins_X6_fadesNow : mt_ins yX6_fadesNow := ⟨lw_in 1111 (by decide +kernel) rfl, lw_in 82 (by decide +kernel) rfl⟩
theorem ml_X6_141 : mt_ml RX6 141 yX6_more := Or.inl (lw_in 1104 (by decide +kernel) rfl)
theorem fl_X6_145 : mt_fl RX6 145 TX6 5 := Or.inl (lw_in 916 (by decide +kernel) rfl)
theorem kc_X6_149 : Cond.constant RX6 149 (99999) ∈ lw_g := lw_in 1090 (by decide +kernel) rfl
theorem ml_X6_150 : mt_ml RX6 150 yX6_fadesNow := Or.inl (lw_in 1109 (by decide +kernel) rfl)
set_option maxRecDepth 100000 in
theorem cal_X6_holds : mt_cal yX6_holds cX6_holds 2 none 1 := ⟨lw_in 1103 rfl rfl, lw_in 117 (by decide +kernel) rfl, by decide +kernel, by decide⟩
theorem ins_X6_holds : mt_ins yX6_holds := ⟨lw_in 1102 (by decide +kernel) rfl, lw_in 80 (by decide +kernel) rfl⟩
set_option maxRecDepth 100000 in
theorem cal_X6_waits : mt_cal yX6_waits cX6_waits 2 none 1 := ⟨lw_in 1116 rfl rfl, lw_in 117 (by decide +kernel) rfl, by decide +kernel, by decide⟩
theorem ins_X6_waits : mt_ins yX6_waits := ⟨lw_in 1115 (by decide +kernel) rfl, lw_in 83 (by decide +kernel) rfl⟩
theorem ml_X6_154 : mt_ml RX6 154 yX6_holds := Or.inl (lw_in 1100 (by decide +kernel) rfl)
theorem ml_X6_157 : mt_ml RX6 157 yX6_waits := Or.inl (lw_in 1113 (by decide +kernel) rfl)
set_option maxRecDepth 100000 in
theorem cal_X6_year : mt_cal yX6_year cX6_year 3 none 0 := ⟨lw_in 1099 rfl rfl, lw_in 117 (by decide +kernel) rfl, by decide +kernel, by decide⟩
theorem ins_X6_year : mt_ins yX6_year := ⟨lw_in 1098 (by decide +kernel) rfl, lw_in 79 (by decide +kernel) rfl⟩
theorem ml_X6_160 : mt_ml RX6 160 yX6_year := Or.inl (lw_in 1096 (by decide +kernel) rfl)
set_option maxRecDepth 100000 in
theorem cal_X6_yearsGo : mt_cal yX6_yearsGo cX6_yearsGo 3 none 1 := ⟨lw_in 1095 rfl rfl, lw_in 117 (by decide +kernel) rfl, by decide +kernel, by decide⟩
theorem ins_X6_yearsGo : mt_ins yX6_yearsGo := ⟨lw_in 1094 (by decide +kernel) rfl, lw_in 78 (by decide +kernel) rfl⟩
set_option maxRecDepth 100000 in
theorem cal_X6_sumOf : mt_cal yX6_sumOf cX6_sumOf 4 (some .int) 1 := ⟨lw_in 1128 rfl rfl, lw_in 117 (by decide +kernel) rfl, by decide +kernel, by decide⟩
theorem ins_X6_sumOf : mt_ins yX6_sumOf := ⟨lw_in 1127 (by decide +kernel) rfl, lw_in 85 (by decide +kernel) rfl⟩
set_option maxRecDepth 100000 in
theorem cal_X6_inForce : mt_cal yX6_inForce cX6_inForce 3 (some .int) 0 := ⟨lw_in 1120 rfl rfl, lw_in 117 (by decide +kernel) rfl, by decide +kernel, by decide⟩
theorem ins_X6_inForce : mt_ins yX6_inForce := ⟨lw_in 1119 (by decide +kernel) rfl, lw_in 84 (by decide +kernel) rfl⟩
theorem kc_X6_163 : Cond.constant RX6 163 (-1000005) ∈ lw_g := lw_in 1091 (by decide +kernel) rfl
theorem ml_X6_164 : mt_ml RX6 164 yX6_yearsGo := Or.inl (lw_in 1092 (by decide +kernel) rfl)
theorem ml_X6_167 : mt_ml RX6 167 yX6_inForce := Or.inl (lw_in 1117 (by decide +kernel) rfl)
set_option maxRecDepth 100000 in
theorem cal_X6_go : mt_cal yX6_go cX6_go 2 (some .int) 1 := ⟨lw_in 1089 rfl rfl, lw_in 117 (by decide +kernel) rfl, by decide +kernel, by decide⟩
theorem ins_X6_go : mt_ins yX6_go := ⟨lw_in 1087 (by decide +kernel) rfl, lw_in 1088 (by decide +kernel) rfl⟩
set_option maxRecDepth 100000 in
theorem cal_X6_wouldBreak : mt_cal yX6_wouldBreak cX6_wouldBreak 3 (some .int) 0 := ⟨lw_in 1136 rfl rfl, lw_in 117 (by decide +kernel) rfl, by decide +kernel, by decide⟩
theorem ins_X6_wouldBreak : mt_ins yX6_wouldBreak := ⟨lw_in 1135 (by decide +kernel) rfl, lw_in 87 (by decide +kernel) rfl⟩
set_option maxRecDepth 100000 in
theorem cal_X6_marked : mt_cal yX6_marked cX6_marked 3 (some .int) 0 := ⟨lw_in 1140 rfl rfl, lw_in 117 (by decide +kernel) rfl, by decide +kernel, by decide⟩
theorem ins_X6_marked : mt_ins yX6_marked := ⟨lw_in 1139 (by decide +kernel) rfl, lw_in 88 (by decide +kernel) rfl⟩
set_option maxRecDepth 100000 in
theorem cal_X6_heldLongest : mt_cal yX6_heldLongest cX6_heldLongest 4 (some .int) 0 := ⟨lw_in 1144 rfl rfl, lw_in 117 (by decide +kernel) rfl, by decide +kernel, by decide⟩
theorem ins_X6_heldLongest : mt_ins yX6_heldLongest := ⟨lw_in 1143 (by decide +kernel) rfl, lw_in 89 (by decide +kernel) rfl⟩
theorem ml_X6_171 : mt_ml RX6 171 yX6_sumOf := Or.inl (lw_in 1125 (by decide +kernel) rfl)
theorem ml_X6_174 : mt_ml RX6 174 yX6_pairsAtWar := Or.inl (lw_in 1129 (by decide +kernel) rfl)
theorem ml_X6_177 : mt_ml RX6 177 yX6_wouldBreak := Or.inl (lw_in 1133 (by decide +kernel) rfl)
theorem ml_X6_180 : mt_ml RX6 180 yX6_marked := Or.inl (lw_in 1137 (by decide +kernel) rfl)
theorem ml_X6_183 : mt_ml RX6 183 yX6_heldLongest := Or.inl (lw_in 1141 (by decide +kernel) rfl)
set_option maxRecDepth 100000 in
theorem cal_X6_now : mt_cal yX6_now cX6_now 2 (some .int) 1 := ⟨lw_in 1124 rfl rfl, lw_in 117 (by decide +kernel) rfl, by decide +kernel, by decide⟩
theorem ins_X6_now : mt_ins yX6_now := ⟨lw_in 1122 (by decide +kernel) rfl, lw_in 1123 (by decide +kernel) rfl⟩
theorem ml_X6_186 : mt_ml RX6 186 yX6_putBack := Or.inl (lw_in 1152 (by decide +kernel) rfl)
set_option maxRecDepth 100000 in
theorem cal_X6_behind : mt_cal yX6_behind cX6_behind 3 (some .int) 2 := ⟨lw_in 1163 rfl rfl, lw_in 117 (by decide +kernel) rfl, by decide +kernel, by decide⟩
theorem ins_X6_behind : mt_ins yX6_behind := ⟨lw_in 1162 (by decide +kernel) rfl, lw_in 91 (by decide +kernel) rfl⟩
set_option maxRecDepth 100000 in
theorem cal_X6_ahead : mt_cal yX6_ahead cX6_ahead 5 (some .int) 3 := ⟨lw_in 1148 rfl rfl, lw_in 117 (by decide +kernel) rfl, by decide +kernel, by decide⟩
theorem ins_X6_ahead : mt_ins yX6_ahead := ⟨lw_in 1146 (by decide +kernel) rfl, lw_in 1147 (by decide +kernel) rfl⟩
theorem ml_X6_189 : mt_ml RX6 189 yX6_behind := Or.inl (lw_in 1160 (by decide +kernel) rfl)
set_option maxRecDepth 100000 in
theorem cal_X6_gold : mt_cal yX6_gold cX6_gold 2 (some .int) 1 := ⟨lw_in 1159 rfl rfl, lw_in 117 (by decide +kernel) rfl, by decide +kernel, by decide⟩
theorem ins_X6_gold : mt_ins yX6_gold := ⟨lw_in 1157 (by decide +kernel) rfl, lw_in 1158 (by decide +kernel) rfl⟩
set_option maxRecDepth 100000 in
theorem cal_X6_yearsTo : mt_cal yX6_yearsTo cX6_yearsTo 4 (some .int) 2 := ⟨lw_in 1171 rfl rfl, lw_in 117 (by decide +kernel) rfl, by decide +kernel, by decide⟩
theorem ins_X6_yearsTo : mt_ins yX6_yearsTo := ⟨lw_in 1170 (by decide +kernel) rfl, lw_in 92 (by decide +kernel) rfl⟩
theorem ml_X6_192 : mt_ml RX6 192 yX6_yearsTo := Or.inl (lw_in 1168 (by decide +kernel) rfl)
theorem ml_X6_195 : mt_ml RX6 195 yX6_orNone := Or.inl (lw_in 1172 (by decide +kernel) rfl)
set_option maxRecDepth 100000 in
theorem cal_X6_breaks : mt_cal yX6_breaks cX6_breaks 2 (some .int) 1 := ⟨lw_in 1167 rfl rfl, lw_in 117 (by decide +kernel) rfl, by decide +kernel, by decide⟩
theorem ins_X6_breaks : mt_ins yX6_breaks := ⟨lw_in 1165 (by decide +kernel) rfl, lw_in 1166 (by decide +kernel) rfl⟩
set_option maxRecDepth 100000 in
theorem cal_X6_war : mt_cal yX6_war cX6_war 4 (some .int) 2 := ⟨lw_in 1180 rfl rfl, lw_in 117 (by decide +kernel) rfl, by decide +kernel, by decide⟩
theorem ins_X6_war : mt_ins yX6_war := ⟨lw_in 1178 (by decide +kernel) rfl, lw_in 1179 (by decide +kernel) rfl⟩
set_option maxRecDepth 100000 in
theorem cal_X6_peace : mt_cal yX6_peace cX6_peace 2 (some .int) 0 := ⟨lw_in 1184 rfl rfl, lw_in 117 (by decide +kernel) rfl, by decide +kernel, by decide⟩
theorem ins_X6_peace : mt_ins yX6_peace := ⟨lw_in 1182 (by decide +kernel) rfl, lw_in 1183 (by decide +kernel) rfl⟩
set_option maxRecDepth 100000 in
theorem cal_X6_when : mt_cal yX6_when cX6_when 3 (some .int) 2 := ⟨lw_in 1188 rfl rfl, lw_in 117 (by decide +kernel) rfl, by decide +kernel, by decide⟩
theorem ins_X6_when : mt_ins yX6_when := ⟨lw_in 1186 (by decide +kernel) rfl, lw_in 1187 (by decide +kernel) rfl⟩
set_option maxRecDepth 100000 in
theorem cal_X6_isThought : mt_cal yX6_isThought cX6_isThought 1 (some .boolean) 1 := ⟨lw_in 1195 rfl rfl, lw_in 117 (by decide +kernel) rfl, by decide +kernel, by decide⟩
theorem sta_X6_isThought : Cond.static yX6_isThought ∈ lw_g := lw_in 1194 (by decide +kernel) rfl
theorem ml_X6_198 : mt_ml RX6 198 yX6_isThought := Or.inl (lw_in 1193 (by decide +kernel) rfl)
set_option maxRecDepth 100000 in
theorem cal_X6_yardFor : mt_cal yX6_yardFor cX6_yardFor 7 (some .int) 1 := ⟨lw_in 1192 rfl rfl, lw_in 117 (by decide +kernel) rfl, by decide +kernel, by decide⟩
theorem ins_X6_yardFor : mt_ins yX6_yardFor := ⟨lw_in 1190 (by decide +kernel) rfl, lw_in 1191 (by decide +kernel) rfl⟩
set_option maxRecDepth 100000 in
theorem cal_X6_kindFor : mt_cal yX6_kindFor cX6_kindFor 9 (some .int) 2 := ⟨lw_in 1199 rfl rfl, lw_in 117 (by decide +kernel) rfl, by decide +kernel, by decide⟩
theorem ins_X6_kindFor : mt_ins yX6_kindFor := ⟨lw_in 1197 (by decide +kernel) rfl, lw_in 1198 (by decide +kernel) rfl⟩
set_option maxRecDepth 100000 in
theorem cal_X6_strike : mt_cal yX6_strike cX6_strike 7 (some .int) 2 := ⟨lw_in 1203 rfl rfl, lw_in 117 (by decide +kernel) rfl, by decide +kernel, by decide⟩
theorem ins_X6_strike : mt_ins yX6_strike := ⟨lw_in 1201 (by decide +kernel) rfl, lw_in 1202 (by decide +kernel) rfl⟩
set_option maxRecDepth 100000 in
theorem cal_X6_isLulled : mt_cal yX6_isLulled cX6_isLulled 4 (some .boolean) 2 := ⟨lw_in 1211 rfl rfl, lw_in 117 (by decide +kernel) rfl, by decide +kernel, by decide⟩
theorem ins_X6_isLulled : mt_ins yX6_isLulled := ⟨lw_in 1210 (by decide +kernel) rfl, lw_in 94 (by decide +kernel) rfl⟩
theorem ml_X6_201 : mt_ml RX6 201 yX6_isLulled := Or.inl (lw_in 1208 (by decide +kernel) rfl)
set_option maxRecDepth 100000 in
theorem cal_X6_lull : mt_cal yX6_lull cX6_lull 4 (some .int) 1 := ⟨lw_in 1207 rfl rfl, lw_in 117 (by decide +kernel) rfl, by decide +kernel, by decide⟩
theorem ins_X6_lull : mt_ins yX6_lull := ⟨lw_in 1205 (by decide +kernel) rfl, lw_in 1206 (by decide +kernel) rfl⟩
set_option maxRecDepth 100000 in
theorem cal_X6_goldTorn : mt_cal yX6_goldTorn cX6_goldTorn 4 (some .int) 2 := ⟨lw_in 1219 rfl rfl, lw_in 117 (by decide +kernel) rfl, by decide +kernel, by decide⟩
theorem ins_X6_goldTorn : mt_ins yX6_goldTorn := ⟨lw_in 1218 (by decide +kernel) rfl, lw_in 95 (by decide +kernel) rfl⟩
theorem ml_X6_204 : mt_ml RX6 204 yX6_goldTorn := Or.inl (lw_in 1216 (by decide +kernel) rfl)
set_option maxRecDepth 100000 in
theorem cal_X6_tear : mt_cal yX6_tear cX6_tear 5 (some .int) 2 := ⟨lw_in 1215 rfl rfl, lw_in 117 (by decide +kernel) rfl, by decide +kernel, by decide⟩
theorem ins_X6_tear : mt_ins yX6_tear := ⟨lw_in 1213 (by decide +kernel) rfl, lw_in 1214 (by decide +kernel) rfl⟩
set_option maxRecDepth 100000 in
theorem cal_X6_isSheet : mt_cal yX6_isSheet cX6_isSheet 1 (some .boolean) 1 := ⟨lw_in 1230 rfl rfl, lw_in 117 (by decide +kernel) rfl, by decide +kernel, by decide⟩
theorem sta_X6_isSheet : Cond.static yX6_isSheet ∈ lw_g := lw_in 1229 (by decide +kernel) rfl
theorem ml_X6_207 : mt_ml RX6 207 yX6_isSheet := Or.inl (lw_in 1228 (by decide +kernel) rfl)
theorem fl_X6_48 : mt_fl RX6 48 TX6 17 := Or.inl (lw_in 928 (by decide +kernel) rfl)
theorem kc_X6_210 : Cond.constant RX6 210 (-1000006) ∈ lw_g := lw_in 1231 (by decide +kernel) rfl
set_option maxRecDepth 100000 in
theorem cal_X6_lacks : mt_cal yX6_lacks cX6_lacks 3 (some .int) 2 := ⟨lw_in 1227 rfl rfl, lw_in 117 (by decide +kernel) rfl, by decide +kernel, by decide⟩
theorem ins_X6_lacks : mt_ins yX6_lacks := ⟨lw_in 1226 (by decide +kernel) rfl, lw_in 96 (by decide +kernel) rfl⟩
theorem fl_X6_54 : mt_fl RX6 54 TX6 19 := Or.inl (lw_in 930 (by decide +kernel) rfl)
set_option maxRecDepth 100000 in
theorem cal_X6_isSo : mt_cal yX6_isSo cX6_isSo 7 (some .boolean) 3 := ⟨lw_in 1235 rfl rfl, lw_in 117 (by decide +kernel) rfl, by decide +kernel, by decide⟩
theorem ins_X6_isSo : mt_ins yX6_isSo := ⟨lw_in 1234 (by decide +kernel) rfl, lw_in 97 (by decide +kernel) rfl⟩
theorem ml_X6_211 : mt_ml RX6 211 yX6_lacks := Or.inl (lw_in 1224 (by decide +kernel) rfl)
theorem fl_X6_51 : mt_fl RX6 51 TX6 18 := Or.inl (lw_in 929 (by decide +kernel) rfl)
theorem ml_X6_215 : mt_ml RX6 215 yX6_isSo := Or.inl (lw_in 1232 (by decide +kernel) rfl)
set_option maxRecDepth 100000 in
theorem cal_X6_fits : mt_cal yX6_fits cX6_fits 8 (some .int) 2 := ⟨lw_in 1223 rfl rfl, lw_in 117 (by decide +kernel) rfl, by decide +kernel, by decide⟩
theorem ins_X6_fits : mt_ins yX6_fits := ⟨lw_in 1221 (by decide +kernel) rfl, lw_in 1222 (by decide +kernel) rfl⟩
set_option maxRecDepth 100000 in
theorem cal_X6_kinds : mt_cal yX6_kinds cX6_kinds 8 (some .int) 2 := ⟨lw_in 1239 rfl rfl, lw_in 117 (by decide +kernel) rfl, by decide +kernel, by decide⟩
theorem ins_X6_kinds : mt_ins yX6_kinds := ⟨lw_in 1237 (by decide +kernel) rfl, lw_in 1238 (by decide +kernel) rfl⟩
theorem kc_X6_218 : Cond.constant RX6 218 (1103515245) ∈ lw_g := lw_in 1248 (by decide +kernel) rfl
set_option maxRecDepth 100000 in
theorem cal_X6_drawn : mt_cal yX6_drawn cX6_drawn 1 (some .int) 0 := ⟨lw_in 1247 rfl rfl, lw_in 117 (by decide +kernel) rfl, by decide +kernel, by decide⟩
theorem ins_X6_drawn : mt_ins yX6_drawn := ⟨lw_in 1246 (by decide +kernel) rfl, lw_in 98 (by decide +kernel) rfl⟩
theorem ml_X6_219 : mt_ml RX6 219 yX6_drawn := Or.inl (lw_in 1244 (by decide +kernel) rfl)
set_option maxRecDepth 100000 in
theorem cal_X6_wakings : mt_cal yX6_wakings cX6_wakings 4 (some .int) 1 := ⟨lw_in 1243 rfl rfl, lw_in 117 (by decide +kernel) rfl, by decide +kernel, by decide⟩
theorem ins_X6_wakings : mt_ins yX6_wakings := ⟨lw_in 1241 (by decide +kernel) rfl, lw_in 1242 (by decide +kernel) rfl⟩
set_option maxRecDepth 100000 in
theorem cal_X6_odds : mt_cal yX6_odds cX6_odds 10 (some .long) 3 := ⟨lw_in 1252 rfl rfl, lw_in 117 (by decide +kernel) rfl, by decide +kernel, by decide⟩
theorem ins_X6_odds : mt_ins yX6_odds := ⟨lw_in 1250 (by decide +kernel) rfl, lw_in 1251 (by decide +kernel) rfl⟩
set_option maxRecDepth 100000 in
theorem cal_X6_seed : mt_cal yX6_seed cX6_seed 2 (some .int) 1 := ⟨lw_in 1256 rfl rfl, lw_in 117 (by decide +kernel) rfl, by decide +kernel, by decide⟩
theorem ins_X6_seed : mt_ins yX6_seed := ⟨lw_in 1254 (by decide +kernel) rfl, lw_in 1255 (by decide +kernel) rfl⟩
theorem fl_X6_222 : mt_fl RX6 222 TX6 7 := Or.inl (lw_in 918 (by decide +kernel) rfl)
theorem fl_X6_22 : mt_fl RX6 22 TX6 6 := Or.inl (lw_in 917 (by decide +kernel) rfl)
set_option maxRecDepth 100000 in
theorem cal_X6_feed : mt_cal yX6_feed cX6_feed 4 (some .int) 2 := ⟨lw_in 1260 rfl rfl, lw_in 117 (by decide +kernel) rfl, by decide +kernel, by decide⟩
theorem ins_X6_feed : mt_ins yX6_feed := ⟨lw_in 1258 (by decide +kernel) rfl, lw_in 1259 (by decide +kernel) rfl⟩
set_option maxRecDepth 100000 in
theorem cal_X6_wipe : mt_cal yX6_wipe cX6_wipe 2 (some .int) 0 := ⟨lw_in 1264 rfl rfl, lw_in 117 (by decide +kernel) rfl, by decide +kernel, by decide⟩
theorem ins_X6_wipe : mt_ins yX6_wipe := ⟨lw_in 1262 (by decide +kernel) rfl, lw_in 1263 (by decide +kernel) rfl⟩
set_option maxRecDepth 100000 in
theorem cal_X6_byteAt : mt_cal yX6_byteAt cX6_byteAt 2 (some .int) 1 := ⟨lw_in 1276 rfl rfl, lw_in 117 (by decide +kernel) rfl, by decide +kernel, by decide⟩
theorem ins_X6_byteAt : mt_ins yX6_byteAt := ⟨lw_in 1275 (by decide +kernel) rfl, lw_in 100 (by decide +kernel) rfl⟩
theorem fl_X6_225 : mt_fl RX6 225 TX6 9 := Or.inl (lw_in 920 (by decide +kernel) rfl)
theorem fl_X6_228 : mt_fl RX6 228 TX6 8 := Or.inl (lw_in 919 (by decide +kernel) rfl)
theorem ml_X6_231 : mt_ml RX6 231 yX6_byteAt := Or.inl (lw_in 1273 (by decide +kernel) rfl)
theorem fl_X6_234 : mt_fl RX6 234 TX6 11 := Or.inl (lw_in 922 (by decide +kernel) rfl)
theorem fl_X6_237 : mt_fl RX6 237 TX6 10 := Or.inl (lw_in 921 (by decide +kernel) rfl)
set_option maxRecDepth 100000 in
theorem cal_X6_token : mt_cal yX6_token cX6_token 2 none 0 := ⟨lw_in 1272 rfl rfl, lw_in 117 (by decide +kernel) rfl, by decide +kernel, by decide⟩
theorem ins_X6_token : mt_ins yX6_token := ⟨lw_in 1271 (by decide +kernel) rfl, lw_in 99 (by decide +kernel) rfl⟩
theorem ml_X6_240 : mt_ml RX6 240 yJ0_length_8abf5 := Or.inl (lw_in 1285 (by decide +kernel) rfl)
theorem ml_X6_243 : mt_ml RX6 243 yJ0_charAt_5068e := Or.inl (lw_in 1286 (by decide +kernel) rfl)
set_option maxRecDepth 100000 in
theorem cal_X6_isWord : mt_cal yX6_isWord cX6_isWord 4 (some .boolean) 1 := ⟨lw_in 1284 rfl rfl, lw_in 117 (by decide +kernel) rfl, by decide +kernel, by decide⟩
theorem ins_X6_isWord : mt_ins yX6_isWord := ⟨lw_in 1283 (by decide +kernel) rfl, lw_in 102 (by decide +kernel) rfl⟩
theorem fl_X6_247 : mt_fl RX6 247 TX6 12 := Or.inl (lw_in 923 (by decide +kernel) rfl)
theorem ml_X6_251 : mt_ml RX6 251 yX6_token := Or.inl (lw_in 1269 (by decide +kernel) rfl)
set_option maxRecDepth 100000 in
theorem cal_X6_must : mt_cal yX6_must cX6_must 2 none 1 := ⟨lw_in 1294 rfl rfl, lw_in 117 (by decide +kernel) rfl, by decide +kernel, by decide⟩
theorem ins_X6_must : mt_ins yX6_must := ⟨lw_in 1293 (by decide +kernel) rfl, lw_in 104 (by decide +kernel) rfl⟩
theorem ml_X6_254 : mt_ml RX6 254 yX6_must := Or.inl (lw_in 1291 (by decide +kernel) rfl)
set_option maxRecDepth 100000 in
theorem cal_X6_number : mt_cal yX6_number cX6_number 4 (some .int) 2 := ⟨lw_in 1298 rfl rfl, lw_in 117 (by decide +kernel) rfl, by decide +kernel, by decide⟩
theorem ins_X6_number : mt_ins yX6_number := ⟨lw_in 1297 (by decide +kernel) rfl, lw_in 105 (by decide +kernel) rfl⟩
theorem fl_X6_258 : mt_fl RX6 258 TX6 15 := Or.inl (lw_in 926 (by decide +kernel) rfl)
theorem fl_X6_45 : mt_fl RX6 45 TX6 14 := Or.inl (lw_in 925 (by decide +kernel) rfl)
set_option maxRecDepth 100000 in
theorem cal_X6_addItem : mt_cal yX6_addItem cX6_addItem 8 none 6 := ⟨lw_in 1313 rfl rfl, lw_in 117 (by decide +kernel) rfl, by decide +kernel, by decide⟩
theorem ins_X6_addItem : mt_ins yX6_addItem := ⟨lw_in 1312 (by decide +kernel) rfl, lw_in 108 (by decide +kernel) rfl⟩
theorem ml_X6_261 : mt_ml RX6 261 yX6_isWord := Or.inl (lw_in 1281 (by decide +kernel) rfl)
set_option maxRecDepth 100000 in
theorem cal_X6_takesWord : mt_cal yX6_takesWord cX6_takesWord 3 (some .boolean) 1 := ⟨lw_in 1307 rfl rfl, lw_in 117 (by decide +kernel) rfl, by decide +kernel, by decide⟩
theorem ins_X6_takesWord : mt_ins yX6_takesWord := ⟨lw_in 1306 (by decide +kernel) rfl, lw_in 107 (by decide +kernel) rfl⟩
set_option maxRecDepth 100000 in
theorem cal_X6_otherThan : mt_cal yX6_otherThan cX6_otherThan 3 (some .int) 1 := ⟨lw_in 1302 rfl rfl, lw_in 117 (by decide +kernel) rfl, by decide +kernel, by decide⟩
theorem ins_X6_otherThan : mt_ins yX6_otherThan := ⟨lw_in 1301 (by decide +kernel) rfl, lw_in 106 (by decide +kernel) rfl⟩
theorem fl_X6_265 : mt_fl RX6 265 TX6 16 := Or.inl (lw_in 927 (by decide +kernel) rfl)
theorem ml_X6_268 : mt_ml RX6 268 yX6_number := Or.inl (lw_in 1295 (by decide +kernel) rfl)
theorem ml_X6_271 : mt_ml RX6 271 yX6_otherThan := Or.inl (lw_in 1299 (by decide +kernel) rfl)
theorem ml_X6_276 : mt_ml RX6 276 yX6_takesWord := Or.inl (lw_in 1304 (by decide +kernel) rfl)
theorem ml_X6_283 : mt_ml RX6 283 yX6_addItem := Or.inl (lw_in 1310 (by decide +kernel) rfl)
set_option maxRecDepth 100000 in
theorem cal_X6_readTreaty : mt_cal yX6_readTreaty cX6_readTreaty 6 none 1 := ⟨lw_in 1290 rfl rfl, lw_in 117 (by decide +kernel) rfl, by decide +kernel, by decide⟩
theorem ins_X6_readTreaty : mt_ins yX6_readTreaty := ⟨lw_in 1289 (by decide +kernel) rfl, lw_in 103 (by decide +kernel) rfl⟩
theorem fl_X6_41 : mt_fl RX6 41 TX6 13 := Or.inl (lw_in 924 (by decide +kernel) rfl)
theorem ml_X6_287 : mt_ml RX6 287 yX6_readTreaty := Or.inl (lw_in 1287 (by decide +kernel) rfl)
set_option maxRecDepth 100000 in
theorem cal_X6_readItem : mt_cal yX6_readItem cX6_readItem 3 none 0 := ⟨lw_in 1280 rfl rfl, lw_in 117 (by decide +kernel) rfl, by decide +kernel, by decide⟩
theorem ins_X6_readItem : mt_ins yX6_readItem := ⟨lw_in 1279 (by decide +kernel) rfl, lw_in 101 (by decide +kernel) rfl⟩
set_option maxRecDepth 100000 in
theorem cal_X6_isToldSo : mt_cal yX6_isToldSo cX6_isToldSo 5 none 1 := ⟨lw_in 1320 rfl rfl, lw_in 117 (by decide +kernel) rfl, by decide +kernel, by decide⟩
theorem ins_X6_isToldSo : mt_ins yX6_isToldSo := ⟨lw_in 1319 (by decide +kernel) rfl, lw_in 109 (by decide +kernel) rfl⟩
theorem ml_X6_296 : mt_ml RX6 296 yX6_readItem := Or.inl (lw_in 1277 (by decide +kernel) rfl)
theorem ml_X6_299 : mt_ml RX6 299 yX6_isToldSo := Or.inl (lw_in 1317 (by decide +kernel) rfl)
set_option maxRecDepth 100000 in
theorem cal_X6_text : mt_cal yX6_text cX6_text 2 (some .int) 0 := ⟨lw_in 1268 rfl rfl, lw_in 117 (by decide +kernel) rfl, by decide +kernel, by decide⟩
theorem ins_X6_text : mt_ins yX6_text := ⟨lw_in 1266 (by decide +kernel) rfl, lw_in 1267 (by decide +kernel) rfl⟩
set_option maxRecDepth 100000 in
theorem cal_X6_isSpot : mt_cal yX6_isSpot cX6_isSpot 1 (some .boolean) 1 := ⟨lw_in 1327 rfl rfl, lw_in 117 (by decide +kernel) rfl, by decide +kernel, by decide⟩
theorem sta_X6_isSpot : Cond.static yX6_isSpot ∈ lw_g := lw_in 1326 (by decide +kernel) rfl
theorem ml_X6_302 : mt_ml RX6 302 yX6_isSpot := Or.inl (lw_in 1325 (by decide +kernel) rfl)
set_option maxRecDepth 100000 in
theorem cal_X6_hold : mt_cal yX6_hold cX6_hold 3 (some .int) 2 := ⟨lw_in 1324 rfl rfl, lw_in 117 (by decide +kernel) rfl, by decide +kernel, by decide⟩
theorem ins_X6_hold : mt_ins yX6_hold := ⟨lw_in 1322 (by decide +kernel) rfl, lw_in 1323 (by decide +kernel) rfl⟩
set_option maxRecDepth 100000 in
theorem cal_X6_above : mt_cal yX6_above cX6_above 1 (some .int) 1 := ⟨lw_in 1337 rfl rfl, lw_in 117 (by decide +kernel) rfl, by decide +kernel, by decide⟩
theorem sta_X6_above : Cond.static yX6_above ∈ lw_g := lw_in 1336 (by decide +kernel) rfl
theorem ml_X6_313 : mt_ml RX6 313 yX6_above := Or.inl (lw_in 1335 (by decide +kernel) rfl)
set_option maxRecDepth 100000 in
theorem cal_X6_isUnder : mt_cal yX6_isUnder cX6_isUnder 3 (some .boolean) 2 := ⟨lw_in 1334 rfl rfl, lw_in 117 (by decide +kernel) rfl, by decide +kernel, by decide⟩
theorem sta_X6_isUnder : Cond.static yX6_isUnder ∈ lw_g := lw_in 1333 (by decide +kernel) rfl
theorem ml_X6_305 : mt_ml RX6 305 yX6_isUnder := Or.inl (lw_in 1332 (by decide +kernel) rfl)
theorem kc_X6_308 : Cond.constant RX6 308 (-1000003) ∈ lw_g := lw_in 1338 (by decide +kernel) rfl
set_option maxRecDepth 100000 in
theorem cal_X6_as : mt_cal yX6_as cX6_as 4 (some .int) 2 := ⟨lw_in 1331 rfl rfl, lw_in 117 (by decide +kernel) rfl, by decide +kernel, by decide⟩
theorem ins_X6_as : mt_ins yX6_as := ⟨lw_in 1329 (by decide +kernel) rfl, lw_in 1330 (by decide +kernel) rfl⟩
set_option maxRecDepth 100000 in
theorem cal_X6_cutTo : mt_cal yX6_cutTo cX6_cutTo 2 (some .int) 2 := ⟨lw_in 1350 rfl rfl, lw_in 117 (by decide +kernel) rfl, by decide +kernel, by decide⟩
theorem sta_X6_cutTo : Cond.static yX6_cutTo ∈ lw_g := lw_in 1349 (by decide +kernel) rfl
theorem kc_X6_309 : Cond.constant RX6 309 (-1000007) ∈ lw_g := lw_in 1343 (by decide +kernel) rfl
set_option maxRecDepth 100000 in
theorem cal_X6_sheet : mt_cal yX6_sheet cX6_sheet 5 (some .int) 3 := ⟨lw_in 1342 rfl rfl, lw_in 117 (by decide +kernel) rfl, by decide +kernel, by decide⟩
theorem ins_X6_sheet : mt_ins yX6_sheet := ⟨lw_in 1340 (by decide +kernel) rfl, lw_in 1341 (by decide +kernel) rfl⟩
theorem ml_X6_310 : mt_ml RX6 310 yX6_cutTo := Or.inl (lw_in 1348 (by decide +kernel) rfl)
set_option maxRecDepth 100000 in
theorem cal_X6_write : mt_cal yX6_write cX6_write 4 (some .int) 3 := ⟨lw_in 1347 rfl rfl, lw_in 117 (by decide +kernel) rfl, by decide +kernel, by decide⟩
theorem ins_X6_write : mt_ins yX6_write := ⟨lw_in 1345 (by decide +kernel) rfl, lw_in 1346 (by decide +kernel) rfl⟩
theorem fl_X6_57 : mt_fl RX6 57 TX6 20 := Or.inl (lw_in 931 (by decide +kernel) rfl)
set_option maxRecDepth 100000 in
theorem cal_X6_copy : mt_cal yX6_copy cX6_copy 7 (some .int) 5 := ⟨lw_in 1354 rfl rfl, lw_in 117 (by decide +kernel) rfl, by decide +kernel, by decide⟩
theorem ins_X6_copy : mt_ins yX6_copy := ⟨lw_in 1352 (by decide +kernel) rfl, lw_in 1353 (by decide +kernel) rfl⟩
set_option maxRecDepth 100000 in
theorem cal_X6_load : mt_cal yX6_load cX6_load 3 (some .int) 1 := ⟨lw_in 1358 rfl rfl, lw_in 117 (by decide +kernel) rfl, by decide +kernel, by decide⟩
theorem ins_X6_load : mt_ins yX6_load := ⟨lw_in 1356 (by decide +kernel) rfl, lw_in 1357 (by decide +kernel) rfl⟩
set_option maxRecDepth 100000 in
theorem cal_X6_judge : mt_cal yX6_judge cX6_judge 3 (some .int) 1 := ⟨lw_in 1362 rfl rfl, lw_in 117 (by decide +kernel) rfl, by decide +kernel, by decide⟩
theorem ins_X6_judge : mt_ins yX6_judge := ⟨lw_in 1360 (by decide +kernel) rfl, lw_in 1361 (by decide +kernel) rfl⟩
theorem fl_X6_13 : mt_fl RX6 13 TX6 1 := Or.inl (lw_in 912 (by decide +kernel) rfl)
theorem fl_X6_316 : mt_fl RX6 316 TX6 3 := Or.inl (lw_in 914 (by decide +kernel) rfl)
set_option maxRecDepth 100000 in
theorem cal_X6_image : mt_cal yX6_image cX6_image 1 (some .int) 0 := ⟨lw_in 1366 rfl rfl, lw_in 117 (by decide +kernel) rfl, by decide +kernel, by decide⟩
theorem ins_X6_image : mt_ins yX6_image := ⟨lw_in 1364 (by decide +kernel) rfl, lw_in 1365 (by decide +kernel) rfl⟩
set_option maxRecDepth 100000 in
theorem cal_X6_undo : mt_cal yX6_undo cX6_undo 1 (some .int) 0 := ⟨lw_in 1370 rfl rfl, lw_in 117 (by decide +kernel) rfl, by decide +kernel, by decide⟩
theorem ins_X6_undo : mt_ins yX6_undo := ⟨lw_in 1368 (by decide +kernel) rfl, lw_in 1369 (by decide +kernel) rfl⟩
set_option maxRecDepth 100000 in
theorem cal_X6_forget : mt_cal yX6_forget cX6_forget 2 (some .int) 0 := ⟨lw_in 1374 rfl rfl, lw_in 117 (by decide +kernel) rfl, by decide +kernel, by decide⟩
theorem ins_X6_forget : mt_ins yX6_forget := ⟨lw_in 1372 (by decide +kernel) rfl, lw_in 1373 (by decide +kernel) rfl⟩
set_option maxRecDepth 100000 in
theorem cal_X6_count : mt_cal yX6_count cX6_count 4 (some .int) 1 := ⟨lw_in 1378 rfl rfl, lw_in 117 (by decide +kernel) rfl, by decide +kernel, by decide⟩
theorem ins_X6_count : mt_ins yX6_count := ⟨lw_in 1376 (by decide +kernel) rfl, lw_in 1377 (by decide +kernel) rfl⟩
set_option maxRecDepth 100000 in
theorem cal_X6_status : mt_cal yX6_status cX6_status 2 (some .int) 1 := ⟨lw_in 1382 rfl rfl, lw_in 117 (by decide +kernel) rfl, by decide +kernel, by decide⟩
theorem ins_X6_status : mt_ins yX6_status := ⟨lw_in 1380 (by decide +kernel) rfl, lw_in 1381 (by decide +kernel) rfl⟩
theorem bp_10 : (Int8.ofInt (10)).toInt32 = 10 := by decide
theorem bp_100 : (Int8.ofInt (100)).toInt32 = 100 := by decide
theorem bp_11 : (Int8.ofInt (11)).toInt32 = 11 := by decide
theorem bp_12 : (Int8.ofInt (12)).toInt32 = 12 := by decide
theorem bp_120 : (Int8.ofInt (120)).toInt32 = 120 := by decide
theorem bp_122 : (Int8.ofInt (122)).toInt32 = 122 := by decide
theorem bp_127 : (Int8.ofInt (127)).toInt32 = 127 := by decide
theorem bp_13 : (Int8.ofInt (13)).toInt32 = 13 := by decide
theorem bp_15 : (Int8.ofInt (15)).toInt32 = 15 := by decide
theorem bp_16 : (Int8.ofInt (16)).toInt32 = 16 := by decide
theorem bp_17 : (Int8.ofInt (17)).toInt32 = 17 := by decide
theorem bp_20 : (Int8.ofInt (20)).toInt32 = 20 := by decide
theorem bp_22 : (Int8.ofInt (22)).toInt32 = 22 := by decide
theorem bp_31 : (Int8.ofInt (31)).toInt32 = 31 := by decide
theorem bp_32 : (Int8.ofInt (32)).toInt32 = 32 := by decide
theorem bp_40 : (Int8.ofInt (40)).toInt32 = 40 := by decide
theorem bp_48 : (Int8.ofInt (48)).toInt32 = 48 := by decide
theorem bp_57 : (Int8.ofInt (57)).toInt32 = 57 := by decide
theorem bp_59 : (Int8.ofInt (59)).toInt32 = 59 := by decide
theorem bp_6 : (Int8.ofInt (6)).toInt32 = 6 := by decide
theorem bp_60 : (Int8.ofInt (60)).toInt32 = 60 := by decide
theorem bp_63 : (Int8.ofInt (63)).toInt32 = 63 := by decide
theorem bp_7 : (Int8.ofInt (7)).toInt32 = 7 := by decide
theorem bp_8 : (Int8.ofInt (8)).toInt32 = 8 := by decide
theorem bp_86 : (Int8.ofInt (86)).toInt32 = 86 := by decide
theorem bp_9 : (Int8.ofInt (9)).toInt32 = 9 := by decide
theorem bp_97 : (Int8.ofInt (97)).toInt32 = 97 := by decide
theorem ic_0 : Int32.ofInt 0 = 0 := by decide
theorem ic_1 : Int32.ofInt 1 = 1 := by decide
theorem ic_2 : Int32.ofInt 2 = 2 := by decide
theorem ic_3 : Int32.ofInt 3 = 3 := by decide
theorem ic_4 : Int32.ofInt 4 = 4 := by decide
theorem ic_5 : Int32.ofInt 5 = 5 := by decide
theorem ic_m1 : Int32.ofInt (-1) = -1 := by decide
theorem ic_m16 : Int32.ofInt (-16) = -16 := by decide
theorem ic_m2 : Int32.ofInt (-2) = -2 := by decide
theorem ic_m4 : Int32.ofInt (-4) = -4 := by decide
theorem ic_m8 : Int32.ofInt (-8) = -8 := by decide
theorem sp_10000 : (Int16.ofInt (10000)).toInt32 = 10000 := by decide
theorem sp_12345 : (Int16.ofInt (12345)).toInt32 = 12345 := by decide
theorem sp_192 : (Int16.ofInt (192)).toInt32 = 192 := by decide
theorem sp_199 : (Int16.ofInt (199)).toInt32 = 199 := by decide
theorem sp_200 : (Int16.ofInt (200)).toInt32 = 200 := by decide
theorem sp_2048 : (Int16.ofInt (2048)).toInt32 = 2048 := by decide
theorem sp_255 : (Int16.ofInt (255)).toInt32 = 255 := by decide
theorem sp_256 : (Int16.ofInt (256)).toInt32 = 256 := by decide
theorem sp_4095 : (Int16.ofInt (4095)).toInt32 = 4095 := by decide
theorem sp_4096 : (Int16.ofInt (4096)).toInt32 = 4096 := by decide
theorem sp_9999 : (Int16.ofInt (9999)).toInt32 = 9999 := by decide
end
section
def mt_min (x y : Int32) : Int32 := if y < x then y else x
def mt_max (x y : Int32) : Int32 := if x < y then y else x
def mt_cpok (sp dp n : Int32) (n0 n1 : Nat) : Bool := decide (0 ≤ sp.toInt) && decide (0 ≤ dp.toInt) && decide (0 ≤ n.toInt) && decide (sp.toInt + n.toInt ≤ n0) && decide (dp.toInt + n.toInt ≤ n1)
theorem mm_a : Cond.static Lib.Math.min.name ∈ lw_g := lw_in 439 (by decide +kernel) rfl
theorem mm_b : Cond.static Lib.Math.max.name ∈ lw_g := lw_in 442 (by decide +kernel) rfl
theorem mm_c : Cond.initialized "java/lang/Math" ∈ lw_g := lw_in 119 (by decide +kernel) rfl
theorem mm_d : Cond.code Lib.Math.min.name Lib.Math.min.code 2 (some .int) ∈ lw_g := lw_in 440 (by decide +kernel) rfl
theorem mm_e : Cond.code Lib.Math.max.name Lib.Math.max.code 2 (some .int) ∈ lw_g := lw_in 443 (by decide +kernel) rfl
theorem ac_a : Cond.native arraycopyName ∈ lw_g := lw_in 556 (by decide +kernel) rfl
theorem ac_b : Cond.static arraycopyName ∈ lw_g := lw_in 555 (by decide +kernel) rfl
theorem ac_c : Cond.initialized "java/lang/System" ∈ lw_g := lw_in 121 (by decide +kernel) rfl
theorem fl_ab : Cond.fieldLinkNest RX3 62 "MarkTreaties" "ABOVE" "[I" "MarkTreaties" ∈ lw_n := lw_inn 837 (by decide +kernel) rfl
theorem mt_ldcSw {p : Program} {l : Launch} {e : Env} {R : Room} {s : State} {m : MethodId} {args : Array Value} {below : List Frame} {meth : Method} {c : Code} {T : State} {locs : List Loc} {cells slots : Nat}
    (X : Stand p l e R s m args below meth c T locs cells slots) (hexec : p.tables.exec = Jvm.exec) {own text : String} {index : Nat} {a : Addr} (hown : s.vm.findClass own = some m.cls)
    (hconst : (Cond.stringRef own index text).before args s = true) (hev : (Term.string own index).eval args s none [] s = some (.ref a)) {g : JFrame} (hg : g.method = m) (hdg : decode c.code g.pc = .ok (.ldc_w index, 3)) :
    ∀ target, Steps p.tables e below (T.setTop { g with pc := g.pc + 3, stack := .ref a :: g.stack }) target → Steps p.tables e below (T.setTop g) target := by
  obtain ⟨k, cf, i, a', hk, hcf, hcp, -, hr, hev'⟩ := Cond.stringRef_spec hown hconst
  cases hev.symm.trans hev'
  obtain ⟨k', hk', he⟩ := X.warmed.alike.2.2 _ _ hk
  have hr' : k'.resolved[index]? = some (some (.string a)) := by
    rcases X.warmed.entry hk hk' index with h | ⟨h, -⟩
    · rw [h]; exact hr
    · rw [hr] at h; cases h
  intro target hrest
  subst hg
  jvm_step X.here [hexec, hdg, ldc_w.wp_string (e := e) (s := T) (f := g) X.here.top hk' (by rw [he]; exact hcf) hcp hr']
  exact hrest
section MM
variable {K : mt_C} {cc : ByteArray} {own : String} {nL d : Nat} {σ : mt_St} {pc : Nat} {lv : List (Nat × Value)} {st : List Value} {P : Prop}
theorem mv_mmin {x y : Int32} {idx : Nat} (hm : Cond.methodLink own idx Lib.Math.min.name ∈ lw_g) (hd1 : 1 ≤ d) (hw8 : (st.map fun v => v.category).sum ≤ 8) (hd : decode cc pc = .ok (.invokestatic idx, 3)) (kk : mt_V K cc own nL d σ (pc + 3) lv (.int (mt_min x y) :: st) P) : mt_V K cc own nL d σ pc lv (.int y :: .int x :: st) P := by
  intro hP hX H locs ls h1 h2 hl
  have k1 := kk hP hX H locs ls h1 h2 hl
  obtain ⟨hx, hb, hml, hown, hts, hK, hd2, hr, hlk⟩ := hX
  exact va_mmin hx hb (hml.trans hl.1.symm) hown (hts _ hm) (hts _ mm_a) (hts _ mm_c) (hts _ mm_d) (by omega) (by omega) hr.1 hr.2 hd k1
theorem mv_mmax {x y : Int32} {idx : Nat} (hm : Cond.methodLink own idx Lib.Math.max.name ∈ lw_g) (hd1 : 1 ≤ d) (hw8 : (st.map fun v => v.category).sum ≤ 8) (hd : decode cc pc = .ok (.invokestatic idx, 3)) (kk : mt_V K cc own nL d σ (pc + 3) lv (.int (mt_max x y) :: st) P) : mt_V K cc own nL d σ pc lv (.int y :: .int x :: st) P := by
  intro hP hX H locs ls h1 h2 hl
  have k1 := kk hP hX H locs ls h1 h2 hl
  obtain ⟨hx, hb, hml, hown, hts, hK, hd2, hr, hlk⟩ := hX
  exact va_mmax hx hb (hml.trans hl.1.symm) hown (hts _ hm) (hts _ mm_b) (hts _ mm_c) (hts _ mm_e) (by omega) (by omega) hr.1 hr.2 hd k1
theorem mt_nn {z : Int32} (h : 0 ≤ z.toInt) : z.toInt = (z.toNatClampNeg : Int) := by
  show z.toInt = ((z.toInt.toNat : Nat) : Int)
  omega
theorem mt_nlt {z : Int32} (h : 0 ≤ z.toInt) : ¬ z < 0 := by
  rw [Int32.lt_iff_toInt_lt, Int32.toInt_zero]; omega
theorem mv_acopy {β : Type} {c1 c2 idx : Nat} {sp dp n : Int32} {kf : mt_St → Option β} {o : β} (n0 n1 : Nat) (hk1 : mt_kd c1 = 7) (hn1 : mt_ln c1 = n0) (hk2 : mt_kd c2 = 7) (hn2 : mt_ln c2 = n1) (hm : Cond.methodLink own idx arraycopyName ∈ lw_g) (hd1 : 1 ≤ d) (hw8 : (st.map fun v => v.category).sum ≤ 8) (hd : decode cc pc = .ok (.invokestatic idx, 3)) (kk : ∀ σ1, mt_V K cc own nL d σ1 (pc + 3) lv st (kf σ1 = some o)) : mt_V K cc own nL d σ pc lv (.int n :: .int dp :: .ref (mt_adr (kG K) c2) :: .int sp :: .ref (mt_adr (kG K) c1) :: st) (mt_chk (mt_cpok sp dp n n0 n1) (mt_bnd (mt_row σ c2 (va_cpy (σ c1) (σ c2) sp.toNatClampNeg dp.toNatClampNeg n.toNatClampNeg)) kf) = some o) := by
  intro hP hX H locs ls h1 h2 hl
  obtain ⟨hb0, hP⟩ := mt_somE hP
  simp only [mt_cpok, Bool.and_eq_true, decide_eq_true_eq] at hb0
  obtain ⟨⟨⟨⟨b1, b2⟩, b3⟩, b4⟩, b5⟩ := hb0
  have k1 := kk _ hP hX
  obtain ⟨hx, hb, hml, hown, hts, hK, hd2, hr, hlk⟩ := hX
  have e1 := mt_nn b1
  have e2 := mt_nn b2
  have e3 := mt_nn b3
  have hlt1 := mt_lt hk1 (by decide)
  have hlt2 := mt_lt hk2 (by decide)
  refine va_copyi (D := mt_D (kG K)) (ty := .int) hx hb (hml.trans hl.1.symm) hown (hts _ hm) (hts _ ac_a) (hts _ ac_b) (hts _ ac_c) hK.1 h1 (mt_dis hK.2.1 σ) h2 c1 c2 0 0 (by rw [mt_ws_at hlt1, mt_E7 hk1]) (by rw [mt_ws_at hlt2, mt_E7 hk2]) rfl rfl rfl (mt_nlt b1) (mt_nlt b2) (mt_nlt b3) (by rw [hn1]; omega) (by rw [hn2]; omega) (fun i _ => rfl) (by omega) (Nat.le_trans (Nat.add_le_add_right hw8 _) (Nat.le_trans (show 8 + (nativeFrameWords "java/lang/System" "arraycopy" 5 + 11) ≤ 36 * 1 by decide) (Nat.le_trans (Nat.mul_le_mul_left 36 hd1) hd2.2))) hd (fun H1 l1 q1 q2 q3 => ?_)
  rw [mt_ws_set (σ' := mt_row σ c2 (va_cpy (σ c1) (σ c2) sp.toNatClampNeg dp.toNatClampNeg n.toNatClampNeg)) hlt2 (by rw [mt_row_s]; exact mt_E7 hk2) (fun j hj => mt_row_n hj)] at q1
  exact k1 H1 l1 ls q1 q3 hl
theorem mv_getA (hd : decode cc pc = .ok (.getstatic 62, 3)) (ho : own = RX3) (kk : mt_V K cc own nL d σ (pc + 3) lv (.ref (mt_tA (kG K)) :: st) P) : mt_V K cc own nL d σ pc lv st P := by
  intro hP hX H locs ls h1 h2 hl
  have k1 := kk hP hX H locs ls h1 h2 hl
  obtain ⟨hx, hb, hml, hown, hts, hK, hd2, hr, hlk⟩ := hX
  subst ho
  exact va_getsN hx hb hK.2.2.1 h2 hown (va_Nw.use rfl (hK.2.2.2.2.2.2.2.2 _ fl_ab)) (fun _ h => h) hd k1
theorem mv_abld {β : Type} {i : Int32} {P1 : Option β} {o : β} (hd : decode cc pc = .ok (.iaload, 1)) (kk : mt_V K cc own nL d σ (pc + 1) lv (.int (mt_ab i.toNatClampNeg) :: st) (P1 = some o)) : mt_V K cc own nL d σ pc lv (.int i :: .ref (mt_tA (kG K)) :: st) (mt_chk (mt_in i 7) P1 = some o) := by
  intro hP hX H locs ls h1 h2 hl
  obtain ⟨hb0, hP⟩ := mt_somE hP
  have k1 := kk hP hX H locs ls h1 h2 hl
  obtain ⟨hx, hb, hml, hown, hts, hK, hd2, hr, hlk⟩ := hX
  exact va_ti hx hb hK.2.2.2.1 h2 (mt_in_iff.mp hb0) rfl hd k1
theorem mv_ldcS {i idx : Nat} {tx : String} (hq : (own, idx, tx, i) ∈ mt_tx) (hd : decode cc pc = .ok (.ldc idx, 2)) (kk : mt_V K cc own nL d σ (pc + 2) lv (.ref (mt_aK (kG K) i) :: st) P) : mt_V K cc own nL d σ pc lv st P := by
  intro hP hX H locs ls h1 h2 hl
  have k1 := kk hP hX H locs ls h1 h2 hl
  obtain ⟨hx, hb, hml, hown, hts, hK, hd2, hr, hlk⟩ := hX
  exact va_ldcS hx hb hown (hK.2.2.2.2.2.2.2.1 _ hq) hd k1
theorem mv_ldcSw {i idx : Nat} {tx : String} (hq : (own, idx, tx, i) ∈ mt_tx) (hd : decode cc pc = .ok (.ldc_w idx, 3)) (kk : mt_V K cc own nL d σ (pc + 3) lv (.ref (mt_aK (kG K) i) :: st) P) : mt_V K cc own nL d σ pc lv st P := by
  intro hP hX H locs ls h1 h2 hl
  have k1 := kk hP hX H locs ls h1 h2 hl
  obtain ⟨hx, hb, hml, hown, hts, hK, hd2, hr, hlk⟩ := hX
  have hZ := hK.2.2.2.2.2.2.2.1 _ hq
  intro T hT X
  obtain ⟨t, a1, b1⟩ := k1 T hT X
  exact ⟨t, mt_ldcSw X hx hown (text := tx) (a := mt_aK (kG K) i) hZ.1 hZ.2 (g := F0 (km K) pc ls st) rfl (by rw [hb]; exact hd) t a1, b1⟩
end MM
end
section
theorem dJ6_bitCount_0f7a4_0 : decode cJ6_bitCount_0f7a4 0 = .ok (.iload_n 0, 1) := by decide +kernel
theorem dJ6_bitCount_0f7a4_1 : decode cJ6_bitCount_0f7a4 1 = .ok (.iload_n 0, 1) := by decide +kernel
theorem dJ6_bitCount_0f7a4_2 : decode cJ6_bitCount_0f7a4 2 = .ok (.iconst 1, 1) := by decide +kernel
theorem dJ6_bitCount_0f7a4_3 : decode cJ6_bitCount_0f7a4 3 = .ok (.iushr, 1) := by decide +kernel
theorem dJ6_bitCount_0f7a4_4 : decode cJ6_bitCount_0f7a4 4 = .ok (.ldc_w 265, 3) := by decide +kernel
theorem dJ6_bitCount_0f7a4_7 : decode cJ6_bitCount_0f7a4 7 = .ok (.iand, 1) := by decide +kernel
theorem dJ6_bitCount_0f7a4_8 : decode cJ6_bitCount_0f7a4 8 = .ok (.isub, 1) := by decide +kernel
theorem dJ6_bitCount_0f7a4_9 : decode cJ6_bitCount_0f7a4 9 = .ok (.istore_n 0, 1) := by decide +kernel
theorem dJ6_bitCount_0f7a4_10 : decode cJ6_bitCount_0f7a4 10 = .ok (.iload_n 0, 1) := by decide +kernel
theorem dJ6_bitCount_0f7a4_11 : decode cJ6_bitCount_0f7a4 11 = .ok (.ldc_w 266, 3) := by decide +kernel
theorem dJ6_bitCount_0f7a4_14 : decode cJ6_bitCount_0f7a4 14 = .ok (.iand, 1) := by decide +kernel
theorem dJ6_bitCount_0f7a4_15 : decode cJ6_bitCount_0f7a4 15 = .ok (.iload_n 0, 1) := by decide +kernel
theorem dJ6_bitCount_0f7a4_16 : decode cJ6_bitCount_0f7a4 16 = .ok (.iconst 2, 1) := by decide +kernel
theorem dJ6_bitCount_0f7a4_17 : decode cJ6_bitCount_0f7a4 17 = .ok (.iushr, 1) := by decide +kernel
theorem dJ6_bitCount_0f7a4_18 : decode cJ6_bitCount_0f7a4 18 = .ok (.ldc_w 266, 3) := by decide +kernel
theorem dJ6_bitCount_0f7a4_21 : decode cJ6_bitCount_0f7a4 21 = .ok (.iand, 1) := by decide +kernel
theorem dJ6_bitCount_0f7a4_22 : decode cJ6_bitCount_0f7a4 22 = .ok (.iadd, 1) := by decide +kernel
theorem dJ6_bitCount_0f7a4_23 : decode cJ6_bitCount_0f7a4 23 = .ok (.istore_n 0, 1) := by decide +kernel
theorem dJ6_bitCount_0f7a4_24 : decode cJ6_bitCount_0f7a4 24 = .ok (.iload_n 0, 1) := by decide +kernel
theorem dJ6_bitCount_0f7a4_25 : decode cJ6_bitCount_0f7a4 25 = .ok (.iload_n 0, 1) := by decide +kernel
theorem dJ6_bitCount_0f7a4_26 : decode cJ6_bitCount_0f7a4 26 = .ok (.iconst 4, 1) := by decide +kernel
theorem dJ6_bitCount_0f7a4_27 : decode cJ6_bitCount_0f7a4 27 = .ok (.iushr, 1) := by decide +kernel
theorem dJ6_bitCount_0f7a4_28 : decode cJ6_bitCount_0f7a4 28 = .ok (.iadd, 1) := by decide +kernel
theorem dJ6_bitCount_0f7a4_29 : decode cJ6_bitCount_0f7a4 29 = .ok (.ldc_w 267, 3) := by decide +kernel
theorem dJ6_bitCount_0f7a4_32 : decode cJ6_bitCount_0f7a4 32 = .ok (.iand, 1) := by decide +kernel
theorem dJ6_bitCount_0f7a4_33 : decode cJ6_bitCount_0f7a4 33 = .ok (.istore_n 0, 1) := by decide +kernel
theorem dJ6_bitCount_0f7a4_34 : decode cJ6_bitCount_0f7a4 34 = .ok (.iload_n 0, 1) := by decide +kernel
theorem dJ6_bitCount_0f7a4_35 : decode cJ6_bitCount_0f7a4 35 = .ok (.iload_n 0, 1) := by decide +kernel
theorem dJ6_bitCount_0f7a4_36 : decode cJ6_bitCount_0f7a4 36 = .ok (.bipush 8, 2) := by decide +kernel
theorem dJ6_bitCount_0f7a4_38 : decode cJ6_bitCount_0f7a4 38 = .ok (.iushr, 1) := by decide +kernel
theorem dJ6_bitCount_0f7a4_39 : decode cJ6_bitCount_0f7a4 39 = .ok (.iadd, 1) := by decide +kernel
theorem dJ6_bitCount_0f7a4_40 : decode cJ6_bitCount_0f7a4 40 = .ok (.istore_n 0, 1) := by decide +kernel
theorem dJ6_bitCount_0f7a4_41 : decode cJ6_bitCount_0f7a4 41 = .ok (.iload_n 0, 1) := by decide +kernel
theorem dJ6_bitCount_0f7a4_42 : decode cJ6_bitCount_0f7a4 42 = .ok (.iload_n 0, 1) := by decide +kernel
theorem dJ6_bitCount_0f7a4_43 : decode cJ6_bitCount_0f7a4 43 = .ok (.bipush 16, 2) := by decide +kernel
theorem dJ6_bitCount_0f7a4_45 : decode cJ6_bitCount_0f7a4 45 = .ok (.iushr, 1) := by decide +kernel
theorem dJ6_bitCount_0f7a4_46 : decode cJ6_bitCount_0f7a4 46 = .ok (.iadd, 1) := by decide +kernel
theorem dJ6_bitCount_0f7a4_47 : decode cJ6_bitCount_0f7a4 47 = .ok (.istore_n 0, 1) := by decide +kernel
theorem dJ6_bitCount_0f7a4_48 : decode cJ6_bitCount_0f7a4 48 = .ok (.iload_n 0, 1) := by decide +kernel
theorem dJ6_bitCount_0f7a4_49 : decode cJ6_bitCount_0f7a4 49 = .ok (.bipush 63, 2) := by decide +kernel
theorem dJ6_bitCount_0f7a4_51 : decode cJ6_bitCount_0f7a4 51 = .ok (.iand, 1) := by decide +kernel
theorem dJ6_bitCount_0f7a4_52 : decode cJ6_bitCount_0f7a4 52 = .ok (.ireturn, 1) := by decide +kernel
def fJ6_bitCount_0f7a4 (fu : Nat) (a1 : Int32) : Option Int32 :=
  some ((((((((a1 - (((Int32.toUInt32 a1 >>> (Int32.toUInt32 (1 : Int32) &&& Int32.toUInt32 31)).toInt32) &&& (1431655765 : Int32))) &&& (858993459 : Int32)) + (((Int32.toUInt32 (a1 - (((Int32.toUInt32 a1 >>> (Int32.toUInt32 (1 : Int32) &&& Int32.toUInt32 31)).toInt32) &&& (1431655765 : Int32))) >>> (Int32.toUInt32 (2 : Int32) &&& Int32.toUInt32 31)).toInt32) &&& (858993459 : Int32))) + ((Int32.toUInt32 (((a1 - (((Int32.toUInt32 a1 >>> (Int32.toUInt32 (1 : Int32) &&& Int32.toUInt32 31)).toInt32) &&& (1431655765 : Int32))) &&& (858993459 : Int32)) + (((Int32.toUInt32 (a1 - (((Int32.toUInt32 a1 >>> (Int32.toUInt32 (1 : Int32) &&& Int32.toUInt32 31)).toInt32) &&& (1431655765 : Int32))) >>> (Int32.toUInt32 (2 : Int32) &&& Int32.toUInt32 31)).toInt32) &&& (858993459 : Int32))) >>> (Int32.toUInt32 (4 : Int32) &&& Int32.toUInt32 31)).toInt32)) &&& (252645135 : Int32)) + ((Int32.toUInt32 (((((a1 - (((Int32.toUInt32 a1 >>> (Int32.toUInt32 (1 : Int32) &&& Int32.toUInt32 31)).toInt32) &&& (1431655765 : Int32))) &&& (858993459 : Int32)) + (((Int32.toUInt32 (a1 - (((Int32.toUInt32 a1 >>> (Int32.toUInt32 (1 : Int32) &&& Int32.toUInt32 31)).toInt32) &&& (1431655765 : Int32))) >>> (Int32.toUInt32 (2 : Int32) &&& Int32.toUInt32 31)).toInt32) &&& (858993459 : Int32))) + ((Int32.toUInt32 (((a1 - (((Int32.toUInt32 a1 >>> (Int32.toUInt32 (1 : Int32) &&& Int32.toUInt32 31)).toInt32) &&& (1431655765 : Int32))) &&& (858993459 : Int32)) + (((Int32.toUInt32 (a1 - (((Int32.toUInt32 a1 >>> (Int32.toUInt32 (1 : Int32) &&& Int32.toUInt32 31)).toInt32) &&& (1431655765 : Int32))) >>> (Int32.toUInt32 (2 : Int32) &&& Int32.toUInt32 31)).toInt32) &&& (858993459 : Int32))) >>> (Int32.toUInt32 (4 : Int32) &&& Int32.toUInt32 31)).toInt32)) &&& (252645135 : Int32)) >>> (Int32.toUInt32 (8 : Int32) &&& Int32.toUInt32 31)).toInt32)) + ((Int32.toUInt32 ((((((a1 - (((Int32.toUInt32 a1 >>> (Int32.toUInt32 (1 : Int32) &&& Int32.toUInt32 31)).toInt32) &&& (1431655765 : Int32))) &&& (858993459 : Int32)) + (((Int32.toUInt32 (a1 - (((Int32.toUInt32 a1 >>> (Int32.toUInt32 (1 : Int32) &&& Int32.toUInt32 31)).toInt32) &&& (1431655765 : Int32))) >>> (Int32.toUInt32 (2 : Int32) &&& Int32.toUInt32 31)).toInt32) &&& (858993459 : Int32))) + ((Int32.toUInt32 (((a1 - (((Int32.toUInt32 a1 >>> (Int32.toUInt32 (1 : Int32) &&& Int32.toUInt32 31)).toInt32) &&& (1431655765 : Int32))) &&& (858993459 : Int32)) + (((Int32.toUInt32 (a1 - (((Int32.toUInt32 a1 >>> (Int32.toUInt32 (1 : Int32) &&& Int32.toUInt32 31)).toInt32) &&& (1431655765 : Int32))) >>> (Int32.toUInt32 (2 : Int32) &&& Int32.toUInt32 31)).toInt32) &&& (858993459 : Int32))) >>> (Int32.toUInt32 (4 : Int32) &&& Int32.toUInt32 31)).toInt32)) &&& (252645135 : Int32)) + ((Int32.toUInt32 (((((a1 - (((Int32.toUInt32 a1 >>> (Int32.toUInt32 (1 : Int32) &&& Int32.toUInt32 31)).toInt32) &&& (1431655765 : Int32))) &&& (858993459 : Int32)) + (((Int32.toUInt32 (a1 - (((Int32.toUInt32 a1 >>> (Int32.toUInt32 (1 : Int32) &&& Int32.toUInt32 31)).toInt32) &&& (1431655765 : Int32))) >>> (Int32.toUInt32 (2 : Int32) &&& Int32.toUInt32 31)).toInt32) &&& (858993459 : Int32))) + ((Int32.toUInt32 (((a1 - (((Int32.toUInt32 a1 >>> (Int32.toUInt32 (1 : Int32) &&& Int32.toUInt32 31)).toInt32) &&& (1431655765 : Int32))) &&& (858993459 : Int32)) + (((Int32.toUInt32 (a1 - (((Int32.toUInt32 a1 >>> (Int32.toUInt32 (1 : Int32) &&& Int32.toUInt32 31)).toInt32) &&& (1431655765 : Int32))) >>> (Int32.toUInt32 (2 : Int32) &&& Int32.toUInt32 31)).toInt32) &&& (858993459 : Int32))) >>> (Int32.toUInt32 (4 : Int32) &&& Int32.toUInt32 31)).toInt32)) &&& (252645135 : Int32)) >>> (Int32.toUInt32 (8 : Int32) &&& Int32.toUInt32 31)).toInt32)) >>> (Int32.toUInt32 (16 : Int32) &&& Int32.toUInt32 31)).toInt32)) &&& (63 : Int32))
set_option maxHeartbeats 4000000 in
set_option maxRecDepth 20000 in
theorem vJ6_bitCount_0f7a4 {K : mt_C} {fu : Nat} {σ : mt_St} {a1 : Int32} {r : Int32} (hQ : mt_R K (some .int) (some (.int r)) σ) : mt_V K cJ6_bitCount_0f7a4 RJ6 1 0 σ 0 [(0, .int a1)] [] (fJ6_bitCount_0f7a4 fu a1 = some r) := by
  unfold fJ6_bitCount_0f7a4
  refine mv_iload_n 0 dJ6_bitCount_0f7a4_0 rfl rfl ?_
  refine mv_iload_n 0 dJ6_bitCount_0f7a4_1 rfl rfl ?_
  refine mv_iconst (v := 1) dJ6_bitCount_0f7a4_2 ic_1 ?_
  refine mv_iushr dJ6_bitCount_0f7a4_3 ?_
  refine mv_ldcw kc_J6_265 dJ6_bitCount_0f7a4_4 ?_
  refine mv_iand dJ6_bitCount_0f7a4_7 ?_
  refine mv_isub dJ6_bitCount_0f7a4_8 ?_
  refine mv_istore_n (lv' := [(0, .int (a1 - (((Int32.toUInt32 a1 >>> (Int32.toUInt32 (1 : Int32) &&& Int32.toUInt32 31)).toInt32) &&& (1431655765 : Int32))))]) [0] dJ6_bitCount_0f7a4_9 rfl (by decide) rfl ?_
  refine mv_iload_n 0 dJ6_bitCount_0f7a4_10 rfl rfl ?_
  refine mv_ldcw kc_J6_266 dJ6_bitCount_0f7a4_11 ?_
  refine mv_iand dJ6_bitCount_0f7a4_14 ?_
  refine mv_iload_n 0 dJ6_bitCount_0f7a4_15 rfl rfl ?_
  refine mv_iconst (v := 2) dJ6_bitCount_0f7a4_16 ic_2 ?_
  refine mv_iushr dJ6_bitCount_0f7a4_17 ?_
  refine mv_ldcw kc_J6_266 dJ6_bitCount_0f7a4_18 ?_
  refine mv_iand dJ6_bitCount_0f7a4_21 ?_
  refine mv_iadd dJ6_bitCount_0f7a4_22 ?_
  refine mv_istore_n (lv' := [(0, .int (((a1 - (((Int32.toUInt32 a1 >>> (Int32.toUInt32 (1 : Int32) &&& Int32.toUInt32 31)).toInt32) &&& (1431655765 : Int32))) &&& (858993459 : Int32)) + (((Int32.toUInt32 (a1 - (((Int32.toUInt32 a1 >>> (Int32.toUInt32 (1 : Int32) &&& Int32.toUInt32 31)).toInt32) &&& (1431655765 : Int32))) >>> (Int32.toUInt32 (2 : Int32) &&& Int32.toUInt32 31)).toInt32) &&& (858993459 : Int32))))]) [0] dJ6_bitCount_0f7a4_23 rfl (by decide) rfl ?_
  refine mv_iload_n 0 dJ6_bitCount_0f7a4_24 rfl rfl ?_
  refine mv_iload_n 0 dJ6_bitCount_0f7a4_25 rfl rfl ?_
  refine mv_iconst (v := 4) dJ6_bitCount_0f7a4_26 ic_4 ?_
  refine mv_iushr dJ6_bitCount_0f7a4_27 ?_
  refine mv_iadd dJ6_bitCount_0f7a4_28 ?_
  refine mv_ldcw kc_J6_267 dJ6_bitCount_0f7a4_29 ?_
  refine mv_iand dJ6_bitCount_0f7a4_32 ?_
  refine mv_istore_n (lv' := [(0, .int (((((a1 - (((Int32.toUInt32 a1 >>> (Int32.toUInt32 (1 : Int32) &&& Int32.toUInt32 31)).toInt32) &&& (1431655765 : Int32))) &&& (858993459 : Int32)) + (((Int32.toUInt32 (a1 - (((Int32.toUInt32 a1 >>> (Int32.toUInt32 (1 : Int32) &&& Int32.toUInt32 31)).toInt32) &&& (1431655765 : Int32))) >>> (Int32.toUInt32 (2 : Int32) &&& Int32.toUInt32 31)).toInt32) &&& (858993459 : Int32))) + ((Int32.toUInt32 (((a1 - (((Int32.toUInt32 a1 >>> (Int32.toUInt32 (1 : Int32) &&& Int32.toUInt32 31)).toInt32) &&& (1431655765 : Int32))) &&& (858993459 : Int32)) + (((Int32.toUInt32 (a1 - (((Int32.toUInt32 a1 >>> (Int32.toUInt32 (1 : Int32) &&& Int32.toUInt32 31)).toInt32) &&& (1431655765 : Int32))) >>> (Int32.toUInt32 (2 : Int32) &&& Int32.toUInt32 31)).toInt32) &&& (858993459 : Int32))) >>> (Int32.toUInt32 (4 : Int32) &&& Int32.toUInt32 31)).toInt32)) &&& (252645135 : Int32)))]) [0] dJ6_bitCount_0f7a4_33 rfl (by decide) rfl ?_
  refine mv_iload_n 0 dJ6_bitCount_0f7a4_34 rfl rfl ?_
  refine mv_iload_n 0 dJ6_bitCount_0f7a4_35 rfl rfl ?_
  refine mv_bipush (v := 8) dJ6_bitCount_0f7a4_36 bp_8 ?_
  refine mv_iushr dJ6_bitCount_0f7a4_38 ?_
  refine mv_iadd dJ6_bitCount_0f7a4_39 ?_
  refine mv_istore_n (lv' := [(0, .int ((((((a1 - (((Int32.toUInt32 a1 >>> (Int32.toUInt32 (1 : Int32) &&& Int32.toUInt32 31)).toInt32) &&& (1431655765 : Int32))) &&& (858993459 : Int32)) + (((Int32.toUInt32 (a1 - (((Int32.toUInt32 a1 >>> (Int32.toUInt32 (1 : Int32) &&& Int32.toUInt32 31)).toInt32) &&& (1431655765 : Int32))) >>> (Int32.toUInt32 (2 : Int32) &&& Int32.toUInt32 31)).toInt32) &&& (858993459 : Int32))) + ((Int32.toUInt32 (((a1 - (((Int32.toUInt32 a1 >>> (Int32.toUInt32 (1 : Int32) &&& Int32.toUInt32 31)).toInt32) &&& (1431655765 : Int32))) &&& (858993459 : Int32)) + (((Int32.toUInt32 (a1 - (((Int32.toUInt32 a1 >>> (Int32.toUInt32 (1 : Int32) &&& Int32.toUInt32 31)).toInt32) &&& (1431655765 : Int32))) >>> (Int32.toUInt32 (2 : Int32) &&& Int32.toUInt32 31)).toInt32) &&& (858993459 : Int32))) >>> (Int32.toUInt32 (4 : Int32) &&& Int32.toUInt32 31)).toInt32)) &&& (252645135 : Int32)) + ((Int32.toUInt32 (((((a1 - (((Int32.toUInt32 a1 >>> (Int32.toUInt32 (1 : Int32) &&& Int32.toUInt32 31)).toInt32) &&& (1431655765 : Int32))) &&& (858993459 : Int32)) + (((Int32.toUInt32 (a1 - (((Int32.toUInt32 a1 >>> (Int32.toUInt32 (1 : Int32) &&& Int32.toUInt32 31)).toInt32) &&& (1431655765 : Int32))) >>> (Int32.toUInt32 (2 : Int32) &&& Int32.toUInt32 31)).toInt32) &&& (858993459 : Int32))) + ((Int32.toUInt32 (((a1 - (((Int32.toUInt32 a1 >>> (Int32.toUInt32 (1 : Int32) &&& Int32.toUInt32 31)).toInt32) &&& (1431655765 : Int32))) &&& (858993459 : Int32)) + (((Int32.toUInt32 (a1 - (((Int32.toUInt32 a1 >>> (Int32.toUInt32 (1 : Int32) &&& Int32.toUInt32 31)).toInt32) &&& (1431655765 : Int32))) >>> (Int32.toUInt32 (2 : Int32) &&& Int32.toUInt32 31)).toInt32) &&& (858993459 : Int32))) >>> (Int32.toUInt32 (4 : Int32) &&& Int32.toUInt32 31)).toInt32)) &&& (252645135 : Int32)) >>> (Int32.toUInt32 (8 : Int32) &&& Int32.toUInt32 31)).toInt32)))]) [0] dJ6_bitCount_0f7a4_40 rfl (by decide) rfl ?_
  refine mv_iload_n 0 dJ6_bitCount_0f7a4_41 rfl rfl ?_
  refine mv_iload_n 0 dJ6_bitCount_0f7a4_42 rfl rfl ?_
  refine mv_bipush (v := 16) dJ6_bitCount_0f7a4_43 bp_16 ?_
  refine mv_iushr dJ6_bitCount_0f7a4_45 ?_
  refine mv_iadd dJ6_bitCount_0f7a4_46 ?_
  refine mv_istore_n (lv' := [(0, .int (((((((a1 - (((Int32.toUInt32 a1 >>> (Int32.toUInt32 (1 : Int32) &&& Int32.toUInt32 31)).toInt32) &&& (1431655765 : Int32))) &&& (858993459 : Int32)) + (((Int32.toUInt32 (a1 - (((Int32.toUInt32 a1 >>> (Int32.toUInt32 (1 : Int32) &&& Int32.toUInt32 31)).toInt32) &&& (1431655765 : Int32))) >>> (Int32.toUInt32 (2 : Int32) &&& Int32.toUInt32 31)).toInt32) &&& (858993459 : Int32))) + ((Int32.toUInt32 (((a1 - (((Int32.toUInt32 a1 >>> (Int32.toUInt32 (1 : Int32) &&& Int32.toUInt32 31)).toInt32) &&& (1431655765 : Int32))) &&& (858993459 : Int32)) + (((Int32.toUInt32 (a1 - (((Int32.toUInt32 a1 >>> (Int32.toUInt32 (1 : Int32) &&& Int32.toUInt32 31)).toInt32) &&& (1431655765 : Int32))) >>> (Int32.toUInt32 (2 : Int32) &&& Int32.toUInt32 31)).toInt32) &&& (858993459 : Int32))) >>> (Int32.toUInt32 (4 : Int32) &&& Int32.toUInt32 31)).toInt32)) &&& (252645135 : Int32)) + ((Int32.toUInt32 (((((a1 - (((Int32.toUInt32 a1 >>> (Int32.toUInt32 (1 : Int32) &&& Int32.toUInt32 31)).toInt32) &&& (1431655765 : Int32))) &&& (858993459 : Int32)) + (((Int32.toUInt32 (a1 - (((Int32.toUInt32 a1 >>> (Int32.toUInt32 (1 : Int32) &&& Int32.toUInt32 31)).toInt32) &&& (1431655765 : Int32))) >>> (Int32.toUInt32 (2 : Int32) &&& Int32.toUInt32 31)).toInt32) &&& (858993459 : Int32))) + ((Int32.toUInt32 (((a1 - (((Int32.toUInt32 a1 >>> (Int32.toUInt32 (1 : Int32) &&& Int32.toUInt32 31)).toInt32) &&& (1431655765 : Int32))) &&& (858993459 : Int32)) + (((Int32.toUInt32 (a1 - (((Int32.toUInt32 a1 >>> (Int32.toUInt32 (1 : Int32) &&& Int32.toUInt32 31)).toInt32) &&& (1431655765 : Int32))) >>> (Int32.toUInt32 (2 : Int32) &&& Int32.toUInt32 31)).toInt32) &&& (858993459 : Int32))) >>> (Int32.toUInt32 (4 : Int32) &&& Int32.toUInt32 31)).toInt32)) &&& (252645135 : Int32)) >>> (Int32.toUInt32 (8 : Int32) &&& Int32.toUInt32 31)).toInt32)) + ((Int32.toUInt32 ((((((a1 - (((Int32.toUInt32 a1 >>> (Int32.toUInt32 (1 : Int32) &&& Int32.toUInt32 31)).toInt32) &&& (1431655765 : Int32))) &&& (858993459 : Int32)) + (((Int32.toUInt32 (a1 - (((Int32.toUInt32 a1 >>> (Int32.toUInt32 (1 : Int32) &&& Int32.toUInt32 31)).toInt32) &&& (1431655765 : Int32))) >>> (Int32.toUInt32 (2 : Int32) &&& Int32.toUInt32 31)).toInt32) &&& (858993459 : Int32))) + ((Int32.toUInt32 (((a1 - (((Int32.toUInt32 a1 >>> (Int32.toUInt32 (1 : Int32) &&& Int32.toUInt32 31)).toInt32) &&& (1431655765 : Int32))) &&& (858993459 : Int32)) + (((Int32.toUInt32 (a1 - (((Int32.toUInt32 a1 >>> (Int32.toUInt32 (1 : Int32) &&& Int32.toUInt32 31)).toInt32) &&& (1431655765 : Int32))) >>> (Int32.toUInt32 (2 : Int32) &&& Int32.toUInt32 31)).toInt32) &&& (858993459 : Int32))) >>> (Int32.toUInt32 (4 : Int32) &&& Int32.toUInt32 31)).toInt32)) &&& (252645135 : Int32)) + ((Int32.toUInt32 (((((a1 - (((Int32.toUInt32 a1 >>> (Int32.toUInt32 (1 : Int32) &&& Int32.toUInt32 31)).toInt32) &&& (1431655765 : Int32))) &&& (858993459 : Int32)) + (((Int32.toUInt32 (a1 - (((Int32.toUInt32 a1 >>> (Int32.toUInt32 (1 : Int32) &&& Int32.toUInt32 31)).toInt32) &&& (1431655765 : Int32))) >>> (Int32.toUInt32 (2 : Int32) &&& Int32.toUInt32 31)).toInt32) &&& (858993459 : Int32))) + ((Int32.toUInt32 (((a1 - (((Int32.toUInt32 a1 >>> (Int32.toUInt32 (1 : Int32) &&& Int32.toUInt32 31)).toInt32) &&& (1431655765 : Int32))) &&& (858993459 : Int32)) + (((Int32.toUInt32 (a1 - (((Int32.toUInt32 a1 >>> (Int32.toUInt32 (1 : Int32) &&& Int32.toUInt32 31)).toInt32) &&& (1431655765 : Int32))) >>> (Int32.toUInt32 (2 : Int32) &&& Int32.toUInt32 31)).toInt32) &&& (858993459 : Int32))) >>> (Int32.toUInt32 (4 : Int32) &&& Int32.toUInt32 31)).toInt32)) &&& (252645135 : Int32)) >>> (Int32.toUInt32 (8 : Int32) &&& Int32.toUInt32 31)).toInt32)) >>> (Int32.toUInt32 (16 : Int32) &&& Int32.toUInt32 31)).toInt32)))]) [0] dJ6_bitCount_0f7a4_47 rfl (by decide) rfl ?_
  refine mv_iload_n 0 dJ6_bitCount_0f7a4_48 rfl rfl ?_
  refine mv_bipush (v := 63) dJ6_bitCount_0f7a4_49 bp_63 ?_
  refine mv_iand dJ6_bitCount_0f7a4_51 ?_
  exact mv_iretr hQ dJ6_bitCount_0f7a4_52
theorem co_J6_bitCount_0f7a4 {l : Launch} {G : mt_G} {fu : Nat} {σ : mt_St} {a1 : Int32} {r : Int32}  (h : fJ6_bitCount_0f7a4 fu a1 = some r) : mt_Con l G yJ6_bitCount_0f7a4 cJ6_bitCount_0f7a4 1 (some .int) 0 [.int a1] σ (some (.int r)) σ :=
  mt_con (by decide) (Nat.le_of_ble_eq_true rfl) (fun K hl hG hQ => by subst hl; subst hG; exact fun _ => vJ6_bitCount_0f7a4  hQ h)
theorem dJ6_numberOfLeadingZeros_0f7a4_0 : decode cJ6_numberOfLeadingZeros_0f7a4 0 = .ok (.iload_n 0, 1) := by decide +kernel
theorem dJ6_numberOfLeadingZeros_0f7a4_1 : decode cJ6_numberOfLeadingZeros_0f7a4 1 = .ok (.ifCond .gt 14, 3) := by decide +kernel
theorem dJ6_numberOfLeadingZeros_0f7a4_4 : decode cJ6_numberOfLeadingZeros_0f7a4 4 = .ok (.iload_n 0, 1) := by decide +kernel
theorem dJ6_numberOfLeadingZeros_0f7a4_5 : decode cJ6_numberOfLeadingZeros_0f7a4 5 = .ok (.ifCond .ne 8, 3) := by decide +kernel
theorem dJ6_numberOfLeadingZeros_0f7a4_8 : decode cJ6_numberOfLeadingZeros_0f7a4 8 = .ok (.bipush 32, 2) := by decide +kernel
theorem dJ6_numberOfLeadingZeros_0f7a4_10 : decode cJ6_numberOfLeadingZeros_0f7a4 10 = .ok (.goto 4, 3) := by decide +kernel
theorem dJ6_numberOfLeadingZeros_0f7a4_13 : decode cJ6_numberOfLeadingZeros_0f7a4 13 = .ok (.iconst 0, 1) := by decide +kernel
theorem dJ6_numberOfLeadingZeros_0f7a4_14 : decode cJ6_numberOfLeadingZeros_0f7a4 14 = .ok (.ireturn, 1) := by decide +kernel
theorem dJ6_numberOfLeadingZeros_0f7a4_15 : decode cJ6_numberOfLeadingZeros_0f7a4 15 = .ok (.bipush 31, 2) := by decide +kernel
theorem dJ6_numberOfLeadingZeros_0f7a4_17 : decode cJ6_numberOfLeadingZeros_0f7a4 17 = .ok (.istore_n 1, 1) := by decide +kernel
theorem dJ6_numberOfLeadingZeros_0f7a4_18 : decode cJ6_numberOfLeadingZeros_0f7a4 18 = .ok (.iload_n 0, 1) := by decide +kernel
theorem dJ6_numberOfLeadingZeros_0f7a4_19 : decode cJ6_numberOfLeadingZeros_0f7a4 19 = .ok (.ldc_w 264, 3) := by decide +kernel
theorem dJ6_numberOfLeadingZeros_0f7a4_22 : decode cJ6_numberOfLeadingZeros_0f7a4 22 = .ok (.if_icmp .lt 11, 3) := by decide +kernel
theorem dJ6_numberOfLeadingZeros_0f7a4_25 : decode cJ6_numberOfLeadingZeros_0f7a4 25 = .ok (.iinc 1 (-16), 3) := by decide +kernel
theorem dJ6_numberOfLeadingZeros_0f7a4_28 : decode cJ6_numberOfLeadingZeros_0f7a4 28 = .ok (.iload_n 0, 1) := by decide +kernel
theorem dJ6_numberOfLeadingZeros_0f7a4_29 : decode cJ6_numberOfLeadingZeros_0f7a4 29 = .ok (.bipush 16, 2) := by decide +kernel
theorem dJ6_numberOfLeadingZeros_0f7a4_31 : decode cJ6_numberOfLeadingZeros_0f7a4 31 = .ok (.iushr, 1) := by decide +kernel
theorem dJ6_numberOfLeadingZeros_0f7a4_32 : decode cJ6_numberOfLeadingZeros_0f7a4 32 = .ok (.istore_n 0, 1) := by decide +kernel
theorem dJ6_numberOfLeadingZeros_0f7a4_33 : decode cJ6_numberOfLeadingZeros_0f7a4 33 = .ok (.iload_n 0, 1) := by decide +kernel
theorem dJ6_numberOfLeadingZeros_0f7a4_34 : decode cJ6_numberOfLeadingZeros_0f7a4 34 = .ok (.sipush 256, 3) := by decide +kernel
theorem dJ6_numberOfLeadingZeros_0f7a4_37 : decode cJ6_numberOfLeadingZeros_0f7a4 37 = .ok (.if_icmp .lt 11, 3) := by decide +kernel
theorem dJ6_numberOfLeadingZeros_0f7a4_40 : decode cJ6_numberOfLeadingZeros_0f7a4 40 = .ok (.iinc 1 (-8), 3) := by decide +kernel
theorem dJ6_numberOfLeadingZeros_0f7a4_43 : decode cJ6_numberOfLeadingZeros_0f7a4 43 = .ok (.iload_n 0, 1) := by decide +kernel
theorem dJ6_numberOfLeadingZeros_0f7a4_44 : decode cJ6_numberOfLeadingZeros_0f7a4 44 = .ok (.bipush 8, 2) := by decide +kernel
theorem dJ6_numberOfLeadingZeros_0f7a4_46 : decode cJ6_numberOfLeadingZeros_0f7a4 46 = .ok (.iushr, 1) := by decide +kernel
theorem dJ6_numberOfLeadingZeros_0f7a4_47 : decode cJ6_numberOfLeadingZeros_0f7a4 47 = .ok (.istore_n 0, 1) := by decide +kernel
theorem dJ6_numberOfLeadingZeros_0f7a4_48 : decode cJ6_numberOfLeadingZeros_0f7a4 48 = .ok (.iload_n 0, 1) := by decide +kernel
theorem dJ6_numberOfLeadingZeros_0f7a4_49 : decode cJ6_numberOfLeadingZeros_0f7a4 49 = .ok (.bipush 16, 2) := by decide +kernel
theorem dJ6_numberOfLeadingZeros_0f7a4_51 : decode cJ6_numberOfLeadingZeros_0f7a4 51 = .ok (.if_icmp .lt 10, 3) := by decide +kernel
theorem dJ6_numberOfLeadingZeros_0f7a4_54 : decode cJ6_numberOfLeadingZeros_0f7a4 54 = .ok (.iinc 1 (-4), 3) := by decide +kernel
theorem dJ6_numberOfLeadingZeros_0f7a4_57 : decode cJ6_numberOfLeadingZeros_0f7a4 57 = .ok (.iload_n 0, 1) := by decide +kernel
theorem dJ6_numberOfLeadingZeros_0f7a4_58 : decode cJ6_numberOfLeadingZeros_0f7a4 58 = .ok (.iconst 4, 1) := by decide +kernel
theorem dJ6_numberOfLeadingZeros_0f7a4_59 : decode cJ6_numberOfLeadingZeros_0f7a4 59 = .ok (.iushr, 1) := by decide +kernel
theorem dJ6_numberOfLeadingZeros_0f7a4_60 : decode cJ6_numberOfLeadingZeros_0f7a4 60 = .ok (.istore_n 0, 1) := by decide +kernel
theorem dJ6_numberOfLeadingZeros_0f7a4_61 : decode cJ6_numberOfLeadingZeros_0f7a4 61 = .ok (.iload_n 0, 1) := by decide +kernel
theorem dJ6_numberOfLeadingZeros_0f7a4_62 : decode cJ6_numberOfLeadingZeros_0f7a4 62 = .ok (.iconst 4, 1) := by decide +kernel
theorem dJ6_numberOfLeadingZeros_0f7a4_63 : decode cJ6_numberOfLeadingZeros_0f7a4 63 = .ok (.if_icmp .lt 10, 3) := by decide +kernel
theorem dJ6_numberOfLeadingZeros_0f7a4_66 : decode cJ6_numberOfLeadingZeros_0f7a4 66 = .ok (.iinc 1 (-2), 3) := by decide +kernel
theorem dJ6_numberOfLeadingZeros_0f7a4_69 : decode cJ6_numberOfLeadingZeros_0f7a4 69 = .ok (.iload_n 0, 1) := by decide +kernel
theorem dJ6_numberOfLeadingZeros_0f7a4_70 : decode cJ6_numberOfLeadingZeros_0f7a4 70 = .ok (.iconst 2, 1) := by decide +kernel
theorem dJ6_numberOfLeadingZeros_0f7a4_71 : decode cJ6_numberOfLeadingZeros_0f7a4 71 = .ok (.iushr, 1) := by decide +kernel
theorem dJ6_numberOfLeadingZeros_0f7a4_72 : decode cJ6_numberOfLeadingZeros_0f7a4 72 = .ok (.istore_n 0, 1) := by decide +kernel
theorem dJ6_numberOfLeadingZeros_0f7a4_73 : decode cJ6_numberOfLeadingZeros_0f7a4 73 = .ok (.iload_n 1, 1) := by decide +kernel
theorem dJ6_numberOfLeadingZeros_0f7a4_74 : decode cJ6_numberOfLeadingZeros_0f7a4 74 = .ok (.iload_n 0, 1) := by decide +kernel
theorem dJ6_numberOfLeadingZeros_0f7a4_75 : decode cJ6_numberOfLeadingZeros_0f7a4 75 = .ok (.iconst 1, 1) := by decide +kernel
theorem dJ6_numberOfLeadingZeros_0f7a4_76 : decode cJ6_numberOfLeadingZeros_0f7a4 76 = .ok (.iushr, 1) := by decide +kernel
theorem dJ6_numberOfLeadingZeros_0f7a4_77 : decode cJ6_numberOfLeadingZeros_0f7a4 77 = .ok (.isub, 1) := by decide +kernel
theorem dJ6_numberOfLeadingZeros_0f7a4_78 : decode cJ6_numberOfLeadingZeros_0f7a4 78 = .ok (.ireturn, 1) := by decide +kernel
def bJ6_numberOfLeadingZeros_0f7a4_73 (fu : Nat) (x0 : Int32) (x1 : Int32) : Option Int32 :=
  some (x1 - ((Int32.toUInt32 x0 >>> (Int32.toUInt32 (1 : Int32) &&& Int32.toUInt32 31)).toInt32))
set_option maxHeartbeats 4000000 in
set_option maxRecDepth 20000 in
theorem vJ6_numberOfLeadingZeros_0f7a4_73 {K : mt_C} {fu : Nat} {σ : mt_St} {r : Int32} (hQ : mt_R K (some .int) (some (.int r)) σ) : ∀ (x0 : Int32) (x1 : Int32), mt_V K cJ6_numberOfLeadingZeros_0f7a4 RJ6 2 0 σ 73 [(0, .int x0), (1, .int x1)] [] (bJ6_numberOfLeadingZeros_0f7a4_73 fu x0 x1 = some r) := by
  intro x0 x1
  unfold bJ6_numberOfLeadingZeros_0f7a4_73
  refine mv_iload_n 1 dJ6_numberOfLeadingZeros_0f7a4_73 rfl rfl ?_
  refine mv_iload_n 0 dJ6_numberOfLeadingZeros_0f7a4_74 rfl rfl ?_
  refine mv_iconst (v := 1) dJ6_numberOfLeadingZeros_0f7a4_75 ic_1 ?_
  refine mv_iushr dJ6_numberOfLeadingZeros_0f7a4_76 ?_
  refine mv_isub dJ6_numberOfLeadingZeros_0f7a4_77 ?_
  exact mv_iretr hQ dJ6_numberOfLeadingZeros_0f7a4_78
def bJ6_numberOfLeadingZeros_0f7a4_61 (fu : Nat) (x0 : Int32) (x1 : Int32) : Option Int32 :=
  if x0 < (4 : Int32) then
    bJ6_numberOfLeadingZeros_0f7a4_73 fu x0 x1
  else
    bJ6_numberOfLeadingZeros_0f7a4_73 fu ((Int32.toUInt32 x0 >>> (Int32.toUInt32 (2 : Int32) &&& Int32.toUInt32 31)).toInt32) (x1 + -2)
set_option maxHeartbeats 4000000 in
set_option maxRecDepth 20000 in
theorem vJ6_numberOfLeadingZeros_0f7a4_61 {K : mt_C} {fu : Nat} {σ : mt_St} {r : Int32} (hQ : mt_R K (some .int) (some (.int r)) σ) : ∀ (x0 : Int32) (x1 : Int32), mt_V K cJ6_numberOfLeadingZeros_0f7a4 RJ6 2 0 σ 61 [(0, .int x0), (1, .int x1)] [] (bJ6_numberOfLeadingZeros_0f7a4_61 fu x0 x1 = some r) := by
  intro x0 x1
  unfold bJ6_numberOfLeadingZeros_0f7a4_61
  refine mv_iload_n 0 dJ6_numberOfLeadingZeros_0f7a4_61 rfl rfl ?_
  refine mv_iconst (v := 4) dJ6_numberOfLeadingZeros_0f7a4_62 ic_4 ?_
  refine mv_icmp_lt 73 dJ6_numberOfLeadingZeros_0f7a4_63 (by decide) ?_ ?_
  · exact vJ6_numberOfLeadingZeros_0f7a4_73 hQ x0 x1
  · refine mv_iinc (k0 := 1) (v := x1 + -2) (lv' := [(0, .int x0), (1, .int (x1 + -2))]) [1, 0] dJ6_numberOfLeadingZeros_0f7a4_66 rfl (mt_inc ic_m2) (by decide) rfl ?_
    refine mv_iload_n 0 dJ6_numberOfLeadingZeros_0f7a4_69 rfl rfl ?_
    refine mv_iconst (v := 2) dJ6_numberOfLeadingZeros_0f7a4_70 ic_2 ?_
    refine mv_iushr dJ6_numberOfLeadingZeros_0f7a4_71 ?_
    refine mv_istore_n (lv' := [(0, .int ((Int32.toUInt32 x0 >>> (Int32.toUInt32 (2 : Int32) &&& Int32.toUInt32 31)).toInt32)), (1, .int (x1 + -2))]) [0, 1] dJ6_numberOfLeadingZeros_0f7a4_72 rfl (by decide) rfl ?_
    exact vJ6_numberOfLeadingZeros_0f7a4_73 hQ ((Int32.toUInt32 x0 >>> (Int32.toUInt32 (2 : Int32) &&& Int32.toUInt32 31)).toInt32) (x1 + -2)
def bJ6_numberOfLeadingZeros_0f7a4_48 (fu : Nat) (x0 : Int32) (x1 : Int32) : Option Int32 :=
  if x0 < (16 : Int32) then
    bJ6_numberOfLeadingZeros_0f7a4_61 fu x0 x1
  else
    bJ6_numberOfLeadingZeros_0f7a4_61 fu ((Int32.toUInt32 x0 >>> (Int32.toUInt32 (4 : Int32) &&& Int32.toUInt32 31)).toInt32) (x1 + -4)
set_option maxHeartbeats 4000000 in
set_option maxRecDepth 20000 in
theorem vJ6_numberOfLeadingZeros_0f7a4_48 {K : mt_C} {fu : Nat} {σ : mt_St} {r : Int32} (hQ : mt_R K (some .int) (some (.int r)) σ) : ∀ (x0 : Int32) (x1 : Int32), mt_V K cJ6_numberOfLeadingZeros_0f7a4 RJ6 2 0 σ 48 [(0, .int x0), (1, .int x1)] [] (bJ6_numberOfLeadingZeros_0f7a4_48 fu x0 x1 = some r) := by
  intro x0 x1
  unfold bJ6_numberOfLeadingZeros_0f7a4_48
  refine mv_iload_n 0 dJ6_numberOfLeadingZeros_0f7a4_48 rfl rfl ?_
  refine mv_bipush (v := 16) dJ6_numberOfLeadingZeros_0f7a4_49 bp_16 ?_
  refine mv_icmp_lt 61 dJ6_numberOfLeadingZeros_0f7a4_51 (by decide) ?_ ?_
  · exact vJ6_numberOfLeadingZeros_0f7a4_61 hQ x0 x1
  · refine mv_iinc (k0 := 1) (v := x1 + -4) (lv' := [(0, .int x0), (1, .int (x1 + -4))]) [1, 0] dJ6_numberOfLeadingZeros_0f7a4_54 rfl (mt_inc ic_m4) (by decide) rfl ?_
    refine mv_iload_n 0 dJ6_numberOfLeadingZeros_0f7a4_57 rfl rfl ?_
    refine mv_iconst (v := 4) dJ6_numberOfLeadingZeros_0f7a4_58 ic_4 ?_
    refine mv_iushr dJ6_numberOfLeadingZeros_0f7a4_59 ?_
    refine mv_istore_n (lv' := [(0, .int ((Int32.toUInt32 x0 >>> (Int32.toUInt32 (4 : Int32) &&& Int32.toUInt32 31)).toInt32)), (1, .int (x1 + -4))]) [0, 1] dJ6_numberOfLeadingZeros_0f7a4_60 rfl (by decide) rfl ?_
    exact vJ6_numberOfLeadingZeros_0f7a4_61 hQ ((Int32.toUInt32 x0 >>> (Int32.toUInt32 (4 : Int32) &&& Int32.toUInt32 31)).toInt32) (x1 + -4)
def bJ6_numberOfLeadingZeros_0f7a4_33 (fu : Nat) (x0 : Int32) (x1 : Int32) : Option Int32 :=
  if x0 < (256 : Int32) then
    bJ6_numberOfLeadingZeros_0f7a4_48 fu x0 x1
  else
    bJ6_numberOfLeadingZeros_0f7a4_48 fu ((Int32.toUInt32 x0 >>> (Int32.toUInt32 (8 : Int32) &&& Int32.toUInt32 31)).toInt32) (x1 + -8)
set_option maxHeartbeats 4000000 in
set_option maxRecDepth 20000 in
theorem vJ6_numberOfLeadingZeros_0f7a4_33 {K : mt_C} {fu : Nat} {σ : mt_St} {r : Int32} (hQ : mt_R K (some .int) (some (.int r)) σ) : ∀ (x0 : Int32) (x1 : Int32), mt_V K cJ6_numberOfLeadingZeros_0f7a4 RJ6 2 0 σ 33 [(0, .int x0), (1, .int x1)] [] (bJ6_numberOfLeadingZeros_0f7a4_33 fu x0 x1 = some r) := by
  intro x0 x1
  unfold bJ6_numberOfLeadingZeros_0f7a4_33
  refine mv_iload_n 0 dJ6_numberOfLeadingZeros_0f7a4_33 rfl rfl ?_
  refine mv_sipush (v := 256) dJ6_numberOfLeadingZeros_0f7a4_34 sp_256 ?_
  refine mv_icmp_lt 48 dJ6_numberOfLeadingZeros_0f7a4_37 (by decide) ?_ ?_
  · exact vJ6_numberOfLeadingZeros_0f7a4_48 hQ x0 x1
  · refine mv_iinc (k0 := 1) (v := x1 + -8) (lv' := [(0, .int x0), (1, .int (x1 + -8))]) [1, 0] dJ6_numberOfLeadingZeros_0f7a4_40 rfl (mt_inc ic_m8) (by decide) rfl ?_
    refine mv_iload_n 0 dJ6_numberOfLeadingZeros_0f7a4_43 rfl rfl ?_
    refine mv_bipush (v := 8) dJ6_numberOfLeadingZeros_0f7a4_44 bp_8 ?_
    refine mv_iushr dJ6_numberOfLeadingZeros_0f7a4_46 ?_
    refine mv_istore_n (lv' := [(0, .int ((Int32.toUInt32 x0 >>> (Int32.toUInt32 (8 : Int32) &&& Int32.toUInt32 31)).toInt32)), (1, .int (x1 + -8))]) [0, 1] dJ6_numberOfLeadingZeros_0f7a4_47 rfl (by decide) rfl ?_
    exact vJ6_numberOfLeadingZeros_0f7a4_48 hQ ((Int32.toUInt32 x0 >>> (Int32.toUInt32 (8 : Int32) &&& Int32.toUInt32 31)).toInt32) (x1 + -8)
def bJ6_numberOfLeadingZeros_0f7a4_14 (fu : Nat) (y0 : Int32) : Option Int32 :=
  some y0
set_option maxHeartbeats 4000000 in
set_option maxRecDepth 20000 in
theorem vJ6_numberOfLeadingZeros_0f7a4_14 {K : mt_C} {fu : Nat} {σ : mt_St} {r : Int32} (hQ : mt_R K (some .int) (some (.int r)) σ) : ∀ (y0 : Int32), mt_V K cJ6_numberOfLeadingZeros_0f7a4 RJ6 2 0 σ 14 [] [.int y0] (bJ6_numberOfLeadingZeros_0f7a4_14 fu y0 = some r) := by
  intro y0
  unfold bJ6_numberOfLeadingZeros_0f7a4_14
  exact mv_iretr hQ dJ6_numberOfLeadingZeros_0f7a4_14
def fJ6_numberOfLeadingZeros_0f7a4 (fu : Nat) (a1 : Int32) : Option Int32 :=
  if 0 < a1 then
    if a1 < (65536 : Int32) then
      bJ6_numberOfLeadingZeros_0f7a4_33 fu a1 (31 : Int32)
    else
      bJ6_numberOfLeadingZeros_0f7a4_33 fu ((Int32.toUInt32 a1 >>> (Int32.toUInt32 (16 : Int32) &&& Int32.toUInt32 31)).toInt32) ((31 : Int32) + -16)
  else
    if a1 = 0 then
      bJ6_numberOfLeadingZeros_0f7a4_14 fu (32 : Int32)
    else
      bJ6_numberOfLeadingZeros_0f7a4_14 fu (0 : Int32)
set_option maxHeartbeats 4000000 in
set_option maxRecDepth 20000 in
theorem vJ6_numberOfLeadingZeros_0f7a4 {K : mt_C} {fu : Nat} {σ : mt_St} {a1 : Int32} {r : Int32} (hQ : mt_R K (some .int) (some (.int r)) σ) : mt_V K cJ6_numberOfLeadingZeros_0f7a4 RJ6 2 0 σ 0 [(0, .int a1)] [] (fJ6_numberOfLeadingZeros_0f7a4 fu a1 = some r) := by
  unfold fJ6_numberOfLeadingZeros_0f7a4
  refine mv_iload_n 0 dJ6_numberOfLeadingZeros_0f7a4_0 rfl rfl ?_
  refine mv_if_gt 15 dJ6_numberOfLeadingZeros_0f7a4_1 (by decide) ?_ ?_
  · refine mv_bipush (v := 31) dJ6_numberOfLeadingZeros_0f7a4_15 bp_31 ?_
    refine mv_istore_n (lv' := [(0, .int a1), (1, .int (31 : Int32))]) [1, 0] dJ6_numberOfLeadingZeros_0f7a4_17 rfl (by decide) rfl ?_
    refine mv_iload_n 0 dJ6_numberOfLeadingZeros_0f7a4_18 rfl rfl ?_
    refine mv_ldcw kc_J6_264 dJ6_numberOfLeadingZeros_0f7a4_19 ?_
    refine mv_icmp_lt 33 dJ6_numberOfLeadingZeros_0f7a4_22 (by decide) ?_ ?_
    · exact vJ6_numberOfLeadingZeros_0f7a4_33 hQ a1 (31 : Int32)
    · refine mv_iinc (k0 := 1) (v := (31 : Int32) + -16) (lv' := [(0, .int a1), (1, .int ((31 : Int32) + -16))]) [1, 0] dJ6_numberOfLeadingZeros_0f7a4_25 rfl (mt_inc ic_m16) (by decide) rfl ?_
      refine mv_iload_n 0 dJ6_numberOfLeadingZeros_0f7a4_28 rfl rfl ?_
      refine mv_bipush (v := 16) dJ6_numberOfLeadingZeros_0f7a4_29 bp_16 ?_
      refine mv_iushr dJ6_numberOfLeadingZeros_0f7a4_31 ?_
      refine mv_istore_n (lv' := [(0, .int ((Int32.toUInt32 a1 >>> (Int32.toUInt32 (16 : Int32) &&& Int32.toUInt32 31)).toInt32)), (1, .int ((31 : Int32) + -16))]) [0, 1] dJ6_numberOfLeadingZeros_0f7a4_32 rfl (by decide) rfl ?_
      exact vJ6_numberOfLeadingZeros_0f7a4_33 hQ ((Int32.toUInt32 a1 >>> (Int32.toUInt32 (16 : Int32) &&& Int32.toUInt32 31)).toInt32) ((31 : Int32) + -16)
  · refine mv_iload_n 0 dJ6_numberOfLeadingZeros_0f7a4_4 rfl rfl ?_
    refine mv_if_ne 13 dJ6_numberOfLeadingZeros_0f7a4_5 (by decide) ?_ ?_
    · refine mv_iconst (v := 0) dJ6_numberOfLeadingZeros_0f7a4_13 ic_0 ?_
      refine mv_sub (lv' := []) [] rfl ?_
      exact vJ6_numberOfLeadingZeros_0f7a4_14 hQ (0 : Int32)
    · refine mv_bipush (v := 32) dJ6_numberOfLeadingZeros_0f7a4_8 bp_32 ?_
      refine mv_goto 14 dJ6_numberOfLeadingZeros_0f7a4_10 (by decide) ?_
      refine mv_sub (lv' := []) [] rfl ?_
      exact vJ6_numberOfLeadingZeros_0f7a4_14 hQ (32 : Int32)
theorem co_J6_numberOfLeadingZeros_0f7a4 {l : Launch} {G : mt_G} {fu : Nat} {σ : mt_St} {a1 : Int32} {r : Int32}  (h : fJ6_numberOfLeadingZeros_0f7a4 fu a1 = some r) : mt_Con l G yJ6_numberOfLeadingZeros_0f7a4 cJ6_numberOfLeadingZeros_0f7a4 2 (some .int) 0 [.int a1] σ (some (.int r)) σ :=
  mt_con (by decide) (Nat.le_of_ble_eq_true rfl) (fun K hl hG hQ => by subst hl; subst hG; exact fun _ => vJ6_numberOfLeadingZeros_0f7a4  hQ h)
theorem dJ6_highestOneBit_0f7a4_0 : decode cJ6_highestOneBit_0f7a4 0 = .ok (.iload_n 0, 1) := by decide +kernel
theorem dJ6_highestOneBit_0f7a4_1 : decode cJ6_highestOneBit_0f7a4 1 = .ok (.ldc 127, 2) := by decide +kernel
theorem dJ6_highestOneBit_0f7a4_3 : decode cJ6_highestOneBit_0f7a4 3 = .ok (.iload_n 0, 1) := by decide +kernel
theorem dJ6_highestOneBit_0f7a4_4 : decode cJ6_highestOneBit_0f7a4 4 = .ok (.invokestatic 51, 3) := by decide +kernel
theorem dJ6_highestOneBit_0f7a4_7 : decode cJ6_highestOneBit_0f7a4 7 = .ok (.iushr, 1) := by decide +kernel
theorem dJ6_highestOneBit_0f7a4_8 : decode cJ6_highestOneBit_0f7a4 8 = .ok (.iand, 1) := by decide +kernel
theorem dJ6_highestOneBit_0f7a4_9 : decode cJ6_highestOneBit_0f7a4 9 = .ok (.ireturn, 1) := by decide +kernel
def fJ6_highestOneBit_0f7a4 (fu : Nat) (a1 : Int32) : Option Int32 :=
  mt_ask (fJ6_numberOfLeadingZeros_0f7a4 fu a1) fun r1 =>
  some (a1 &&& ((Int32.toUInt32 (-2147483648 : Int32) >>> (Int32.toUInt32 r1 &&& Int32.toUInt32 31)).toInt32))
set_option maxHeartbeats 4000000 in
set_option maxRecDepth 20000 in
theorem vJ6_highestOneBit_0f7a4 {K : mt_C} {fu : Nat} {σ : mt_St} {a1 : Int32} {r : Int32} (hQ : mt_R K (some .int) (some (.int r)) σ) : mt_V K cJ6_highestOneBit_0f7a4 RJ6 1 1 σ 0 [(0, .int a1)] [] (fJ6_highestOneBit_0f7a4 fu a1 = some r) := by
  unfold fJ6_highestOneBit_0f7a4
  refine mv_iload_n 0 dJ6_highestOneBit_0f7a4_0 rfl rfl ?_
  refine mv_ldc kc_J6_127 dJ6_highestOneBit_0f7a4_1 ?_
  refine mv_iload_n 0 dJ6_highestOneBit_0f7a4_3 rfl rfl ?_
  refine mv_cSri (As := [.int a1]) (st := [.int (-2147483648 : Int32), .int a1]) cal_J6_numberOfLeadingZeros_0f7a4 sta_J6_numberOfLeadingZeros_0f7a4 ml_J6_51 rfl (by decide) rfl (Nat.le_of_ble_eq_true rfl) dJ6_highestOneBit_0f7a4_4 (fun r h => co_J6_numberOfLeadingZeros_0f7a4 h) (fun r1 => ?_)
  refine mv_iushr dJ6_highestOneBit_0f7a4_7 ?_
  refine mv_iand dJ6_highestOneBit_0f7a4_8 ?_
  exact mv_iretr hQ dJ6_highestOneBit_0f7a4_9
theorem co_J6_highestOneBit_0f7a4 {l : Launch} {G : mt_G} {fu : Nat} {σ : mt_St} {a1 : Int32} {r : Int32}  (h : fJ6_highestOneBit_0f7a4 fu a1 = some r) : mt_Con l G yJ6_highestOneBit_0f7a4 cJ6_highestOneBit_0f7a4 1 (some .int) 1 [.int a1] σ (some (.int r)) σ :=
  mt_con (by decide) (Nat.le_of_ble_eq_true rfl) (fun K hl hG hQ => by subst hl; subst hG; exact fun _ => vJ6_highestOneBit_0f7a4  hQ h)
theorem dJ13_bitCount_95d88_0 : decode cJ13_bitCount_95d88 0 = .ok (.lload_n 0, 1) := by decide +kernel
theorem dJ13_bitCount_95d88_1 : decode cJ13_bitCount_95d88 1 = .ok (.lload_n 0, 1) := by decide +kernel
theorem dJ13_bitCount_95d88_2 : decode cJ13_bitCount_95d88 2 = .ok (.iconst 1, 1) := by decide +kernel
theorem dJ13_bitCount_95d88_3 : decode cJ13_bitCount_95d88 3 = .ok (.lushr, 1) := by decide +kernel
theorem dJ13_bitCount_95d88_4 : decode cJ13_bitCount_95d88 4 = .ok (.ldc2_w 314, 3) := by decide +kernel
theorem dJ13_bitCount_95d88_7 : decode cJ13_bitCount_95d88 7 = .ok (.land, 1) := by decide +kernel
theorem dJ13_bitCount_95d88_8 : decode cJ13_bitCount_95d88 8 = .ok (.lsub, 1) := by decide +kernel
theorem dJ13_bitCount_95d88_9 : decode cJ13_bitCount_95d88 9 = .ok (.lstore_n 0, 1) := by decide +kernel
theorem dJ13_bitCount_95d88_10 : decode cJ13_bitCount_95d88 10 = .ok (.lload_n 0, 1) := by decide +kernel
theorem dJ13_bitCount_95d88_11 : decode cJ13_bitCount_95d88 11 = .ok (.ldc2_w 316, 3) := by decide +kernel
theorem dJ13_bitCount_95d88_14 : decode cJ13_bitCount_95d88 14 = .ok (.land, 1) := by decide +kernel
theorem dJ13_bitCount_95d88_15 : decode cJ13_bitCount_95d88 15 = .ok (.lload_n 0, 1) := by decide +kernel
theorem dJ13_bitCount_95d88_16 : decode cJ13_bitCount_95d88 16 = .ok (.iconst 2, 1) := by decide +kernel
theorem dJ13_bitCount_95d88_17 : decode cJ13_bitCount_95d88 17 = .ok (.lushr, 1) := by decide +kernel
theorem dJ13_bitCount_95d88_18 : decode cJ13_bitCount_95d88 18 = .ok (.ldc2_w 316, 3) := by decide +kernel
theorem dJ13_bitCount_95d88_21 : decode cJ13_bitCount_95d88 21 = .ok (.land, 1) := by decide +kernel
theorem dJ13_bitCount_95d88_22 : decode cJ13_bitCount_95d88 22 = .ok (.ladd, 1) := by decide +kernel
theorem dJ13_bitCount_95d88_23 : decode cJ13_bitCount_95d88 23 = .ok (.lstore_n 0, 1) := by decide +kernel
theorem dJ13_bitCount_95d88_24 : decode cJ13_bitCount_95d88 24 = .ok (.lload_n 0, 1) := by decide +kernel
theorem dJ13_bitCount_95d88_25 : decode cJ13_bitCount_95d88 25 = .ok (.lload_n 0, 1) := by decide +kernel
theorem dJ13_bitCount_95d88_26 : decode cJ13_bitCount_95d88 26 = .ok (.iconst 4, 1) := by decide +kernel
theorem dJ13_bitCount_95d88_27 : decode cJ13_bitCount_95d88 27 = .ok (.lushr, 1) := by decide +kernel
theorem dJ13_bitCount_95d88_28 : decode cJ13_bitCount_95d88 28 = .ok (.ladd, 1) := by decide +kernel
theorem dJ13_bitCount_95d88_29 : decode cJ13_bitCount_95d88 29 = .ok (.ldc2_w 318, 3) := by decide +kernel
theorem dJ13_bitCount_95d88_32 : decode cJ13_bitCount_95d88 32 = .ok (.land, 1) := by decide +kernel
theorem dJ13_bitCount_95d88_33 : decode cJ13_bitCount_95d88 33 = .ok (.lstore_n 0, 1) := by decide +kernel
theorem dJ13_bitCount_95d88_34 : decode cJ13_bitCount_95d88 34 = .ok (.lload_n 0, 1) := by decide +kernel
theorem dJ13_bitCount_95d88_35 : decode cJ13_bitCount_95d88 35 = .ok (.lload_n 0, 1) := by decide +kernel
theorem dJ13_bitCount_95d88_36 : decode cJ13_bitCount_95d88 36 = .ok (.bipush 8, 2) := by decide +kernel
theorem dJ13_bitCount_95d88_38 : decode cJ13_bitCount_95d88 38 = .ok (.lushr, 1) := by decide +kernel
theorem dJ13_bitCount_95d88_39 : decode cJ13_bitCount_95d88 39 = .ok (.ladd, 1) := by decide +kernel
theorem dJ13_bitCount_95d88_40 : decode cJ13_bitCount_95d88 40 = .ok (.lstore_n 0, 1) := by decide +kernel
theorem dJ13_bitCount_95d88_41 : decode cJ13_bitCount_95d88 41 = .ok (.lload_n 0, 1) := by decide +kernel
theorem dJ13_bitCount_95d88_42 : decode cJ13_bitCount_95d88 42 = .ok (.lload_n 0, 1) := by decide +kernel
theorem dJ13_bitCount_95d88_43 : decode cJ13_bitCount_95d88 43 = .ok (.bipush 16, 2) := by decide +kernel
theorem dJ13_bitCount_95d88_45 : decode cJ13_bitCount_95d88 45 = .ok (.lushr, 1) := by decide +kernel
theorem dJ13_bitCount_95d88_46 : decode cJ13_bitCount_95d88 46 = .ok (.ladd, 1) := by decide +kernel
theorem dJ13_bitCount_95d88_47 : decode cJ13_bitCount_95d88 47 = .ok (.lstore_n 0, 1) := by decide +kernel
theorem dJ13_bitCount_95d88_48 : decode cJ13_bitCount_95d88 48 = .ok (.lload_n 0, 1) := by decide +kernel
theorem dJ13_bitCount_95d88_49 : decode cJ13_bitCount_95d88 49 = .ok (.lload_n 0, 1) := by decide +kernel
theorem dJ13_bitCount_95d88_50 : decode cJ13_bitCount_95d88 50 = .ok (.bipush 32, 2) := by decide +kernel
theorem dJ13_bitCount_95d88_52 : decode cJ13_bitCount_95d88 52 = .ok (.lushr, 1) := by decide +kernel
theorem dJ13_bitCount_95d88_53 : decode cJ13_bitCount_95d88 53 = .ok (.ladd, 1) := by decide +kernel
theorem dJ13_bitCount_95d88_54 : decode cJ13_bitCount_95d88 54 = .ok (.lstore_n 0, 1) := by decide +kernel
theorem dJ13_bitCount_95d88_55 : decode cJ13_bitCount_95d88 55 = .ok (.lload_n 0, 1) := by decide +kernel
theorem dJ13_bitCount_95d88_56 : decode cJ13_bitCount_95d88 56 = .ok (.l2i, 1) := by decide +kernel
theorem dJ13_bitCount_95d88_57 : decode cJ13_bitCount_95d88 57 = .ok (.bipush 127, 2) := by decide +kernel
theorem dJ13_bitCount_95d88_59 : decode cJ13_bitCount_95d88 59 = .ok (.iand, 1) := by decide +kernel
theorem dJ13_bitCount_95d88_60 : decode cJ13_bitCount_95d88 60 = .ok (.ireturn, 1) := by decide +kernel
def fJ13_bitCount_95d88 (fu : Nat) (a1 : Int64) : Option Int32 :=
  some ((Int64.toInt32 ((((((((a1 - (((Int64.toUInt64 a1 >>> ((Int32.toInt64 (1 : Int32)).toUInt64 &&& Int64.toUInt64 63)).toInt64) &&& (6148914691236517205 : Int64))) &&& (3689348814741910323 : Int64)) + (((Int64.toUInt64 (a1 - (((Int64.toUInt64 a1 >>> ((Int32.toInt64 (1 : Int32)).toUInt64 &&& Int64.toUInt64 63)).toInt64) &&& (6148914691236517205 : Int64))) >>> ((Int32.toInt64 (2 : Int32)).toUInt64 &&& Int64.toUInt64 63)).toInt64) &&& (3689348814741910323 : Int64))) + ((Int64.toUInt64 (((a1 - (((Int64.toUInt64 a1 >>> ((Int32.toInt64 (1 : Int32)).toUInt64 &&& Int64.toUInt64 63)).toInt64) &&& (6148914691236517205 : Int64))) &&& (3689348814741910323 : Int64)) + (((Int64.toUInt64 (a1 - (((Int64.toUInt64 a1 >>> ((Int32.toInt64 (1 : Int32)).toUInt64 &&& Int64.toUInt64 63)).toInt64) &&& (6148914691236517205 : Int64))) >>> ((Int32.toInt64 (2 : Int32)).toUInt64 &&& Int64.toUInt64 63)).toInt64) &&& (3689348814741910323 : Int64))) >>> ((Int32.toInt64 (4 : Int32)).toUInt64 &&& Int64.toUInt64 63)).toInt64)) &&& (1085102592571150095 : Int64)) + ((Int64.toUInt64 (((((a1 - (((Int64.toUInt64 a1 >>> ((Int32.toInt64 (1 : Int32)).toUInt64 &&& Int64.toUInt64 63)).toInt64) &&& (6148914691236517205 : Int64))) &&& (3689348814741910323 : Int64)) + (((Int64.toUInt64 (a1 - (((Int64.toUInt64 a1 >>> ((Int32.toInt64 (1 : Int32)).toUInt64 &&& Int64.toUInt64 63)).toInt64) &&& (6148914691236517205 : Int64))) >>> ((Int32.toInt64 (2 : Int32)).toUInt64 &&& Int64.toUInt64 63)).toInt64) &&& (3689348814741910323 : Int64))) + ((Int64.toUInt64 (((a1 - (((Int64.toUInt64 a1 >>> ((Int32.toInt64 (1 : Int32)).toUInt64 &&& Int64.toUInt64 63)).toInt64) &&& (6148914691236517205 : Int64))) &&& (3689348814741910323 : Int64)) + (((Int64.toUInt64 (a1 - (((Int64.toUInt64 a1 >>> ((Int32.toInt64 (1 : Int32)).toUInt64 &&& Int64.toUInt64 63)).toInt64) &&& (6148914691236517205 : Int64))) >>> ((Int32.toInt64 (2 : Int32)).toUInt64 &&& Int64.toUInt64 63)).toInt64) &&& (3689348814741910323 : Int64))) >>> ((Int32.toInt64 (4 : Int32)).toUInt64 &&& Int64.toUInt64 63)).toInt64)) &&& (1085102592571150095 : Int64)) >>> ((Int32.toInt64 (8 : Int32)).toUInt64 &&& Int64.toUInt64 63)).toInt64)) + ((Int64.toUInt64 ((((((a1 - (((Int64.toUInt64 a1 >>> ((Int32.toInt64 (1 : Int32)).toUInt64 &&& Int64.toUInt64 63)).toInt64) &&& (6148914691236517205 : Int64))) &&& (3689348814741910323 : Int64)) + (((Int64.toUInt64 (a1 - (((Int64.toUInt64 a1 >>> ((Int32.toInt64 (1 : Int32)).toUInt64 &&& Int64.toUInt64 63)).toInt64) &&& (6148914691236517205 : Int64))) >>> ((Int32.toInt64 (2 : Int32)).toUInt64 &&& Int64.toUInt64 63)).toInt64) &&& (3689348814741910323 : Int64))) + ((Int64.toUInt64 (((a1 - (((Int64.toUInt64 a1 >>> ((Int32.toInt64 (1 : Int32)).toUInt64 &&& Int64.toUInt64 63)).toInt64) &&& (6148914691236517205 : Int64))) &&& (3689348814741910323 : Int64)) + (((Int64.toUInt64 (a1 - (((Int64.toUInt64 a1 >>> ((Int32.toInt64 (1 : Int32)).toUInt64 &&& Int64.toUInt64 63)).toInt64) &&& (6148914691236517205 : Int64))) >>> ((Int32.toInt64 (2 : Int32)).toUInt64 &&& Int64.toUInt64 63)).toInt64) &&& (3689348814741910323 : Int64))) >>> ((Int32.toInt64 (4 : Int32)).toUInt64 &&& Int64.toUInt64 63)).toInt64)) &&& (1085102592571150095 : Int64)) + ((Int64.toUInt64 (((((a1 - (((Int64.toUInt64 a1 >>> ((Int32.toInt64 (1 : Int32)).toUInt64 &&& Int64.toUInt64 63)).toInt64) &&& (6148914691236517205 : Int64))) &&& (3689348814741910323 : Int64)) + (((Int64.toUInt64 (a1 - (((Int64.toUInt64 a1 >>> ((Int32.toInt64 (1 : Int32)).toUInt64 &&& Int64.toUInt64 63)).toInt64) &&& (6148914691236517205 : Int64))) >>> ((Int32.toInt64 (2 : Int32)).toUInt64 &&& Int64.toUInt64 63)).toInt64) &&& (3689348814741910323 : Int64))) + ((Int64.toUInt64 (((a1 - (((Int64.toUInt64 a1 >>> ((Int32.toInt64 (1 : Int32)).toUInt64 &&& Int64.toUInt64 63)).toInt64) &&& (6148914691236517205 : Int64))) &&& (3689348814741910323 : Int64)) + (((Int64.toUInt64 (a1 - (((Int64.toUInt64 a1 >>> ((Int32.toInt64 (1 : Int32)).toUInt64 &&& Int64.toUInt64 63)).toInt64) &&& (6148914691236517205 : Int64))) >>> ((Int32.toInt64 (2 : Int32)).toUInt64 &&& Int64.toUInt64 63)).toInt64) &&& (3689348814741910323 : Int64))) >>> ((Int32.toInt64 (4 : Int32)).toUInt64 &&& Int64.toUInt64 63)).toInt64)) &&& (1085102592571150095 : Int64)) >>> ((Int32.toInt64 (8 : Int32)).toUInt64 &&& Int64.toUInt64 63)).toInt64)) >>> ((Int32.toInt64 (16 : Int32)).toUInt64 &&& Int64.toUInt64 63)).toInt64)) + ((Int64.toUInt64 (((((((a1 - (((Int64.toUInt64 a1 >>> ((Int32.toInt64 (1 : Int32)).toUInt64 &&& Int64.toUInt64 63)).toInt64) &&& (6148914691236517205 : Int64))) &&& (3689348814741910323 : Int64)) + (((Int64.toUInt64 (a1 - (((Int64.toUInt64 a1 >>> ((Int32.toInt64 (1 : Int32)).toUInt64 &&& Int64.toUInt64 63)).toInt64) &&& (6148914691236517205 : Int64))) >>> ((Int32.toInt64 (2 : Int32)).toUInt64 &&& Int64.toUInt64 63)).toInt64) &&& (3689348814741910323 : Int64))) + ((Int64.toUInt64 (((a1 - (((Int64.toUInt64 a1 >>> ((Int32.toInt64 (1 : Int32)).toUInt64 &&& Int64.toUInt64 63)).toInt64) &&& (6148914691236517205 : Int64))) &&& (3689348814741910323 : Int64)) + (((Int64.toUInt64 (a1 - (((Int64.toUInt64 a1 >>> ((Int32.toInt64 (1 : Int32)).toUInt64 &&& Int64.toUInt64 63)).toInt64) &&& (6148914691236517205 : Int64))) >>> ((Int32.toInt64 (2 : Int32)).toUInt64 &&& Int64.toUInt64 63)).toInt64) &&& (3689348814741910323 : Int64))) >>> ((Int32.toInt64 (4 : Int32)).toUInt64 &&& Int64.toUInt64 63)).toInt64)) &&& (1085102592571150095 : Int64)) + ((Int64.toUInt64 (((((a1 - (((Int64.toUInt64 a1 >>> ((Int32.toInt64 (1 : Int32)).toUInt64 &&& Int64.toUInt64 63)).toInt64) &&& (6148914691236517205 : Int64))) &&& (3689348814741910323 : Int64)) + (((Int64.toUInt64 (a1 - (((Int64.toUInt64 a1 >>> ((Int32.toInt64 (1 : Int32)).toUInt64 &&& Int64.toUInt64 63)).toInt64) &&& (6148914691236517205 : Int64))) >>> ((Int32.toInt64 (2 : Int32)).toUInt64 &&& Int64.toUInt64 63)).toInt64) &&& (3689348814741910323 : Int64))) + ((Int64.toUInt64 (((a1 - (((Int64.toUInt64 a1 >>> ((Int32.toInt64 (1 : Int32)).toUInt64 &&& Int64.toUInt64 63)).toInt64) &&& (6148914691236517205 : Int64))) &&& (3689348814741910323 : Int64)) + (((Int64.toUInt64 (a1 - (((Int64.toUInt64 a1 >>> ((Int32.toInt64 (1 : Int32)).toUInt64 &&& Int64.toUInt64 63)).toInt64) &&& (6148914691236517205 : Int64))) >>> ((Int32.toInt64 (2 : Int32)).toUInt64 &&& Int64.toUInt64 63)).toInt64) &&& (3689348814741910323 : Int64))) >>> ((Int32.toInt64 (4 : Int32)).toUInt64 &&& Int64.toUInt64 63)).toInt64)) &&& (1085102592571150095 : Int64)) >>> ((Int32.toInt64 (8 : Int32)).toUInt64 &&& Int64.toUInt64 63)).toInt64)) + ((Int64.toUInt64 ((((((a1 - (((Int64.toUInt64 a1 >>> ((Int32.toInt64 (1 : Int32)).toUInt64 &&& Int64.toUInt64 63)).toInt64) &&& (6148914691236517205 : Int64))) &&& (3689348814741910323 : Int64)) + (((Int64.toUInt64 (a1 - (((Int64.toUInt64 a1 >>> ((Int32.toInt64 (1 : Int32)).toUInt64 &&& Int64.toUInt64 63)).toInt64) &&& (6148914691236517205 : Int64))) >>> ((Int32.toInt64 (2 : Int32)).toUInt64 &&& Int64.toUInt64 63)).toInt64) &&& (3689348814741910323 : Int64))) + ((Int64.toUInt64 (((a1 - (((Int64.toUInt64 a1 >>> ((Int32.toInt64 (1 : Int32)).toUInt64 &&& Int64.toUInt64 63)).toInt64) &&& (6148914691236517205 : Int64))) &&& (3689348814741910323 : Int64)) + (((Int64.toUInt64 (a1 - (((Int64.toUInt64 a1 >>> ((Int32.toInt64 (1 : Int32)).toUInt64 &&& Int64.toUInt64 63)).toInt64) &&& (6148914691236517205 : Int64))) >>> ((Int32.toInt64 (2 : Int32)).toUInt64 &&& Int64.toUInt64 63)).toInt64) &&& (3689348814741910323 : Int64))) >>> ((Int32.toInt64 (4 : Int32)).toUInt64 &&& Int64.toUInt64 63)).toInt64)) &&& (1085102592571150095 : Int64)) + ((Int64.toUInt64 (((((a1 - (((Int64.toUInt64 a1 >>> ((Int32.toInt64 (1 : Int32)).toUInt64 &&& Int64.toUInt64 63)).toInt64) &&& (6148914691236517205 : Int64))) &&& (3689348814741910323 : Int64)) + (((Int64.toUInt64 (a1 - (((Int64.toUInt64 a1 >>> ((Int32.toInt64 (1 : Int32)).toUInt64 &&& Int64.toUInt64 63)).toInt64) &&& (6148914691236517205 : Int64))) >>> ((Int32.toInt64 (2 : Int32)).toUInt64 &&& Int64.toUInt64 63)).toInt64) &&& (3689348814741910323 : Int64))) + ((Int64.toUInt64 (((a1 - (((Int64.toUInt64 a1 >>> ((Int32.toInt64 (1 : Int32)).toUInt64 &&& Int64.toUInt64 63)).toInt64) &&& (6148914691236517205 : Int64))) &&& (3689348814741910323 : Int64)) + (((Int64.toUInt64 (a1 - (((Int64.toUInt64 a1 >>> ((Int32.toInt64 (1 : Int32)).toUInt64 &&& Int64.toUInt64 63)).toInt64) &&& (6148914691236517205 : Int64))) >>> ((Int32.toInt64 (2 : Int32)).toUInt64 &&& Int64.toUInt64 63)).toInt64) &&& (3689348814741910323 : Int64))) >>> ((Int32.toInt64 (4 : Int32)).toUInt64 &&& Int64.toUInt64 63)).toInt64)) &&& (1085102592571150095 : Int64)) >>> ((Int32.toInt64 (8 : Int32)).toUInt64 &&& Int64.toUInt64 63)).toInt64)) >>> ((Int32.toInt64 (16 : Int32)).toUInt64 &&& Int64.toUInt64 63)).toInt64)) >>> ((Int32.toInt64 (32 : Int32)).toUInt64 &&& Int64.toUInt64 63)).toInt64))) &&& (127 : Int32))
set_option maxHeartbeats 4000000 in
set_option maxRecDepth 20000 in
theorem vJ13_bitCount_95d88 {K : mt_C} {fu : Nat} {σ : mt_St} {a1 : Int64} {r : Int32} (hQ : mt_R K (some .int) (some (.int r)) σ) : mt_V K cJ13_bitCount_95d88 RJ13 2 0 σ 0 [(0, .long a1)] [] (fJ13_bitCount_95d88 fu a1 = some r) := by
  unfold fJ13_bitCount_95d88
  refine mv_lload_n 0 dJ13_bitCount_95d88_0 rfl rfl ?_
  refine mv_lload_n 0 dJ13_bitCount_95d88_1 rfl rfl ?_
  refine mv_iconst (v := 1) dJ13_bitCount_95d88_2 ic_1 ?_
  refine mv_lushr dJ13_bitCount_95d88_3 ?_
  refine mv_ldc2 kc_J13_314 dJ13_bitCount_95d88_4 ?_
  refine mv_land dJ13_bitCount_95d88_7 ?_
  refine mv_lsub dJ13_bitCount_95d88_8 ?_
  refine mv_lstore_n (lv' := [(0, .long (a1 - (((Int64.toUInt64 a1 >>> ((Int32.toInt64 (1 : Int32)).toUInt64 &&& Int64.toUInt64 63)).toInt64) &&& (6148914691236517205 : Int64))))]) [0] dJ13_bitCount_95d88_9 rfl (by decide) rfl ?_
  refine mv_lload_n 0 dJ13_bitCount_95d88_10 rfl rfl ?_
  refine mv_ldc2 kc_J13_316 dJ13_bitCount_95d88_11 ?_
  refine mv_land dJ13_bitCount_95d88_14 ?_
  refine mv_lload_n 0 dJ13_bitCount_95d88_15 rfl rfl ?_
  refine mv_iconst (v := 2) dJ13_bitCount_95d88_16 ic_2 ?_
  refine mv_lushr dJ13_bitCount_95d88_17 ?_
  refine mv_ldc2 kc_J13_316 dJ13_bitCount_95d88_18 ?_
  refine mv_land dJ13_bitCount_95d88_21 ?_
  refine mv_ladd dJ13_bitCount_95d88_22 ?_
  refine mv_lstore_n (lv' := [(0, .long (((a1 - (((Int64.toUInt64 a1 >>> ((Int32.toInt64 (1 : Int32)).toUInt64 &&& Int64.toUInt64 63)).toInt64) &&& (6148914691236517205 : Int64))) &&& (3689348814741910323 : Int64)) + (((Int64.toUInt64 (a1 - (((Int64.toUInt64 a1 >>> ((Int32.toInt64 (1 : Int32)).toUInt64 &&& Int64.toUInt64 63)).toInt64) &&& (6148914691236517205 : Int64))) >>> ((Int32.toInt64 (2 : Int32)).toUInt64 &&& Int64.toUInt64 63)).toInt64) &&& (3689348814741910323 : Int64))))]) [0] dJ13_bitCount_95d88_23 rfl (by decide) rfl ?_
  refine mv_lload_n 0 dJ13_bitCount_95d88_24 rfl rfl ?_
  refine mv_lload_n 0 dJ13_bitCount_95d88_25 rfl rfl ?_
  refine mv_iconst (v := 4) dJ13_bitCount_95d88_26 ic_4 ?_
  refine mv_lushr dJ13_bitCount_95d88_27 ?_
  refine mv_ladd dJ13_bitCount_95d88_28 ?_
  refine mv_ldc2 kc_J13_318 dJ13_bitCount_95d88_29 ?_
  refine mv_land dJ13_bitCount_95d88_32 ?_
  refine mv_lstore_n (lv' := [(0, .long (((((a1 - (((Int64.toUInt64 a1 >>> ((Int32.toInt64 (1 : Int32)).toUInt64 &&& Int64.toUInt64 63)).toInt64) &&& (6148914691236517205 : Int64))) &&& (3689348814741910323 : Int64)) + (((Int64.toUInt64 (a1 - (((Int64.toUInt64 a1 >>> ((Int32.toInt64 (1 : Int32)).toUInt64 &&& Int64.toUInt64 63)).toInt64) &&& (6148914691236517205 : Int64))) >>> ((Int32.toInt64 (2 : Int32)).toUInt64 &&& Int64.toUInt64 63)).toInt64) &&& (3689348814741910323 : Int64))) + ((Int64.toUInt64 (((a1 - (((Int64.toUInt64 a1 >>> ((Int32.toInt64 (1 : Int32)).toUInt64 &&& Int64.toUInt64 63)).toInt64) &&& (6148914691236517205 : Int64))) &&& (3689348814741910323 : Int64)) + (((Int64.toUInt64 (a1 - (((Int64.toUInt64 a1 >>> ((Int32.toInt64 (1 : Int32)).toUInt64 &&& Int64.toUInt64 63)).toInt64) &&& (6148914691236517205 : Int64))) >>> ((Int32.toInt64 (2 : Int32)).toUInt64 &&& Int64.toUInt64 63)).toInt64) &&& (3689348814741910323 : Int64))) >>> ((Int32.toInt64 (4 : Int32)).toUInt64 &&& Int64.toUInt64 63)).toInt64)) &&& (1085102592571150095 : Int64)))]) [0] dJ13_bitCount_95d88_33 rfl (by decide) rfl ?_
  refine mv_lload_n 0 dJ13_bitCount_95d88_34 rfl rfl ?_
  refine mv_lload_n 0 dJ13_bitCount_95d88_35 rfl rfl ?_
  refine mv_bipush (v := 8) dJ13_bitCount_95d88_36 bp_8 ?_
  refine mv_lushr dJ13_bitCount_95d88_38 ?_
  refine mv_ladd dJ13_bitCount_95d88_39 ?_
  refine mv_lstore_n (lv' := [(0, .long ((((((a1 - (((Int64.toUInt64 a1 >>> ((Int32.toInt64 (1 : Int32)).toUInt64 &&& Int64.toUInt64 63)).toInt64) &&& (6148914691236517205 : Int64))) &&& (3689348814741910323 : Int64)) + (((Int64.toUInt64 (a1 - (((Int64.toUInt64 a1 >>> ((Int32.toInt64 (1 : Int32)).toUInt64 &&& Int64.toUInt64 63)).toInt64) &&& (6148914691236517205 : Int64))) >>> ((Int32.toInt64 (2 : Int32)).toUInt64 &&& Int64.toUInt64 63)).toInt64) &&& (3689348814741910323 : Int64))) + ((Int64.toUInt64 (((a1 - (((Int64.toUInt64 a1 >>> ((Int32.toInt64 (1 : Int32)).toUInt64 &&& Int64.toUInt64 63)).toInt64) &&& (6148914691236517205 : Int64))) &&& (3689348814741910323 : Int64)) + (((Int64.toUInt64 (a1 - (((Int64.toUInt64 a1 >>> ((Int32.toInt64 (1 : Int32)).toUInt64 &&& Int64.toUInt64 63)).toInt64) &&& (6148914691236517205 : Int64))) >>> ((Int32.toInt64 (2 : Int32)).toUInt64 &&& Int64.toUInt64 63)).toInt64) &&& (3689348814741910323 : Int64))) >>> ((Int32.toInt64 (4 : Int32)).toUInt64 &&& Int64.toUInt64 63)).toInt64)) &&& (1085102592571150095 : Int64)) + ((Int64.toUInt64 (((((a1 - (((Int64.toUInt64 a1 >>> ((Int32.toInt64 (1 : Int32)).toUInt64 &&& Int64.toUInt64 63)).toInt64) &&& (6148914691236517205 : Int64))) &&& (3689348814741910323 : Int64)) + (((Int64.toUInt64 (a1 - (((Int64.toUInt64 a1 >>> ((Int32.toInt64 (1 : Int32)).toUInt64 &&& Int64.toUInt64 63)).toInt64) &&& (6148914691236517205 : Int64))) >>> ((Int32.toInt64 (2 : Int32)).toUInt64 &&& Int64.toUInt64 63)).toInt64) &&& (3689348814741910323 : Int64))) + ((Int64.toUInt64 (((a1 - (((Int64.toUInt64 a1 >>> ((Int32.toInt64 (1 : Int32)).toUInt64 &&& Int64.toUInt64 63)).toInt64) &&& (6148914691236517205 : Int64))) &&& (3689348814741910323 : Int64)) + (((Int64.toUInt64 (a1 - (((Int64.toUInt64 a1 >>> ((Int32.toInt64 (1 : Int32)).toUInt64 &&& Int64.toUInt64 63)).toInt64) &&& (6148914691236517205 : Int64))) >>> ((Int32.toInt64 (2 : Int32)).toUInt64 &&& Int64.toUInt64 63)).toInt64) &&& (3689348814741910323 : Int64))) >>> ((Int32.toInt64 (4 : Int32)).toUInt64 &&& Int64.toUInt64 63)).toInt64)) &&& (1085102592571150095 : Int64)) >>> ((Int32.toInt64 (8 : Int32)).toUInt64 &&& Int64.toUInt64 63)).toInt64)))]) [0] dJ13_bitCount_95d88_40 rfl (by decide) rfl ?_
  refine mv_lload_n 0 dJ13_bitCount_95d88_41 rfl rfl ?_
  refine mv_lload_n 0 dJ13_bitCount_95d88_42 rfl rfl ?_
  refine mv_bipush (v := 16) dJ13_bitCount_95d88_43 bp_16 ?_
  refine mv_lushr dJ13_bitCount_95d88_45 ?_
  refine mv_ladd dJ13_bitCount_95d88_46 ?_
  refine mv_lstore_n (lv' := [(0, .long (((((((a1 - (((Int64.toUInt64 a1 >>> ((Int32.toInt64 (1 : Int32)).toUInt64 &&& Int64.toUInt64 63)).toInt64) &&& (6148914691236517205 : Int64))) &&& (3689348814741910323 : Int64)) + (((Int64.toUInt64 (a1 - (((Int64.toUInt64 a1 >>> ((Int32.toInt64 (1 : Int32)).toUInt64 &&& Int64.toUInt64 63)).toInt64) &&& (6148914691236517205 : Int64))) >>> ((Int32.toInt64 (2 : Int32)).toUInt64 &&& Int64.toUInt64 63)).toInt64) &&& (3689348814741910323 : Int64))) + ((Int64.toUInt64 (((a1 - (((Int64.toUInt64 a1 >>> ((Int32.toInt64 (1 : Int32)).toUInt64 &&& Int64.toUInt64 63)).toInt64) &&& (6148914691236517205 : Int64))) &&& (3689348814741910323 : Int64)) + (((Int64.toUInt64 (a1 - (((Int64.toUInt64 a1 >>> ((Int32.toInt64 (1 : Int32)).toUInt64 &&& Int64.toUInt64 63)).toInt64) &&& (6148914691236517205 : Int64))) >>> ((Int32.toInt64 (2 : Int32)).toUInt64 &&& Int64.toUInt64 63)).toInt64) &&& (3689348814741910323 : Int64))) >>> ((Int32.toInt64 (4 : Int32)).toUInt64 &&& Int64.toUInt64 63)).toInt64)) &&& (1085102592571150095 : Int64)) + ((Int64.toUInt64 (((((a1 - (((Int64.toUInt64 a1 >>> ((Int32.toInt64 (1 : Int32)).toUInt64 &&& Int64.toUInt64 63)).toInt64) &&& (6148914691236517205 : Int64))) &&& (3689348814741910323 : Int64)) + (((Int64.toUInt64 (a1 - (((Int64.toUInt64 a1 >>> ((Int32.toInt64 (1 : Int32)).toUInt64 &&& Int64.toUInt64 63)).toInt64) &&& (6148914691236517205 : Int64))) >>> ((Int32.toInt64 (2 : Int32)).toUInt64 &&& Int64.toUInt64 63)).toInt64) &&& (3689348814741910323 : Int64))) + ((Int64.toUInt64 (((a1 - (((Int64.toUInt64 a1 >>> ((Int32.toInt64 (1 : Int32)).toUInt64 &&& Int64.toUInt64 63)).toInt64) &&& (6148914691236517205 : Int64))) &&& (3689348814741910323 : Int64)) + (((Int64.toUInt64 (a1 - (((Int64.toUInt64 a1 >>> ((Int32.toInt64 (1 : Int32)).toUInt64 &&& Int64.toUInt64 63)).toInt64) &&& (6148914691236517205 : Int64))) >>> ((Int32.toInt64 (2 : Int32)).toUInt64 &&& Int64.toUInt64 63)).toInt64) &&& (3689348814741910323 : Int64))) >>> ((Int32.toInt64 (4 : Int32)).toUInt64 &&& Int64.toUInt64 63)).toInt64)) &&& (1085102592571150095 : Int64)) >>> ((Int32.toInt64 (8 : Int32)).toUInt64 &&& Int64.toUInt64 63)).toInt64)) + ((Int64.toUInt64 ((((((a1 - (((Int64.toUInt64 a1 >>> ((Int32.toInt64 (1 : Int32)).toUInt64 &&& Int64.toUInt64 63)).toInt64) &&& (6148914691236517205 : Int64))) &&& (3689348814741910323 : Int64)) + (((Int64.toUInt64 (a1 - (((Int64.toUInt64 a1 >>> ((Int32.toInt64 (1 : Int32)).toUInt64 &&& Int64.toUInt64 63)).toInt64) &&& (6148914691236517205 : Int64))) >>> ((Int32.toInt64 (2 : Int32)).toUInt64 &&& Int64.toUInt64 63)).toInt64) &&& (3689348814741910323 : Int64))) + ((Int64.toUInt64 (((a1 - (((Int64.toUInt64 a1 >>> ((Int32.toInt64 (1 : Int32)).toUInt64 &&& Int64.toUInt64 63)).toInt64) &&& (6148914691236517205 : Int64))) &&& (3689348814741910323 : Int64)) + (((Int64.toUInt64 (a1 - (((Int64.toUInt64 a1 >>> ((Int32.toInt64 (1 : Int32)).toUInt64 &&& Int64.toUInt64 63)).toInt64) &&& (6148914691236517205 : Int64))) >>> ((Int32.toInt64 (2 : Int32)).toUInt64 &&& Int64.toUInt64 63)).toInt64) &&& (3689348814741910323 : Int64))) >>> ((Int32.toInt64 (4 : Int32)).toUInt64 &&& Int64.toUInt64 63)).toInt64)) &&& (1085102592571150095 : Int64)) + ((Int64.toUInt64 (((((a1 - (((Int64.toUInt64 a1 >>> ((Int32.toInt64 (1 : Int32)).toUInt64 &&& Int64.toUInt64 63)).toInt64) &&& (6148914691236517205 : Int64))) &&& (3689348814741910323 : Int64)) + (((Int64.toUInt64 (a1 - (((Int64.toUInt64 a1 >>> ((Int32.toInt64 (1 : Int32)).toUInt64 &&& Int64.toUInt64 63)).toInt64) &&& (6148914691236517205 : Int64))) >>> ((Int32.toInt64 (2 : Int32)).toUInt64 &&& Int64.toUInt64 63)).toInt64) &&& (3689348814741910323 : Int64))) + ((Int64.toUInt64 (((a1 - (((Int64.toUInt64 a1 >>> ((Int32.toInt64 (1 : Int32)).toUInt64 &&& Int64.toUInt64 63)).toInt64) &&& (6148914691236517205 : Int64))) &&& (3689348814741910323 : Int64)) + (((Int64.toUInt64 (a1 - (((Int64.toUInt64 a1 >>> ((Int32.toInt64 (1 : Int32)).toUInt64 &&& Int64.toUInt64 63)).toInt64) &&& (6148914691236517205 : Int64))) >>> ((Int32.toInt64 (2 : Int32)).toUInt64 &&& Int64.toUInt64 63)).toInt64) &&& (3689348814741910323 : Int64))) >>> ((Int32.toInt64 (4 : Int32)).toUInt64 &&& Int64.toUInt64 63)).toInt64)) &&& (1085102592571150095 : Int64)) >>> ((Int32.toInt64 (8 : Int32)).toUInt64 &&& Int64.toUInt64 63)).toInt64)) >>> ((Int32.toInt64 (16 : Int32)).toUInt64 &&& Int64.toUInt64 63)).toInt64)))]) [0] dJ13_bitCount_95d88_47 rfl (by decide) rfl ?_
  refine mv_lload_n 0 dJ13_bitCount_95d88_48 rfl rfl ?_
  refine mv_lload_n 0 dJ13_bitCount_95d88_49 rfl rfl ?_
  refine mv_bipush (v := 32) dJ13_bitCount_95d88_50 bp_32 ?_
  refine mv_lushr dJ13_bitCount_95d88_52 ?_
  refine mv_ladd dJ13_bitCount_95d88_53 ?_
  refine mv_lstore_n (lv' := [(0, .long ((((((((a1 - (((Int64.toUInt64 a1 >>> ((Int32.toInt64 (1 : Int32)).toUInt64 &&& Int64.toUInt64 63)).toInt64) &&& (6148914691236517205 : Int64))) &&& (3689348814741910323 : Int64)) + (((Int64.toUInt64 (a1 - (((Int64.toUInt64 a1 >>> ((Int32.toInt64 (1 : Int32)).toUInt64 &&& Int64.toUInt64 63)).toInt64) &&& (6148914691236517205 : Int64))) >>> ((Int32.toInt64 (2 : Int32)).toUInt64 &&& Int64.toUInt64 63)).toInt64) &&& (3689348814741910323 : Int64))) + ((Int64.toUInt64 (((a1 - (((Int64.toUInt64 a1 >>> ((Int32.toInt64 (1 : Int32)).toUInt64 &&& Int64.toUInt64 63)).toInt64) &&& (6148914691236517205 : Int64))) &&& (3689348814741910323 : Int64)) + (((Int64.toUInt64 (a1 - (((Int64.toUInt64 a1 >>> ((Int32.toInt64 (1 : Int32)).toUInt64 &&& Int64.toUInt64 63)).toInt64) &&& (6148914691236517205 : Int64))) >>> ((Int32.toInt64 (2 : Int32)).toUInt64 &&& Int64.toUInt64 63)).toInt64) &&& (3689348814741910323 : Int64))) >>> ((Int32.toInt64 (4 : Int32)).toUInt64 &&& Int64.toUInt64 63)).toInt64)) &&& (1085102592571150095 : Int64)) + ((Int64.toUInt64 (((((a1 - (((Int64.toUInt64 a1 >>> ((Int32.toInt64 (1 : Int32)).toUInt64 &&& Int64.toUInt64 63)).toInt64) &&& (6148914691236517205 : Int64))) &&& (3689348814741910323 : Int64)) + (((Int64.toUInt64 (a1 - (((Int64.toUInt64 a1 >>> ((Int32.toInt64 (1 : Int32)).toUInt64 &&& Int64.toUInt64 63)).toInt64) &&& (6148914691236517205 : Int64))) >>> ((Int32.toInt64 (2 : Int32)).toUInt64 &&& Int64.toUInt64 63)).toInt64) &&& (3689348814741910323 : Int64))) + ((Int64.toUInt64 (((a1 - (((Int64.toUInt64 a1 >>> ((Int32.toInt64 (1 : Int32)).toUInt64 &&& Int64.toUInt64 63)).toInt64) &&& (6148914691236517205 : Int64))) &&& (3689348814741910323 : Int64)) + (((Int64.toUInt64 (a1 - (((Int64.toUInt64 a1 >>> ((Int32.toInt64 (1 : Int32)).toUInt64 &&& Int64.toUInt64 63)).toInt64) &&& (6148914691236517205 : Int64))) >>> ((Int32.toInt64 (2 : Int32)).toUInt64 &&& Int64.toUInt64 63)).toInt64) &&& (3689348814741910323 : Int64))) >>> ((Int32.toInt64 (4 : Int32)).toUInt64 &&& Int64.toUInt64 63)).toInt64)) &&& (1085102592571150095 : Int64)) >>> ((Int32.toInt64 (8 : Int32)).toUInt64 &&& Int64.toUInt64 63)).toInt64)) + ((Int64.toUInt64 ((((((a1 - (((Int64.toUInt64 a1 >>> ((Int32.toInt64 (1 : Int32)).toUInt64 &&& Int64.toUInt64 63)).toInt64) &&& (6148914691236517205 : Int64))) &&& (3689348814741910323 : Int64)) + (((Int64.toUInt64 (a1 - (((Int64.toUInt64 a1 >>> ((Int32.toInt64 (1 : Int32)).toUInt64 &&& Int64.toUInt64 63)).toInt64) &&& (6148914691236517205 : Int64))) >>> ((Int32.toInt64 (2 : Int32)).toUInt64 &&& Int64.toUInt64 63)).toInt64) &&& (3689348814741910323 : Int64))) + ((Int64.toUInt64 (((a1 - (((Int64.toUInt64 a1 >>> ((Int32.toInt64 (1 : Int32)).toUInt64 &&& Int64.toUInt64 63)).toInt64) &&& (6148914691236517205 : Int64))) &&& (3689348814741910323 : Int64)) + (((Int64.toUInt64 (a1 - (((Int64.toUInt64 a1 >>> ((Int32.toInt64 (1 : Int32)).toUInt64 &&& Int64.toUInt64 63)).toInt64) &&& (6148914691236517205 : Int64))) >>> ((Int32.toInt64 (2 : Int32)).toUInt64 &&& Int64.toUInt64 63)).toInt64) &&& (3689348814741910323 : Int64))) >>> ((Int32.toInt64 (4 : Int32)).toUInt64 &&& Int64.toUInt64 63)).toInt64)) &&& (1085102592571150095 : Int64)) + ((Int64.toUInt64 (((((a1 - (((Int64.toUInt64 a1 >>> ((Int32.toInt64 (1 : Int32)).toUInt64 &&& Int64.toUInt64 63)).toInt64) &&& (6148914691236517205 : Int64))) &&& (3689348814741910323 : Int64)) + (((Int64.toUInt64 (a1 - (((Int64.toUInt64 a1 >>> ((Int32.toInt64 (1 : Int32)).toUInt64 &&& Int64.toUInt64 63)).toInt64) &&& (6148914691236517205 : Int64))) >>> ((Int32.toInt64 (2 : Int32)).toUInt64 &&& Int64.toUInt64 63)).toInt64) &&& (3689348814741910323 : Int64))) + ((Int64.toUInt64 (((a1 - (((Int64.toUInt64 a1 >>> ((Int32.toInt64 (1 : Int32)).toUInt64 &&& Int64.toUInt64 63)).toInt64) &&& (6148914691236517205 : Int64))) &&& (3689348814741910323 : Int64)) + (((Int64.toUInt64 (a1 - (((Int64.toUInt64 a1 >>> ((Int32.toInt64 (1 : Int32)).toUInt64 &&& Int64.toUInt64 63)).toInt64) &&& (6148914691236517205 : Int64))) >>> ((Int32.toInt64 (2 : Int32)).toUInt64 &&& Int64.toUInt64 63)).toInt64) &&& (3689348814741910323 : Int64))) >>> ((Int32.toInt64 (4 : Int32)).toUInt64 &&& Int64.toUInt64 63)).toInt64)) &&& (1085102592571150095 : Int64)) >>> ((Int32.toInt64 (8 : Int32)).toUInt64 &&& Int64.toUInt64 63)).toInt64)) >>> ((Int32.toInt64 (16 : Int32)).toUInt64 &&& Int64.toUInt64 63)).toInt64)) + ((Int64.toUInt64 (((((((a1 - (((Int64.toUInt64 a1 >>> ((Int32.toInt64 (1 : Int32)).toUInt64 &&& Int64.toUInt64 63)).toInt64) &&& (6148914691236517205 : Int64))) &&& (3689348814741910323 : Int64)) + (((Int64.toUInt64 (a1 - (((Int64.toUInt64 a1 >>> ((Int32.toInt64 (1 : Int32)).toUInt64 &&& Int64.toUInt64 63)).toInt64) &&& (6148914691236517205 : Int64))) >>> ((Int32.toInt64 (2 : Int32)).toUInt64 &&& Int64.toUInt64 63)).toInt64) &&& (3689348814741910323 : Int64))) + ((Int64.toUInt64 (((a1 - (((Int64.toUInt64 a1 >>> ((Int32.toInt64 (1 : Int32)).toUInt64 &&& Int64.toUInt64 63)).toInt64) &&& (6148914691236517205 : Int64))) &&& (3689348814741910323 : Int64)) + (((Int64.toUInt64 (a1 - (((Int64.toUInt64 a1 >>> ((Int32.toInt64 (1 : Int32)).toUInt64 &&& Int64.toUInt64 63)).toInt64) &&& (6148914691236517205 : Int64))) >>> ((Int32.toInt64 (2 : Int32)).toUInt64 &&& Int64.toUInt64 63)).toInt64) &&& (3689348814741910323 : Int64))) >>> ((Int32.toInt64 (4 : Int32)).toUInt64 &&& Int64.toUInt64 63)).toInt64)) &&& (1085102592571150095 : Int64)) + ((Int64.toUInt64 (((((a1 - (((Int64.toUInt64 a1 >>> ((Int32.toInt64 (1 : Int32)).toUInt64 &&& Int64.toUInt64 63)).toInt64) &&& (6148914691236517205 : Int64))) &&& (3689348814741910323 : Int64)) + (((Int64.toUInt64 (a1 - (((Int64.toUInt64 a1 >>> ((Int32.toInt64 (1 : Int32)).toUInt64 &&& Int64.toUInt64 63)).toInt64) &&& (6148914691236517205 : Int64))) >>> ((Int32.toInt64 (2 : Int32)).toUInt64 &&& Int64.toUInt64 63)).toInt64) &&& (3689348814741910323 : Int64))) + ((Int64.toUInt64 (((a1 - (((Int64.toUInt64 a1 >>> ((Int32.toInt64 (1 : Int32)).toUInt64 &&& Int64.toUInt64 63)).toInt64) &&& (6148914691236517205 : Int64))) &&& (3689348814741910323 : Int64)) + (((Int64.toUInt64 (a1 - (((Int64.toUInt64 a1 >>> ((Int32.toInt64 (1 : Int32)).toUInt64 &&& Int64.toUInt64 63)).toInt64) &&& (6148914691236517205 : Int64))) >>> ((Int32.toInt64 (2 : Int32)).toUInt64 &&& Int64.toUInt64 63)).toInt64) &&& (3689348814741910323 : Int64))) >>> ((Int32.toInt64 (4 : Int32)).toUInt64 &&& Int64.toUInt64 63)).toInt64)) &&& (1085102592571150095 : Int64)) >>> ((Int32.toInt64 (8 : Int32)).toUInt64 &&& Int64.toUInt64 63)).toInt64)) + ((Int64.toUInt64 ((((((a1 - (((Int64.toUInt64 a1 >>> ((Int32.toInt64 (1 : Int32)).toUInt64 &&& Int64.toUInt64 63)).toInt64) &&& (6148914691236517205 : Int64))) &&& (3689348814741910323 : Int64)) + (((Int64.toUInt64 (a1 - (((Int64.toUInt64 a1 >>> ((Int32.toInt64 (1 : Int32)).toUInt64 &&& Int64.toUInt64 63)).toInt64) &&& (6148914691236517205 : Int64))) >>> ((Int32.toInt64 (2 : Int32)).toUInt64 &&& Int64.toUInt64 63)).toInt64) &&& (3689348814741910323 : Int64))) + ((Int64.toUInt64 (((a1 - (((Int64.toUInt64 a1 >>> ((Int32.toInt64 (1 : Int32)).toUInt64 &&& Int64.toUInt64 63)).toInt64) &&& (6148914691236517205 : Int64))) &&& (3689348814741910323 : Int64)) + (((Int64.toUInt64 (a1 - (((Int64.toUInt64 a1 >>> ((Int32.toInt64 (1 : Int32)).toUInt64 &&& Int64.toUInt64 63)).toInt64) &&& (6148914691236517205 : Int64))) >>> ((Int32.toInt64 (2 : Int32)).toUInt64 &&& Int64.toUInt64 63)).toInt64) &&& (3689348814741910323 : Int64))) >>> ((Int32.toInt64 (4 : Int32)).toUInt64 &&& Int64.toUInt64 63)).toInt64)) &&& (1085102592571150095 : Int64)) + ((Int64.toUInt64 (((((a1 - (((Int64.toUInt64 a1 >>> ((Int32.toInt64 (1 : Int32)).toUInt64 &&& Int64.toUInt64 63)).toInt64) &&& (6148914691236517205 : Int64))) &&& (3689348814741910323 : Int64)) + (((Int64.toUInt64 (a1 - (((Int64.toUInt64 a1 >>> ((Int32.toInt64 (1 : Int32)).toUInt64 &&& Int64.toUInt64 63)).toInt64) &&& (6148914691236517205 : Int64))) >>> ((Int32.toInt64 (2 : Int32)).toUInt64 &&& Int64.toUInt64 63)).toInt64) &&& (3689348814741910323 : Int64))) + ((Int64.toUInt64 (((a1 - (((Int64.toUInt64 a1 >>> ((Int32.toInt64 (1 : Int32)).toUInt64 &&& Int64.toUInt64 63)).toInt64) &&& (6148914691236517205 : Int64))) &&& (3689348814741910323 : Int64)) + (((Int64.toUInt64 (a1 - (((Int64.toUInt64 a1 >>> ((Int32.toInt64 (1 : Int32)).toUInt64 &&& Int64.toUInt64 63)).toInt64) &&& (6148914691236517205 : Int64))) >>> ((Int32.toInt64 (2 : Int32)).toUInt64 &&& Int64.toUInt64 63)).toInt64) &&& (3689348814741910323 : Int64))) >>> ((Int32.toInt64 (4 : Int32)).toUInt64 &&& Int64.toUInt64 63)).toInt64)) &&& (1085102592571150095 : Int64)) >>> ((Int32.toInt64 (8 : Int32)).toUInt64 &&& Int64.toUInt64 63)).toInt64)) >>> ((Int32.toInt64 (16 : Int32)).toUInt64 &&& Int64.toUInt64 63)).toInt64)) >>> ((Int32.toInt64 (32 : Int32)).toUInt64 &&& Int64.toUInt64 63)).toInt64)))]) [0] dJ13_bitCount_95d88_54 rfl (by decide) rfl ?_
  refine mv_lload_n 0 dJ13_bitCount_95d88_55 rfl rfl ?_
  refine mv_l2i dJ13_bitCount_95d88_56 ?_
  refine mv_bipush (v := 127) dJ13_bitCount_95d88_57 bp_127 ?_
  refine mv_iand dJ13_bitCount_95d88_59 ?_
  exact mv_iretr hQ dJ13_bitCount_95d88_60
theorem co_J13_bitCount_95d88 {l : Launch} {G : mt_G} {fu : Nat} {σ : mt_St} {a1 : Int64} {r : Int32}  (h : fJ13_bitCount_95d88 fu a1 = some r) : mt_Con l G yJ13_bitCount_95d88 cJ13_bitCount_95d88 2 (some .int) 0 [.long a1] σ (some (.int r)) σ :=
  mt_con (by decide) (Nat.le_of_ble_eq_true rfl) (fun K hl hG hQ => by subst hl; subst hG; exact fun _ => vJ13_bitCount_95d88  hQ h)
end
