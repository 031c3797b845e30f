-- ===== PART A: goes FIRST, ahead of the names: the tables' words, and 'selects' of the private methods out of them =====
/-- a private method of a class that the tables say can be made, by its rows of tables_1 -/
def lw_okq (q : MethodName × Nat) : Prop := (q.1.cls ≠ "java/lang/invoke/MethodHandle" ∧ q.1.cls ≠ "java/lang/invoke/VarHandle") ∧ Cond.instantiable q.1.cls q.2 ∈ tables_1 ∧ Cond.privateMethod q.1 ∈ tables_1 ∧ Cond.instanceMethod q.1 ∈ tables_1
theorem lw_p0 : lw_okq (⟨"WarmExtents$Reader", "append", "(I)V"⟩, 14) := ⟨⟨by decide +kernel, by decide +kernel⟩, List.mem_of_getElem? (i := 319) (by decide +kernel), List.mem_of_getElem? (i := 411) (by decide +kernel), List.mem_of_getElem? (i := 412) (by decide +kernel)⟩
theorem lw_p1 : lw_okq (⟨"WarmExtents$Reader", "parse", "()LWarmExtents$Text;"⟩, 14) := ⟨⟨by decide +kernel, by decide +kernel⟩, List.mem_of_getElem? (i := 319) (by decide +kernel), List.mem_of_getElem? (i := 423) (by decide +kernel), List.mem_of_getElem? (i := 424) (by decide +kernel)⟩
theorem lw_p2 : lw_okq (⟨"WarmExtents$Reader", "listTokens", "()V"⟩, 14) := ⟨⟨by decide +kernel, by decide +kernel⟩, List.mem_of_getElem? (i := 319) (by decide +kernel), List.mem_of_getElem? (i := 427) (by decide +kernel), List.mem_of_getElem? (i := 428) (by decide +kernel)⟩
theorem lw_p3 : lw_okq (⟨"WarmExtents$Reader", "behindLetters", "(I)I"⟩, 14) := ⟨⟨by decide +kernel, by decide +kernel⟩, List.mem_of_getElem? (i := 319) (by decide +kernel), List.mem_of_getElem? (i := 434) (by decide +kernel), List.mem_of_getElem? (i := 435) (by decide +kernel)⟩
theorem lw_p4 : lw_okq (⟨"WarmExtents$Reader", "addWord", "(II)V"⟩, 14) := ⟨⟨by decide +kernel, by decide +kernel⟩, List.mem_of_getElem? (i := 319) (by decide +kernel), List.mem_of_getElem? (i := 438) (by decide +kernel), List.mem_of_getElem? (i := 439) (by decide +kernel)⟩
theorem lw_p5 : lw_okq (⟨"WarmExtents$Reader", "addToken", "(III)V"⟩, 14) := ⟨⟨by decide +kernel, by decide +kernel⟩, List.mem_of_getElem? (i := 319) (by decide +kernel), List.mem_of_getElem? (i := 442) (by decide +kernel), List.mem_of_getElem? (i := 443) (by decide +kernel)⟩
theorem lw_p6 : lw_okq (⟨"WarmExtents$Reader", "wordKind", "(II)I"⟩, 14) := ⟨⟨by decide +kernel, by decide +kernel⟩, List.mem_of_getElem? (i := 319) (by decide +kernel), List.mem_of_getElem? (i := 446) (by decide +kernel), List.mem_of_getElem? (i := 447) (by decide +kernel)⟩
theorem lw_p7 : lw_okq (⟨"WarmExtents$Reader", "spells", "(Ljava/lang/String;II)Z"⟩, 14) := ⟨⟨by decide +kernel, by decide +kernel⟩, List.mem_of_getElem? (i := 319) (by decide +kernel), List.mem_of_getElem? (i := 451) (by decide +kernel), List.mem_of_getElem? (i := 452) (by decide +kernel)⟩
theorem lw_p8 : lw_okq (⟨"WarmExtents$Reader", "behindDigits", "(I)I"⟩, 14) := ⟨⟨by decide +kernel, by decide +kernel⟩, List.mem_of_getElem? (i := 319) (by decide +kernel), List.mem_of_getElem? (i := 512) (by decide +kernel), List.mem_of_getElem? (i := 513) (by decide +kernel)⟩
theorem lw_p9 : lw_okq (⟨"WarmExtents$Reader", "numberFrom", "(II)I"⟩, 14) := ⟨⟨by decide +kernel, by decide +kernel⟩, List.mem_of_getElem? (i := 319) (by decide +kernel), List.mem_of_getElem? (i := 516) (by decide +kernel), List.mem_of_getElem? (i := 517) (by decide +kernel)⟩
theorem lw_p10 : lw_okq (⟨"WarmExtents$Reader", "close", "()V"⟩, 14) := ⟨⟨by decide +kernel, by decide +kernel⟩, List.mem_of_getElem? (i := 319) (by decide +kernel), List.mem_of_getElem? (i := 526) (by decide +kernel), List.mem_of_getElem? (i := 527) (by decide +kernel)⟩
theorem lw_p11 : lw_okq (⟨"WarmExtents$Reader", "statement", "()V"⟩, 14) := ⟨⟨by decide +kernel, by decide +kernel⟩, List.mem_of_getElem? (i := 319) (by decide +kernel), List.mem_of_getElem? (i := 530) (by decide +kernel), List.mem_of_getElem? (i := 531) (by decide +kernel)⟩
theorem lw_p12 : lw_okq (⟨"WarmExtents$Reader", "blame", "(I)V"⟩, 14) := ⟨⟨by decide +kernel, by decide +kernel⟩, List.mem_of_getElem? (i := 319) (by decide +kernel), List.mem_of_getElem? (i := 534) (by decide +kernel), List.mem_of_getElem? (i := 535) (by decide +kernel)⟩
theorem lw_p13 : lw_okq (⟨"WarmExtents$Reader", "behindWord", "(I)V"⟩, 14) := ⟨⟨by decide +kernel, by decide +kernel⟩, List.mem_of_getElem? (i := 319) (by decide +kernel), List.mem_of_getElem? (i := 538) (by decide +kernel), List.mem_of_getElem? (i := 539) (by decide +kernel)⟩
theorem lw_p14 : lw_okq (⟨"WarmExtents$Reader", "sums", "(I)V"⟩, 14) := ⟨⟨by decide +kernel, by decide +kernel⟩, List.mem_of_getElem? (i := 319) (by decide +kernel), List.mem_of_getElem? (i := 542) (by decide +kernel), List.mem_of_getElem? (i := 543) (by decide +kernel)⟩
theorem lw_p15 : lw_okq (⟨"WarmExtents$Reader", "sum", "()V"⟩, 14) := ⟨⟨by decide +kernel, by decide +kernel⟩, List.mem_of_getElem? (i := 319) (by decide +kernel), List.mem_of_getElem? (i := 546) (by decide +kernel), List.mem_of_getElem? (i := 547) (by decide +kernel)⟩
def lw_privs_1 : List (MethodName × Nat) := [(⟨"WarmExtents$Reader", "append", "(I)V"⟩, 14), (⟨"WarmExtents$Reader", "parse", "()LWarmExtents$Text;"⟩, 14), (⟨"WarmExtents$Reader", "listTokens", "()V"⟩, 14), (⟨"WarmExtents$Reader", "behindLetters", "(I)I"⟩, 14), (⟨"WarmExtents$Reader", "addWord", "(II)V"⟩, 14), (⟨"WarmExtents$Reader", "addToken", "(III)V"⟩, 14), (⟨"WarmExtents$Reader", "wordKind", "(II)I"⟩, 14), (⟨"WarmExtents$Reader", "spells", "(Ljava/lang/String;II)Z"⟩, 14), (⟨"WarmExtents$Reader", "behindDigits", "(I)I"⟩, 14), (⟨"WarmExtents$Reader", "numberFrom", "(II)I"⟩, 14), (⟨"WarmExtents$Reader", "close", "()V"⟩, 14), (⟨"WarmExtents$Reader", "statement", "()V"⟩, 14), (⟨"WarmExtents$Reader", "blame", "(I)V"⟩, 14), (⟨"WarmExtents$Reader", "behindWord", "(I)V"⟩, 14), (⟨"WarmExtents$Reader", "sums", "(I)V"⟩, 14), (⟨"WarmExtents$Reader", "sum", "()V"⟩, 14)]
theorem lw_r1 : ∀ q ∈ lw_privs_1, lw_okq q := List.forall_mem_cons.mpr ⟨lw_p0, List.forall_mem_cons.mpr ⟨lw_p1, List.forall_mem_cons.mpr ⟨lw_p2, List.forall_mem_cons.mpr ⟨lw_p3, List.forall_mem_cons.mpr ⟨lw_p4, List.forall_mem_cons.mpr ⟨lw_p5, List.forall_mem_cons.mpr ⟨lw_p6, List.forall_mem_cons.mpr ⟨lw_p7, List.forall_mem_cons.mpr ⟨lw_p8, List.forall_mem_cons.mpr ⟨lw_p9, List.forall_mem_cons.mpr ⟨lw_p10, List.forall_mem_cons.mpr ⟨lw_p11, List.forall_mem_cons.mpr ⟨lw_p12, List.forall_mem_cons.mpr ⟨lw_p13, List.forall_mem_cons.mpr ⟨lw_p14, List.forall_mem_cons.mpr ⟨lw_p15, fun _ h => absurd h List.not_mem_nil⟩⟩⟩⟩⟩⟩⟩⟩⟩⟩⟩⟩⟩⟩⟩⟩
theorem lw_p16 : lw_okq (⟨"WarmExtents$Reader", "factor", "()V"⟩, 14) := ⟨⟨by decide +kernel, by decide +kernel⟩, List.mem_of_getElem? (i := 319) (by decide +kernel), List.mem_of_getElem? (i := 550) (by decide +kernel), List.mem_of_getElem? (i := 551) (by decide +kernel)⟩
theorem lw_p17 : lw_okq (⟨"WarmExtents$Reader", "take", "(I)V"⟩, 14) := ⟨⟨by decide +kernel, by decide +kernel⟩, List.mem_of_getElem? (i := 319) (by decide +kernel), List.mem_of_getElem? (i := 554) (by decide +kernel), List.mem_of_getElem? (i := 555) (by decide +kernel)⟩
theorem lw_p18 : lw_okq (⟨"WarmExtents$Reader", "times", "()V"⟩, 14) := ⟨⟨by decide +kernel, by decide +kernel⟩, List.mem_of_getElem? (i := 319) (by decide +kernel), List.mem_of_getElem? (i := 558) (by decide +kernel), List.mem_of_getElem? (i := 559) (by decide +kernel)⟩
theorem lw_p19 : lw_okq (⟨"WarmExtents$Reader", "open", "(Z)V"⟩, 14) := ⟨⟨by decide +kernel, by decide +kernel⟩, List.mem_of_getElem? (i := 319) (by decide +kernel), List.mem_of_getElem? (i := 562) (by decide +kernel), List.mem_of_getElem? (i := 563) (by decide +kernel)⟩
theorem lw_p20 : lw_okq (⟨"WarmExtents$History", "push", "(LWarmExtents$World;)V"⟩, 3) := ⟨⟨by decide +kernel, by decide +kernel⟩, List.mem_of_getElem? (i := 214) (by decide +kernel), List.mem_of_getElem? (i := 603) (by decide +kernel), List.mem_of_getElem? (i := 604) (by decide +kernel)⟩
theorem lw_p21 : lw_okq (⟨"WarmExtents$World", "copyFrom", "(LWarmExtents$World;)V"⟩, 6) := ⟨⟨by decide +kernel, by decide +kernel⟩, List.mem_of_getElem? (i := 32) (by decide +kernel), List.mem_of_getElem? (i := 607) (by decide +kernel), List.mem_of_getElem? (i := 608) (by decide +kernel)⟩
theorem lw_p22 : lw_okq (⟨"WarmExtents$Extents", "copyFrom", "(LWarmExtents$Extents;)V"⟩, 12) := ⟨⟨by decide +kernel, by decide +kernel⟩, List.mem_of_getElem? (i := 38) (by decide +kernel), List.mem_of_getElem? (i := 612) (by decide +kernel), List.mem_of_getElem? (i := 613) (by decide +kernel)⟩
theorem lw_p23 : lw_okq (⟨"WarmExtents$Disks", "copyFrom", "(LWarmExtents$Disks;)V"⟩, 4) := ⟨⟨by decide +kernel, by decide +kernel⟩, List.mem_of_getElem? (i := 100) (by decide +kernel), List.mem_of_getElem? (i := 617) (by decide +kernel), List.mem_of_getElem? (i := 618) (by decide +kernel)⟩
theorem lw_p24 : lw_okq (⟨"WarmExtents$Heads", "copyFrom", "(LWarmExtents$Heads;)V"⟩, 3) := ⟨⟨by decide +kernel, by decide +kernel⟩, List.mem_of_getElem? (i := 124) (by decide +kernel), List.mem_of_getElem? (i := 622) (by decide +kernel), List.mem_of_getElem? (i := 623) (by decide +kernel)⟩
theorem lw_p25 : lw_okq (⟨"WarmExtents$Moves", "copyFrom", "(LWarmExtents$Moves;)V"⟩, 5) := ⟨⟨by decide +kernel, by decide +kernel⟩, List.mem_of_getElem? (i := 141) (by decide +kernel), List.mem_of_getElem? (i := 627) (by decide +kernel), List.mem_of_getElem? (i := 628) (by decide +kernel)⟩
theorem lw_p26 : lw_okq (⟨"WarmExtents$Book", "copyFrom", "(LWarmExtents$Book;)V"⟩, 2) := ⟨⟨by decide +kernel, by decide +kernel⟩, List.mem_of_getElem? (i := 173) (by decide +kernel), List.mem_of_getElem? (i := 632) (by decide +kernel), List.mem_of_getElem? (i := 633) (by decide +kernel)⟩
theorem lw_p27 : lw_okq (⟨"WarmExtents$World", "readBlock", "(II)I"⟩, 6) := ⟨⟨by decide +kernel, by decide +kernel⟩, List.mem_of_getElem? (i := 32) (by decide +kernel), List.mem_of_getElem? (i := 637) (by decide +kernel), List.mem_of_getElem? (i := 638) (by decide +kernel)⟩
theorem lw_p28 : lw_okq (⟨"WarmExtents$World", "note", "(III)V"⟩, 6) := ⟨⟨by decide +kernel, by decide +kernel⟩, List.mem_of_getElem? (i := 32) (by decide +kernel), List.mem_of_getElem? (i := 643) (by decide +kernel), List.mem_of_getElem? (i := 644) (by decide +kernel)⟩
theorem lw_p29 : lw_okq (⟨"WarmExtents$Heads", "advance", "(I)I"⟩, 3) := ⟨⟨by decide +kernel, by decide +kernel⟩, List.mem_of_getElem? (i := 124) (by decide +kernel), List.mem_of_getElem? (i := 647) (by decide +kernel), List.mem_of_getElem? (i := 648) (by decide +kernel)⟩
theorem lw_p30 : lw_okq (⟨"WarmExtents$Extents", "warm", "(II)V"⟩, 12) := ⟨⟨by decide +kernel, by decide +kernel⟩, List.mem_of_getElem? (i := 38) (by decide +kernel), List.mem_of_getElem? (i := 651) (by decide +kernel), List.mem_of_getElem? (i := 652) (by decide +kernel)⟩
theorem lw_p31 : lw_okq (⟨"WarmExtents$Disks", "fastAt", "(I)I"⟩, 4) := ⟨⟨by decide +kernel, by decide +kernel⟩, List.mem_of_getElem? (i := 100) (by decide +kernel), List.mem_of_getElem? (i := 656) (by decide +kernel), List.mem_of_getElem? (i := 657) (by decide +kernel)⟩
def lw_privs_2 : List (MethodName × Nat) := [(⟨"WarmExtents$Reader", "factor", "()V"⟩, 14), (⟨"WarmExtents$Reader", "take", "(I)V"⟩, 14), (⟨"WarmExtents$Reader", "times", "()V"⟩, 14), (⟨"WarmExtents$Reader", "open", "(Z)V"⟩, 14), (⟨"WarmExtents$History", "push", "(LWarmExtents$World;)V"⟩, 3), (⟨"WarmExtents$World", "copyFrom", "(LWarmExtents$World;)V"⟩, 6), (⟨"WarmExtents$Extents", "copyFrom", "(LWarmExtents$Extents;)V"⟩, 12), (⟨"WarmExtents$Disks", "copyFrom", "(LWarmExtents$Disks;)V"⟩, 4), (⟨"WarmExtents$Heads", "copyFrom", "(LWarmExtents$Heads;)V"⟩, 3), (⟨"WarmExtents$Moves", "copyFrom", "(LWarmExtents$Moves;)V"⟩, 5), (⟨"WarmExtents$Book", "copyFrom", "(LWarmExtents$Book;)V"⟩, 2), (⟨"WarmExtents$World", "readBlock", "(II)I"⟩, 6), (⟨"WarmExtents$World", "note", "(III)V"⟩, 6), (⟨"WarmExtents$Heads", "advance", "(I)I"⟩, 3), (⟨"WarmExtents$Extents", "warm", "(II)V"⟩, 12), (⟨"WarmExtents$Disks", "fastAt", "(I)I"⟩, 4)]
theorem lw_r2 : ∀ q ∈ lw_privs_2, lw_okq q := List.forall_mem_cons.mpr ⟨lw_p16, List.forall_mem_cons.mpr ⟨lw_p17, List.forall_mem_cons.mpr ⟨lw_p18, List.forall_mem_cons.mpr ⟨lw_p19, List.forall_mem_cons.mpr ⟨lw_p20, List.forall_mem_cons.mpr ⟨lw_p21, List.forall_mem_cons.mpr ⟨lw_p22, List.forall_mem_cons.mpr ⟨lw_p23, List.forall_mem_cons.mpr ⟨lw_p24, List.forall_mem_cons.mpr ⟨lw_p25, List.forall_mem_cons.mpr ⟨lw_p26, List.forall_mem_cons.mpr ⟨lw_p27, List.forall_mem_cons.mpr ⟨lw_p28, List.forall_mem_cons.mpr ⟨lw_p29, List.forall_mem_cons.mpr ⟨lw_p30, List.forall_mem_cons.mpr ⟨lw_p31, fun _ h => absurd h List.not_mem_nil⟩⟩⟩⟩⟩⟩⟩⟩⟩⟩⟩⟩⟩⟩⟩⟩
theorem lw_p32 : lw_okq (⟨"WarmExtents$World", "writeBlock", "(III)V"⟩, 6) := ⟨⟨by decide +kernel, by decide +kernel⟩, List.mem_of_getElem? (i := 32) (by decide +kernel), List.mem_of_getElem? (i := 664) (by decide +kernel), List.mem_of_getElem? (i := 665) (by decide +kernel)⟩
theorem lw_p33 : lw_okq (⟨"WarmExtents$Disks", "putFast", "(II)V"⟩, 4) := ⟨⟨by decide +kernel, by decide +kernel⟩, List.mem_of_getElem? (i := 100) (by decide +kernel), List.mem_of_getElem? (i := 668) (by decide +kernel), List.mem_of_getElem? (i := 669) (by decide +kernel)⟩
theorem lw_p34 : lw_okq (⟨"WarmExtents$Moves", "find", "(I)I"⟩, 5) := ⟨⟨by decide +kernel, by decide +kernel⟩, List.mem_of_getElem? (i := 141) (by decide +kernel), List.mem_of_getElem? (i := 672) (by decide +kernel), List.mem_of_getElem? (i := 673) (by decide +kernel)⟩
theorem lw_p35 : lw_okq (⟨"WarmExtents$World", "readExtents", "(III)I"⟩, 6) := ⟨⟨by decide +kernel, by decide +kernel⟩, List.mem_of_getElem? (i := 32) (by decide +kernel), List.mem_of_getElem? (i := 680) (by decide +kernel), List.mem_of_getElem? (i := 681) (by decide +kernel)⟩
theorem lw_p36 : lw_okq (⟨"WarmExtents$World", "writeDown", "(III)V"⟩, 6) := ⟨⟨by decide +kernel, by decide +kernel⟩, List.mem_of_getElem? (i := 32) (by decide +kernel), List.mem_of_getElem? (i := 690) (by decide +kernel), List.mem_of_getElem? (i := 691) (by decide +kernel)⟩
theorem lw_p37 : lw_okq (⟨"WarmExtents$Book", "add", "(IIII)V"⟩, 2) := ⟨⟨by decide +kernel, by decide +kernel⟩, List.mem_of_getElem? (i := 173) (by decide +kernel), List.mem_of_getElem? (i := 694) (by decide +kernel), List.mem_of_getElem? (i := 695) (by decide +kernel)⟩
theorem lw_p38 : lw_okq (⟨"WarmExtents$Moves", "add", "(II)V"⟩, 5) := ⟨⟨by decide +kernel, by decide +kernel⟩, List.mem_of_getElem? (i := 141) (by decide +kernel), List.mem_of_getElem? (i := 710) (by decide +kernel), List.mem_of_getElem? (i := 711) (by decide +kernel)⟩
theorem lw_p39 : lw_okq (⟨"WarmExtents$World", "dropMove", "(I)V"⟩, 6) := ⟨⟨by decide +kernel, by decide +kernel⟩, List.mem_of_getElem? (i := 32) (by decide +kernel), List.mem_of_getElem? (i := 718) (by decide +kernel), List.mem_of_getElem? (i := 719) (by decide +kernel)⟩
theorem lw_p40 : lw_okq (⟨"WarmExtents$Moves", "holdsSlots", "(I)Z"⟩, 5) := ⟨⟨by decide +kernel, by decide +kernel⟩, List.mem_of_getElem? (i := 141) (by decide +kernel), List.mem_of_getElem? (i := 722) (by decide +kernel), List.mem_of_getElem? (i := 723) (by decide +kernel)⟩
theorem lw_p41 : lw_okq (⟨"WarmExtents$Disks", "leaveSlots", "(I)V"⟩, 4) := ⟨⟨by decide +kernel, by decide +kernel⟩, List.mem_of_getElem? (i := 100) (by decide +kernel), List.mem_of_getElem? (i := 726) (by decide +kernel), List.mem_of_getElem? (i := 727) (by decide +kernel)⟩
theorem lw_p42 : lw_okq (⟨"WarmExtents$Moves", "remove", "(I)V"⟩, 5) := ⟨⟨by decide +kernel, by decide +kernel⟩, List.mem_of_getElem? (i := 141) (by decide +kernel), List.mem_of_getElem? (i := 732) (by decide +kernel), List.mem_of_getElem? (i := 733) (by decide +kernel)⟩
theorem lw_p43 : lw_okq (⟨"WarmExtents$World", "pass", "(ILWarmExtents$Planner;)V"⟩, 6) := ⟨⟨by decide +kernel, by decide +kernel⟩, List.mem_of_getElem? (i := 32) (by decide +kernel), List.mem_of_getElem? (i := 744) (by decide +kernel), List.mem_of_getElem? (i := 745) (by decide +kernel)⟩
theorem lw_p44 : lw_okq (⟨"WarmExtents$World", "tick", "(LWarmExtents$Planner;)V"⟩, 6) := ⟨⟨by decide +kernel, by decide +kernel⟩, List.mem_of_getElem? (i := 32) (by decide +kernel), List.mem_of_getElem? (i := 748) (by decide +kernel), List.mem_of_getElem? (i := 749) (by decide +kernel)⟩
theorem lw_p45 : lw_okq (⟨"WarmExtents$World", "moveBlocks", "()V"⟩, 6) := ⟨⟨by decide +kernel, by decide +kernel⟩, List.mem_of_getElem? (i := 32) (by decide +kernel), List.mem_of_getElem? (i := 752) (by decide +kernel), List.mem_of_getElem? (i := 753) (by decide +kernel)⟩
theorem lw_p46 : lw_okq (⟨"WarmExtents$World", "begin", "(I)Z"⟩, 6) := ⟨⟨by decide +kernel, by decide +kernel⟩, List.mem_of_getElem? (i := 32) (by decide +kernel), List.mem_of_getElem? (i := 756) (by decide +kernel), List.mem_of_getElem? (i := 757) (by decide +kernel)⟩
theorem lw_p47 : lw_okq (⟨"WarmExtents$Disks", "freeSlots", "()I"⟩, 4) := ⟨⟨by decide +kernel, by decide +kernel⟩, List.mem_of_getElem? (i := 100) (by decide +kernel), List.mem_of_getElem? (i := 760) (by decide +kernel), List.mem_of_getElem? (i := 761) (by decide +kernel)⟩
def lw_privs_3 : List (MethodName × Nat) := [(⟨"WarmExtents$World", "writeBlock", "(III)V"⟩, 6), (⟨"WarmExtents$Disks", "putFast", "(II)V"⟩, 4), (⟨"WarmExtents$Moves", "find", "(I)I"⟩, 5), (⟨"WarmExtents$World", "readExtents", "(III)I"⟩, 6), (⟨"WarmExtents$World", "writeDown", "(III)V"⟩, 6), (⟨"WarmExtents$Book", "add", "(IIII)V"⟩, 2), (⟨"WarmExtents$Moves", "add", "(II)V"⟩, 5), (⟨"WarmExtents$World", "dropMove", "(I)V"⟩, 6), (⟨"WarmExtents$Moves", "holdsSlots", "(I)Z"⟩, 5), (⟨"WarmExtents$Disks", "leaveSlots", "(I)V"⟩, 4), (⟨"WarmExtents$Moves", "remove", "(I)V"⟩, 5), (⟨"WarmExtents$World", "pass", "(ILWarmExtents$Planner;)V"⟩, 6), (⟨"WarmExtents$World", "tick", "(LWarmExtents$Planner;)V"⟩, 6), (⟨"WarmExtents$World", "moveBlocks", "()V"⟩, 6), (⟨"WarmExtents$World", "begin", "(I)Z"⟩, 6), (⟨"WarmExtents$Disks", "freeSlots", "()I"⟩, 4)]
theorem lw_r3 : ∀ q ∈ lw_privs_3, lw_okq q := List.forall_mem_cons.mpr ⟨lw_p32, List.forall_mem_cons.mpr ⟨lw_p33, List.forall_mem_cons.mpr ⟨lw_p34, List.forall_mem_cons.mpr ⟨lw_p35, List.forall_mem_cons.mpr ⟨lw_p36, List.forall_mem_cons.mpr ⟨lw_p37, List.forall_mem_cons.mpr ⟨lw_p38, List.forall_mem_cons.mpr ⟨lw_p39, List.forall_mem_cons.mpr ⟨lw_p40, List.forall_mem_cons.mpr ⟨lw_p41, List.forall_mem_cons.mpr ⟨lw_p42, List.forall_mem_cons.mpr ⟨lw_p43, List.forall_mem_cons.mpr ⟨lw_p44, List.forall_mem_cons.mpr ⟨lw_p45, List.forall_mem_cons.mpr ⟨lw_p46, List.forall_mem_cons.mpr ⟨lw_p47, fun _ h => absurd h List.not_mem_nil⟩⟩⟩⟩⟩⟩⟩⟩⟩⟩⟩⟩⟩⟩⟩⟩
theorem lw_p48 : lw_okq (⟨"WarmExtents$Disks", "takeSlots", "(I)V"⟩, 4) := ⟨⟨by decide +kernel, by decide +kernel⟩, List.mem_of_getElem? (i := 100) (by decide +kernel), List.mem_of_getElem? (i := 764) (by decide +kernel), List.mem_of_getElem? (i := 765) (by decide +kernel)⟩
theorem lw_p49 : lw_okq (⟨"WarmExtents$World", "copyBlocks", "(II)I"⟩, 6) := ⟨⟨by decide +kernel, by decide +kernel⟩, List.mem_of_getElem? (i := 32) (by decide +kernel), List.mem_of_getElem? (i := 768) (by decide +kernel), List.mem_of_getElem? (i := 769) (by decide +kernel)⟩
theorem lw_p50 : lw_okq (⟨"WarmExtents$World", "blocksToCopy", "(I)I"⟩, 6) := ⟨⟨by decide +kernel, by decide +kernel⟩, List.mem_of_getElem? (i := 32) (by decide +kernel), List.mem_of_getElem? (i := 772) (by decide +kernel), List.mem_of_getElem? (i := 773) (by decide +kernel)⟩
theorem lw_p51 : lw_okq (⟨"WarmExtents$World", "copyBlock", "(III)V"⟩, 6) := ⟨⟨by decide +kernel, by decide +kernel⟩, List.mem_of_getElem? (i := 32) (by decide +kernel), List.mem_of_getElem? (i := 780) (by decide +kernel), List.mem_of_getElem? (i := 781) (by decide +kernel)⟩
theorem lw_p52 : lw_okq (⟨"WarmExtents$World", "switchWhole", "()V"⟩, 6) := ⟨⟨by decide +kernel, by decide +kernel⟩, List.mem_of_getElem? (i := 32) (by decide +kernel), List.mem_of_getElem? (i := 784) (by decide +kernel), List.mem_of_getElem? (i := 785) (by decide +kernel)⟩
theorem lw_p53 : lw_okq (⟨"WarmExtents$World", "switchOver", "(I)V"⟩, 6) := ⟨⟨by decide +kernel, by decide +kernel⟩, List.mem_of_getElem? (i := 32) (by decide +kernel), List.mem_of_getElem? (i := 788) (by decide +kernel), List.mem_of_getElem? (i := 789) (by decide +kernel)⟩
theorem lw_p54 : lw_okq (⟨"WarmExtents$World", "makePlan", "(LWarmExtents$Planner;)V"⟩, 6) := ⟨⟨by decide +kernel, by decide +kernel⟩, List.mem_of_getElem? (i := 32) (by decide +kernel), List.mem_of_getElem? (i := 792) (by decide +kernel), List.mem_of_getElem? (i := 793) (by decide +kernel)⟩
theorem lw_p55 : lw_okq (⟨"WarmExtents$Planner", "makeFor", "(LWarmExtents$World;I)V"⟩, 13) := ⟨⟨by decide +kernel, by decide +kernel⟩, List.mem_of_getElem? (i := 234) (by decide +kernel), List.mem_of_getElem? (i := 797) (by decide +kernel), List.mem_of_getElem? (i := 798) (by decide +kernel)⟩
theorem lw_p56 : lw_okq (⟨"WarmExtents$Planner", "weigh", "(LWarmExtents$World;I)V"⟩, 13) := ⟨⟨by decide +kernel, by decide +kernel⟩, List.mem_of_getElem? (i := 234) (by decide +kernel), List.mem_of_getElem? (i := 801) (by decide +kernel), List.mem_of_getElem? (i := 802) (by decide +kernel)⟩
theorem lw_p57 : lw_okq (⟨"WarmExtents$Planner", "bind", "(LWarmExtents$Moves;)V"⟩, 13) := ⟨⟨by decide +kernel, by decide +kernel⟩, List.mem_of_getElem? (i := 234) (by decide +kernel), List.mem_of_getElem? (i := 805) (by decide +kernel), List.mem_of_getElem? (i := 806) (by decide +kernel)⟩
theorem lw_p58 : lw_okq (⟨"WarmExtents$Planner", "choose", "()Z"⟩, 13) := ⟨⟨by decide +kernel, by decide +kernel⟩, List.mem_of_getElem? (i := 234) (by decide +kernel), List.mem_of_getElem? (i := 827) (by decide +kernel), List.mem_of_getElem? (i := 828) (by decide +kernel)⟩
theorem lw_p59 : lw_okq (⟨"WarmExtents$Planner", "listMoves", "(LWarmExtents$Extents;)V"⟩, 13) := ⟨⟨by decide +kernel, by decide +kernel⟩, List.mem_of_getElem? (i := 234) (by decide +kernel), List.mem_of_getElem? (i := 835) (by decide +kernel), List.mem_of_getElem? (i := 836) (by decide +kernel)⟩
theorem lw_p60 : lw_okq (⟨"WarmExtents$Extents", "hotter", "(II)Z"⟩, 12) := ⟨⟨by decide +kernel, by decide +kernel⟩, List.mem_of_getElem? (i := 38) (by decide +kernel), List.mem_of_getElem? (i := 842) (by decide +kernel), List.mem_of_getElem? (i := 843) (by decide +kernel)⟩
theorem lw_p61 : lw_okq (⟨"WarmExtents$Extents", "age", "()V"⟩, 12) := ⟨⟨by decide +kernel, by decide +kernel⟩, List.mem_of_getElem? (i := 38) (by decide +kernel), List.mem_of_getElem? (i := 847) (by decide +kernel), List.mem_of_getElem? (i := 848) (by decide +kernel)⟩
theorem lw_p62 : lw_okq (⟨"WarmExtents$World", "loseMemory", "()I"⟩, 6) := ⟨⟨by decide +kernel, by decide +kernel⟩, List.mem_of_getElem? (i := 32) (by decide +kernel), List.mem_of_getElem? (i := 855) (by decide +kernel), List.mem_of_getElem? (i := 856) (by decide +kernel)⟩
theorem lw_p63 : lw_okq (⟨"WarmExtents$Extents", "forget", "()V"⟩, 12) := ⟨⟨by decide +kernel, by decide +kernel⟩, List.mem_of_getElem? (i := 38) (by decide +kernel), List.mem_of_getElem? (i := 859) (by decide +kernel), List.mem_of_getElem? (i := 860) (by decide +kernel)⟩
def lw_privs_4 : List (MethodName × Nat) := [(⟨"WarmExtents$Disks", "takeSlots", "(I)V"⟩, 4), (⟨"WarmExtents$World", "copyBlocks", "(II)I"⟩, 6), (⟨"WarmExtents$World", "blocksToCopy", "(I)I"⟩, 6), (⟨"WarmExtents$World", "copyBlock", "(III)V"⟩, 6), (⟨"WarmExtents$World", "switchWhole", "()V"⟩, 6), (⟨"WarmExtents$World", "switchOver", "(I)V"⟩, 6), (⟨"WarmExtents$World", "makePlan", "(LWarmExtents$Planner;)V"⟩, 6), (⟨"WarmExtents$Planner", "makeFor", "(LWarmExtents$World;I)V"⟩, 13), (⟨"WarmExtents$Planner", "weigh", "(LWarmExtents$World;I)V"⟩, 13), (⟨"WarmExtents$Planner", "bind", "(LWarmExtents$Moves;)V"⟩, 13), (⟨"WarmExtents$Planner", "choose", "()Z"⟩, 13), (⟨"WarmExtents$Planner", "listMoves", "(LWarmExtents$Extents;)V"⟩, 13), (⟨"WarmExtents$Extents", "hotter", "(II)Z"⟩, 12), (⟨"WarmExtents$Extents", "age", "()V"⟩, 12), (⟨"WarmExtents$World", "loseMemory", "()I"⟩, 6), (⟨"WarmExtents$Extents", "forget", "()V"⟩, 12)]
theorem lw_r4 : ∀ q ∈ lw_privs_4, lw_okq q := List.forall_mem_cons.mpr ⟨lw_p48, List.forall_mem_cons.mpr ⟨lw_p49, List.forall_mem_cons.mpr ⟨lw_p50, List.forall_mem_cons.mpr ⟨lw_p51, List.forall_mem_cons.mpr ⟨lw_p52, List.forall_mem_cons.mpr ⟨lw_p53, List.forall_mem_cons.mpr ⟨lw_p54, List.forall_mem_cons.mpr ⟨lw_p55, List.forall_mem_cons.mpr ⟨lw_p56, List.forall_mem_cons.mpr ⟨lw_p57, List.forall_mem_cons.mpr ⟨lw_p58, List.forall_mem_cons.mpr ⟨lw_p59, List.forall_mem_cons.mpr ⟨lw_p60, List.forall_mem_cons.mpr ⟨lw_p61, List.forall_mem_cons.mpr ⟨lw_p62, List.forall_mem_cons.mpr ⟨lw_p63, fun _ h => absurd h List.not_mem_nil⟩⟩⟩⟩⟩⟩⟩⟩⟩⟩⟩⟩⟩⟩⟩⟩
theorem lw_p64 : lw_okq (⟨"WarmExtents", "textAt", "(I)LWarmExtents$Text;"⟩, 11) := ⟨⟨by decide +kernel, by decide +kernel⟩, List.mem_of_getElem? (i := 24) (by decide +kernel), List.mem_of_getElem? (i := 868) (by decide +kernel), List.mem_of_getElem? (i := 869) (by decide +kernel)⟩
theorem lw_p65 : lw_okq (⟨"WarmExtents$Player", "play", "(LWarmExtents$Text;LWarmExtents$World;LWarmExtents$Planner;)I"⟩, 8) := ⟨⟨by decide +kernel, by decide +kernel⟩, List.mem_of_getElem? (i := 288) (by decide +kernel), List.mem_of_getElem? (i := 872) (by decide +kernel), List.mem_of_getElem? (i := 873) (by decide +kernel)⟩
theorem lw_p66 : lw_okq (⟨"WarmExtents$Player", "statement", "()V"⟩, 8) := ⟨⟨by decide +kernel, by decide +kernel⟩, List.mem_of_getElem? (i := 288) (by decide +kernel), List.mem_of_getElem? (i := 877) (by decide +kernel), List.mem_of_getElem? (i := 878) (by decide +kernel)⟩
theorem lw_p67 : lw_okq (⟨"WarmExtents$Text", "kindAt", "(I)I"⟩, 3) := ⟨⟨by decide +kernel, by decide +kernel⟩, List.mem_of_getElem? (i := 566) (by decide +kernel), List.mem_of_getElem? (i := 881) (by decide +kernel), List.mem_of_getElem? (i := 882) (by decide +kernel)⟩
theorem lw_p68 : lw_okq (⟨"WarmExtents$Player", "readOne", "()V"⟩, 8) := ⟨⟨by decide +kernel, by decide +kernel⟩, List.mem_of_getElem? (i := 288) (by decide +kernel), List.mem_of_getElem? (i := 885) (by decide +kernel), List.mem_of_getElem? (i := 886) (by decide +kernel)⟩
theorem lw_p69 : lw_okq (⟨"WarmExtents$Player", "sum", "()I"⟩, 8) := ⟨⟨by decide +kernel, by decide +kernel⟩, List.mem_of_getElem? (i := 288) (by decide +kernel), List.mem_of_getElem? (i := 889) (by decide +kernel), List.mem_of_getElem? (i := 890) (by decide +kernel)⟩
theorem lw_p70 : lw_okq (⟨"WarmExtents$Player", "product", "()I"⟩, 8) := ⟨⟨by decide +kernel, by decide +kernel⟩, List.mem_of_getElem? (i := 288) (by decide +kernel), List.mem_of_getElem? (i := 893) (by decide +kernel), List.mem_of_getElem? (i := 894) (by decide +kernel)⟩
theorem lw_p71 : lw_okq (⟨"WarmExtents$Player", "factor", "()I"⟩, 8) := ⟨⟨by decide +kernel, by decide +kernel⟩, List.mem_of_getElem? (i := 288) (by decide +kernel), List.mem_of_getElem? (i := 897) (by decide +kernel), List.mem_of_getElem? (i := 898) (by decide +kernel)⟩
theorem lw_p72 : lw_okq (⟨"WarmExtents$Text", "valueAt", "(I)I"⟩, 3) := ⟨⟨by decide +kernel, by decide +kernel⟩, List.mem_of_getElem? (i := 566) (by decide +kernel), List.mem_of_getElem? (i := 901) (by decide +kernel), List.mem_of_getElem? (i := 902) (by decide +kernel)⟩
theorem lw_p73 : lw_okq (⟨"WarmExtents$Player", "writeOne", "()V"⟩, 8) := ⟨⟨by decide +kernel, by decide +kernel⟩, List.mem_of_getElem? (i := 288) (by decide +kernel), List.mem_of_getElem? (i := 907) (by decide +kernel), List.mem_of_getElem? (i := 908) (by decide +kernel)⟩
theorem lw_p74 : lw_okq (⟨"WarmExtents$Player", "scanSome", "()V"⟩, 8) := ⟨⟨by decide +kernel, by decide +kernel⟩, List.mem_of_getElem? (i := 288) (by decide +kernel), List.mem_of_getElem? (i := 912) (by decide +kernel), List.mem_of_getElem? (i := 913) (by decide +kernel)⟩
theorem lw_p75 : lw_okq (⟨"WarmExtents$Player", "enter", "(I)V"⟩, 8) := ⟨⟨by decide +kernel, by decide +kernel⟩, List.mem_of_getElem? (i := 288) (by decide +kernel), List.mem_of_getElem? (i := 919) (by decide +kernel), List.mem_of_getElem? (i := 920) (by decide +kernel)⟩
theorem lw_p76 : lw_okq (⟨"WarmExtents$Player", "enterIf", "()V"⟩, 8) := ⟨⟨by decide +kernel, by decide +kernel⟩, List.mem_of_getElem? (i := 288) (by decide +kernel), List.mem_of_getElem? (i := 923) (by decide +kernel), List.mem_of_getElem? (i := 924) (by decide +kernel)⟩
theorem lw_p77 : lw_okq (⟨"WarmExtents$Player", "leave", "()V"⟩, 8) := ⟨⟨by decide +kernel, by decide +kernel⟩, List.mem_of_getElem? (i := 288) (by decide +kernel), List.mem_of_getElem? (i := 927) (by decide +kernel), List.mem_of_getElem? (i := 928) (by decide +kernel)⟩
theorem lw_p78 : lw_okq (⟨"WarmExtents$World", "live", "(IILWarmExtents$Planner;)V"⟩, 6) := ⟨⟨by decide +kernel, by decide +kernel⟩, List.mem_of_getElem? (i := 32) (by decide +kernel), List.mem_of_getElem? (i := 935) (by decide +kernel), List.mem_of_getElem? (i := 936) (by decide +kernel)⟩
theorem lw_p79 : lw_okq (⟨"WarmExtents$World", "happen", "(ILWarmExtents$Planner;)V"⟩, 6) := ⟨⟨by decide +kernel, by decide +kernel⟩, List.mem_of_getElem? (i := 32) (by decide +kernel), List.mem_of_getElem? (i := 939) (by decide +kernel), List.mem_of_getElem? (i := 940) (by decide +kernel)⟩
def lw_privs_5 : List (MethodName × Nat) := [(⟨"WarmExtents", "textAt", "(I)LWarmExtents$Text;"⟩, 11), (⟨"WarmExtents$Player", "play", "(LWarmExtents$Text;LWarmExtents$World;LWarmExtents$Planner;)I"⟩, 8), (⟨"WarmExtents$Player", "statement", "()V"⟩, 8), (⟨"WarmExtents$Text", "kindAt", "(I)I"⟩, 3), (⟨"WarmExtents$Player", "readOne", "()V"⟩, 8), (⟨"WarmExtents$Player", "sum", "()I"⟩, 8), (⟨"WarmExtents$Player", "product", "()I"⟩, 8), (⟨"WarmExtents$Player", "factor", "()I"⟩, 8), (⟨"WarmExtents$Text", "valueAt", "(I)I"⟩, 3), (⟨"WarmExtents$Player", "writeOne", "()V"⟩, 8), (⟨"WarmExtents$Player", "scanSome", "()V"⟩, 8), (⟨"WarmExtents$Player", "enter", "(I)V"⟩, 8), (⟨"WarmExtents$Player", "enterIf", "()V"⟩, 8), (⟨"WarmExtents$Player", "leave", "()V"⟩, 8), (⟨"WarmExtents$World", "live", "(IILWarmExtents$Planner;)V"⟩, 6), (⟨"WarmExtents$World", "happen", "(ILWarmExtents$Planner;)V"⟩, 6)]
theorem lw_r5 : ∀ q ∈ lw_privs_5, lw_okq q := List.forall_mem_cons.mpr ⟨lw_p64, List.forall_mem_cons.mpr ⟨lw_p65, List.forall_mem_cons.mpr ⟨lw_p66, List.forall_mem_cons.mpr ⟨lw_p67, List.forall_mem_cons.mpr ⟨lw_p68, List.forall_mem_cons.mpr ⟨lw_p69, List.forall_mem_cons.mpr ⟨lw_p70, List.forall_mem_cons.mpr ⟨lw_p71, List.forall_mem_cons.mpr ⟨lw_p72, List.forall_mem_cons.mpr ⟨lw_p73, List.forall_mem_cons.mpr ⟨lw_p74, List.forall_mem_cons.mpr ⟨lw_p75, List.forall_mem_cons.mpr ⟨lw_p76, List.forall_mem_cons.mpr ⟨lw_p77, List.forall_mem_cons.mpr ⟨lw_p78, List.forall_mem_cons.mpr ⟨lw_p79, fun _ h => absurd h List.not_mem_nil⟩⟩⟩⟩⟩⟩⟩⟩⟩⟩⟩⟩⟩⟩⟩⟩
theorem lw_p80 : lw_okq (⟨"WarmExtents$History", "pop", "(LWarmExtents$World;)Z"⟩, 3) := ⟨⟨by decide +kernel, by decide +kernel⟩, List.mem_of_getElem? (i := 214) (by decide +kernel), List.mem_of_getElem? (i := 950) (by decide +kernel), List.mem_of_getElem? (i := 951) (by decide +kernel)⟩
theorem lw_p81 : lw_okq (⟨"WarmExtents$Disks", "lowestFree", "(I)I"⟩, 4) := ⟨⟨by decide +kernel, by decide +kernel⟩, List.mem_of_getElem? (i := 100) (by decide +kernel), List.mem_of_getElem? (i := 979) (by decide +kernel), List.mem_of_getElem? (i := 980) (by decide +kernel)⟩
theorem lw_p82 : lw_okq (⟨"WarmExtents$Extents", "detail", "(II)I"⟩, 12) := ⟨⟨by decide +kernel, by decide +kernel⟩, List.mem_of_getElem? (i := 38) (by decide +kernel), List.mem_of_getElem? (i := 995) (by decide +kernel), List.mem_of_getElem? (i := 996) (by decide +kernel)⟩
theorem lw_p83 : lw_okq (⟨"WarmExtents$Heads", "detail", "(II)I"⟩, 3) := ⟨⟨by decide +kernel, by decide +kernel⟩, List.mem_of_getElem? (i := 124) (by decide +kernel), List.mem_of_getElem? (i := 1003) (by decide +kernel), List.mem_of_getElem? (i := 1004) (by decide +kernel)⟩
theorem lw_p84 : lw_okq (⟨"WarmExtents$Moves", "detail", "(II)I"⟩, 5) := ⟨⟨by decide +kernel, by decide +kernel⟩, List.mem_of_getElem? (i := 141) (by decide +kernel), List.mem_of_getElem? (i := 1012) (by decide +kernel), List.mem_of_getElem? (i := 1013) (by decide +kernel)⟩
theorem lw_p85 : lw_okq (⟨"WarmExtents$Planner", "allows", "(I)Z"⟩, 13) := ⟨⟨by decide +kernel, by decide +kernel⟩, List.mem_of_getElem? (i := 234) (by decide +kernel), List.mem_of_getElem? (i := 1035) (by decide +kernel), List.mem_of_getElem? (i := 1036) (by decide +kernel)⟩
theorem lw_p86 : lw_okq (⟨"WarmExtents$Planner", "needOf", "(I)I"⟩, 13) := ⟨⟨by decide +kernel, by decide +kernel⟩, List.mem_of_getElem? (i := 234) (by decide +kernel), List.mem_of_getElem? (i := 1039) (by decide +kernel), List.mem_of_getElem? (i := 1040) (by decide +kernel)⟩
theorem lw_p87 : lw_okq (⟨"WarmExtents$Planner", "worthOf", "(I)I"⟩, 13) := ⟨⟨by decide +kernel, by decide +kernel⟩, List.mem_of_getElem? (i := 234) (by decide +kernel), List.mem_of_getElem? (i := 1043) (by decide +kernel), List.mem_of_getElem? (i := 1044) (by decide +kernel)⟩
theorem lw_p88 : lw_okq (⟨"WarmExtents$Planner", "leastHeat", "(LWarmExtents$World;I)I"⟩, 13) := ⟨⟨by decide +kernel, by decide +kernel⟩, List.mem_of_getElem? (i := 234) (by decide +kernel), List.mem_of_getElem? (i := 1056) (by decide +kernel), List.mem_of_getElem? (i := 1057) (by decide +kernel)⟩
theorem lw_p89 : lw_okq (⟨"WarmExtents$Planner", "force", "(IZ)V"⟩, 13) := ⟨⟨by decide +kernel, by decide +kernel⟩, List.mem_of_getElem? (i := 234) (by decide +kernel), List.mem_of_getElem? (i := 1060) (by decide +kernel), List.mem_of_getElem? (i := 1061) (by decide +kernel)⟩
theorem lw_p90 : lw_okq (⟨"WarmExtents$Extents", "hotterThan", "(I)I"⟩, 12) := ⟨⟨by decide +kernel, by decide +kernel⟩, List.mem_of_getElem? (i := 38) (by decide +kernel), List.mem_of_getElem? (i := 1111) (by decide +kernel), List.mem_of_getElem? (i := 1112) (by decide +kernel)⟩
theorem lw_p91 : lw_okq (⟨"WarmExtents$Book", "detail", "(II)I"⟩, 2) := ⟨⟨by decide +kernel, by decide +kernel⟩, List.mem_of_getElem? (i := 173) (by decide +kernel), List.mem_of_getElem? (i := 1149) (by decide +kernel), List.mem_of_getElem? (i := 1150) (by decide +kernel)⟩
theorem lw_p92 : lw_okq (⟨"WarmExtents$Book", "linesOf", "(I)I"⟩, 2) := ⟨⟨by decide +kernel, by decide +kernel⟩, List.mem_of_getElem? (i := 173) (by decide +kernel), List.mem_of_getElem? (i := 1157) (by decide +kernel), List.mem_of_getElem? (i := 1158) (by decide +kernel)⟩
theorem lw_p93 : lw_okq (⟨"WarmExtents$History", "copyFrom", "(LWarmExtents$History;)V"⟩, 3) := ⟨⟨by decide +kernel, by decide +kernel⟩, List.mem_of_getElem? (i := 214) (by decide +kernel), List.mem_of_getElem? (i := 1165) (by decide +kernel), List.mem_of_getElem? (i := 1166) (by decide +kernel)⟩
theorem lw_p94 : lw_okq (⟨"WarmExtentsModel", "four", "(I)V"⟩, 27) := ⟨⟨by decide +kernel, by decide +kernel⟩, List.mem_of_getElem? (i := 1177) (by decide +kernel), List.mem_of_getElem? (i := 1272) (by decide +kernel), List.mem_of_getElem? (i := 1273) (by decide +kernel)⟩
theorem lw_p95 : lw_okq (⟨"WarmExtentsModel", "readText", "()I"⟩, 27) := ⟨⟨by decide +kernel, by decide +kernel⟩, List.mem_of_getElem? (i := 1177) (by decide +kernel), List.mem_of_getElem? (i := 1287) (by decide +kernel), List.mem_of_getElem? (i := 1288) (by decide +kernel)⟩
def lw_privs_6 : List (MethodName × Nat) := [(⟨"WarmExtents$History", "pop", "(LWarmExtents$World;)Z"⟩, 3), (⟨"WarmExtents$Disks", "lowestFree", "(I)I"⟩, 4), (⟨"WarmExtents$Extents", "detail", "(II)I"⟩, 12), (⟨"WarmExtents$Heads", "detail", "(II)I"⟩, 3), (⟨"WarmExtents$Moves", "detail", "(II)I"⟩, 5), (⟨"WarmExtents$Planner", "allows", "(I)Z"⟩, 13), (⟨"WarmExtents$Planner", "needOf", "(I)I"⟩, 13), (⟨"WarmExtents$Planner", "worthOf", "(I)I"⟩, 13), (⟨"WarmExtents$Planner", "leastHeat", "(LWarmExtents$World;I)I"⟩, 13), (⟨"WarmExtents$Planner", "force", "(IZ)V"⟩, 13), (⟨"WarmExtents$Extents", "hotterThan", "(I)I"⟩, 12), (⟨"WarmExtents$Book", "detail", "(II)I"⟩, 2), (⟨"WarmExtents$Book", "linesOf", "(I)I"⟩, 2), (⟨"WarmExtents$History", "copyFrom", "(LWarmExtents$History;)V"⟩, 3), (⟨"WarmExtentsModel", "four", "(I)V"⟩, 27), (⟨"WarmExtentsModel", "readText", "()I"⟩, 27)]
theorem lw_r6 : ∀ q ∈ lw_privs_6, lw_okq q := List.forall_mem_cons.mpr ⟨lw_p80, List.forall_mem_cons.mpr ⟨lw_p81, List.forall_mem_cons.mpr ⟨lw_p82, List.forall_mem_cons.mpr ⟨lw_p83, List.forall_mem_cons.mpr ⟨lw_p84, List.forall_mem_cons.mpr ⟨lw_p85, List.forall_mem_cons.mpr ⟨lw_p86, List.forall_mem_cons.mpr ⟨lw_p87, List.forall_mem_cons.mpr ⟨lw_p88, List.forall_mem_cons.mpr ⟨lw_p89, List.forall_mem_cons.mpr ⟨lw_p90, List.forall_mem_cons.mpr ⟨lw_p91, List.forall_mem_cons.mpr ⟨lw_p92, List.forall_mem_cons.mpr ⟨lw_p93, List.forall_mem_cons.mpr ⟨lw_p94, List.forall_mem_cons.mpr ⟨lw_p95, fun _ h => absurd h List.not_mem_nil⟩⟩⟩⟩⟩⟩⟩⟩⟩⟩⟩⟩⟩⟩⟩⟩
theorem lw_p96 : lw_okq (⟨"WarmExtentsModel", "nextToken", "()V"⟩, 27) := ⟨⟨by decide +kernel, by decide +kernel⟩, List.mem_of_getElem? (i := 1177) (by decide +kernel), List.mem_of_getElem? (i := 1291) (by decide +kernel), List.mem_of_getElem? (i := 1292) (by decide +kernel)⟩
theorem lw_p97 : lw_okq (⟨"WarmExtentsModel", "byteAt", "(I)I"⟩, 27) := ⟨⟨by decide +kernel, by decide +kernel⟩, List.mem_of_getElem? (i := 1177) (by decide +kernel), List.mem_of_getElem? (i := 1295) (by decide +kernel), List.mem_of_getElem? (i := 1296) (by decide +kernel)⟩
theorem lw_p98 : lw_okq (⟨"WarmExtentsModel", "wordOf", "(II)I"⟩, 27) := ⟨⟨by decide +kernel, by decide +kernel⟩, List.mem_of_getElem? (i := 1177) (by decide +kernel), List.mem_of_getElem? (i := 1306) (by decide +kernel), List.mem_of_getElem? (i := 1307) (by decide +kernel)⟩
theorem lw_p99 : lw_okq (⟨"WarmExtentsModel", "isWord", "(IIIIIIII)Z"⟩, 27) := ⟨⟨by decide +kernel, by decide +kernel⟩, List.mem_of_getElem? (i := 1177) (by decide +kernel), List.mem_of_getElem? (i := 1310) (by decide +kernel), List.mem_of_getElem? (i := 1311) (by decide +kernel)⟩
theorem lw_p100 : lw_okq (⟨"WarmExtentsModel", "closed", "()V"⟩, 27) := ⟨⟨by decide +kernel, by decide +kernel⟩, List.mem_of_getElem? (i := 1177) (by decide +kernel), List.mem_of_getElem? (i := 1317) (by decide +kernel), List.mem_of_getElem? (i := 1318) (by decide +kernel)⟩
theorem lw_p101 : lw_okq (⟨"WarmExtentsModel", "statement", "()I"⟩, 27) := ⟨⟨by decide +kernel, by decide +kernel⟩, List.mem_of_getElem? (i := 1177) (by decide +kernel), List.mem_of_getElem? (i := 1321) (by decide +kernel), List.mem_of_getElem? (i := 1322) (by decide +kernel)⟩
theorem lw_p102 : lw_okq (⟨"WarmExtentsModel", "sums", "(II)I"⟩, 27) := ⟨⟨by decide +kernel, by decide +kernel⟩, List.mem_of_getElem? (i := 1177) (by decide +kernel), List.mem_of_getElem? (i := 1325) (by decide +kernel), List.mem_of_getElem? (i := 1326) (by decide +kernel)⟩
theorem lw_p103 : lw_okq (⟨"WarmExtentsModel", "summed", "(I)I"⟩, 27) := ⟨⟨by decide +kernel, by decide +kernel⟩, List.mem_of_getElem? (i := 1177) (by decide +kernel), List.mem_of_getElem? (i := 1329) (by decide +kernel), List.mem_of_getElem? (i := 1330) (by decide +kernel)⟩
theorem lw_p104 : lw_okq (⟨"WarmExtentsModel", "one", "(I)I"⟩, 27) := ⟨⟨by decide +kernel, by decide +kernel⟩, List.mem_of_getElem? (i := 1177) (by decide +kernel), List.mem_of_getElem? (i := 1333) (by decide +kernel), List.mem_of_getElem? (i := 1334) (by decide +kernel)⟩
theorem lw_p105 : lw_okq (⟨"WarmExtentsModel", "loopHead", "()I"⟩, 27) := ⟨⟨by decide +kernel, by decide +kernel⟩, List.mem_of_getElem? (i := 1177) (by decide +kernel), List.mem_of_getElem? (i := 1337) (by decide +kernel), List.mem_of_getElem? (i := 1338) (by decide +kernel)⟩
theorem lw_p106 : lw_okq (⟨"WarmExtentsModel", "opened", "(Z)I"⟩, 27) := ⟨⟨by decide +kernel, by decide +kernel⟩, List.mem_of_getElem? (i := 1177) (by decide +kernel), List.mem_of_getElem? (i := 1341) (by decide +kernel), List.mem_of_getElem? (i := 1342) (by decide +kernel)⟩
theorem lw_p107 : lw_okq (⟨"WarmExtentsModel", "choiceHead", "()I"⟩, 27) := ⟨⟨by decide +kernel, by decide +kernel⟩, List.mem_of_getElem? (i := 1177) (by decide +kernel), List.mem_of_getElem? (i := 1345) (by decide +kernel), List.mem_of_getElem? (i := 1346) (by decide +kernel)⟩
theorem lw_p108 : lw_okq (⟨"WarmExtentsModel", "keep", "()V"⟩, 27) := ⟨⟨by decide +kernel, by decide +kernel⟩, List.mem_of_getElem? (i := 1177) (by decide +kernel), List.mem_of_getElem? (i := 1373) (by decide +kernel), List.mem_of_getElem? (i := 1374) (by decide +kernel)⟩
theorem lw_p109 : lw_okq (⟨"WarmExtentsModel", "readNow", "(II)I"⟩, 27) := ⟨⟨by decide +kernel, by decide +kernel⟩, List.mem_of_getElem? (i := 1177) (by decide +kernel), List.mem_of_getElem? (i := 1377) (by decide +kernel), List.mem_of_getElem? (i := 1378) (by decide +kernel)⟩
theorem lw_p110 : lw_okq (⟨"WarmExtentsModel", "access", "(IIIII)V"⟩, 27) := ⟨⟨by decide +kernel, by decide +kernel⟩, List.mem_of_getElem? (i := 1177) (by decide +kernel), List.mem_of_getElem? (i := 1381) (by decide +kernel), List.mem_of_getElem? (i := 1382) (by decide +kernel)⟩
theorem lw_p111 : lw_okq (⟨"WarmExtentsModel", "isFast", "(I)Z"⟩, 27) := ⟨⟨by decide +kernel, by decide +kernel⟩, List.mem_of_getElem? (i := 1177) (by decide +kernel), List.mem_of_getElem? (i := 1385) (by decide +kernel), List.mem_of_getElem? (i := 1386) (by decide +kernel)⟩
def lw_privs_7 : List (MethodName × Nat) := [(⟨"WarmExtentsModel", "nextToken", "()V"⟩, 27), (⟨"WarmExtentsModel", "byteAt", "(I)I"⟩, 27), (⟨"WarmExtentsModel", "wordOf", "(II)I"⟩, 27), (⟨"WarmExtentsModel", "isWord", "(IIIIIIII)Z"⟩, 27), (⟨"WarmExtentsModel", "closed", "()V"⟩, 27), (⟨"WarmExtentsModel", "statement", "()I"⟩, 27), (⟨"WarmExtentsModel", "sums", "(II)I"⟩, 27), (⟨"WarmExtentsModel", "summed", "(I)I"⟩, 27), (⟨"WarmExtentsModel", "one", "(I)I"⟩, 27), (⟨"WarmExtentsModel", "loopHead", "()I"⟩, 27), (⟨"WarmExtentsModel", "opened", "(Z)I"⟩, 27), (⟨"WarmExtentsModel", "choiceHead", "()I"⟩, 27), (⟨"WarmExtentsModel", "keep", "()V"⟩, 27), (⟨"WarmExtentsModel", "readNow", "(II)I"⟩, 27), (⟨"WarmExtentsModel", "access", "(IIIII)V"⟩, 27), (⟨"WarmExtentsModel", "isFast", "(I)Z"⟩, 27)]
theorem lw_r7 : ∀ q ∈ lw_privs_7, lw_okq q := List.forall_mem_cons.mpr ⟨lw_p96, List.forall_mem_cons.mpr ⟨lw_p97, List.forall_mem_cons.mpr ⟨lw_p98, List.forall_mem_cons.mpr ⟨lw_p99, List.forall_mem_cons.mpr ⟨lw_p100, List.forall_mem_cons.mpr ⟨lw_p101, List.forall_mem_cons.mpr ⟨lw_p102, List.forall_mem_cons.mpr ⟨lw_p103, List.forall_mem_cons.mpr ⟨lw_p104, List.forall_mem_cons.mpr ⟨lw_p105, List.forall_mem_cons.mpr ⟨lw_p106, List.forall_mem_cons.mpr ⟨lw_p107, List.forall_mem_cons.mpr ⟨lw_p108, List.forall_mem_cons.mpr ⟨lw_p109, List.forall_mem_cons.mpr ⟨lw_p110, List.forall_mem_cons.mpr ⟨lw_p111, fun _ h => absurd h List.not_mem_nil⟩⟩⟩⟩⟩⟩⟩⟩⟩⟩⟩⟩⟩⟩⟩⟩
theorem lw_p112 : lw_okq (⟨"WarmExtentsModel", "headed", "(I)I"⟩, 27) := ⟨⟨by decide +kernel, by decide +kernel⟩, List.mem_of_getElem? (i := 1177) (by decide +kernel), List.mem_of_getElem? (i := 1392) (by decide +kernel), List.mem_of_getElem? (i := 1393) (by decide +kernel)⟩
theorem lw_p113 : lw_okq (⟨"WarmExtentsModel", "headAt", "(I)I"⟩, 27) := ⟨⟨by decide +kernel, by decide +kernel⟩, List.mem_of_getElem? (i := 1177) (by decide +kernel), List.mem_of_getElem? (i := 1396) (by decide +kernel), List.mem_of_getElem? (i := 1397) (by decide +kernel)⟩
theorem lw_p114 : lw_okq (⟨"WarmExtentsModel", "outHead", "(I)V"⟩, 27) := ⟨⟨by decide +kernel, by decide +kernel⟩, List.mem_of_getElem? (i := 1177) (by decide +kernel), List.mem_of_getElem? (i := 1400) (by decide +kernel), List.mem_of_getElem? (i := 1401) (by decide +kernel)⟩
theorem lw_p115 : lw_okq (⟨"WarmExtentsModel", "slotOf", "(II)I"⟩, 27) := ⟨⟨by decide +kernel, by decide +kernel⟩, List.mem_of_getElem? (i := 1177) (by decide +kernel), List.mem_of_getElem? (i := 1404) (by decide +kernel), List.mem_of_getElem? (i := 1405) (by decide +kernel)⟩
theorem lw_p116 : lw_okq (⟨"WarmExtentsModel", "writeNow", "(III)I"⟩, 27) := ⟨⟨by decide +kernel, by decide +kernel⟩, List.mem_of_getElem? (i := 1177) (by decide +kernel), List.mem_of_getElem? (i := 1412) (by decide +kernel), List.mem_of_getElem? (i := 1413) (by decide +kernel)⟩
theorem lw_p117 : lw_okq (⟨"WarmExtentsModel", "moveAt", "(I)I"⟩, 27) := ⟨⟨by decide +kernel, by decide +kernel⟩, List.mem_of_getElem? (i := 1177) (by decide +kernel), List.mem_of_getElem? (i := 1416) (by decide +kernel), List.mem_of_getElem? (i := 1417) (by decide +kernel)⟩
theorem lw_p118 : lw_okq (⟨"WarmExtentsModel", "scanNow", "(II)I"⟩, 27) := ⟨⟨by decide +kernel, by decide +kernel⟩, List.mem_of_getElem? (i := 1177) (by decide +kernel), List.mem_of_getElem? (i := 1424) (by decide +kernel), List.mem_of_getElem? (i := 1425) (by decide +kernel)⟩
theorem lw_p119 : lw_okq (⟨"WarmExtentsModel", "writeDown", "(III)V"⟩, 27) := ⟨⟨by decide +kernel, by decide +kernel⟩, List.mem_of_getElem? (i := 1177) (by decide +kernel), List.mem_of_getElem? (i := 1432) (by decide +kernel), List.mem_of_getElem? (i := 1433) (by decide +kernel)⟩
theorem lw_p120 : lw_okq (⟨"WarmExtentsModel", "addMove", "(I)V"⟩, 27) := ⟨⟨by decide +kernel, by decide +kernel⟩, List.mem_of_getElem? (i := 1177) (by decide +kernel), List.mem_of_getElem? (i := 1444) (by decide +kernel), List.mem_of_getElem? (i := 1445) (by decide +kernel)⟩
theorem lw_p121 : lw_okq (⟨"WarmExtentsModel", "dropMove", "(I)V"⟩, 27) := ⟨⟨by decide +kernel, by decide +kernel⟩, List.mem_of_getElem? (i := 1177) (by decide +kernel), List.mem_of_getElem? (i := 1452) (by decide +kernel), List.mem_of_getElem? (i := 1453) (by decide +kernel)⟩
theorem lw_p122 : lw_okq (⟨"WarmExtentsModel", "ofMove", "(II)I"⟩, 27) := ⟨⟨by decide +kernel, by decide +kernel⟩, List.mem_of_getElem? (i := 1177) (by decide +kernel), List.mem_of_getElem? (i := 1456) (by decide +kernel), List.mem_of_getElem? (i := 1457) (by decide +kernel)⟩
theorem lw_p123 : lw_okq (⟨"WarmExtentsModel", "freeSlots", "(I)V"⟩, 27) := ⟨⟨by decide +kernel, by decide +kernel⟩, List.mem_of_getElem? (i := 1177) (by decide +kernel), List.mem_of_getElem? (i := 1460) (by decide +kernel), List.mem_of_getElem? (i := 1461) (by decide +kernel)⟩
theorem lw_p124 : lw_okq (⟨"WarmExtentsModel", "outMove", "(I)V"⟩, 27) := ⟨⟨by decide +kernel, by decide +kernel⟩, List.mem_of_getElem? (i := 1177) (by decide +kernel), List.mem_of_getElem? (i := 1464) (by decide +kernel), List.mem_of_getElem? (i := 1465) (by decide +kernel)⟩
theorem lw_p125 : lw_okq (⟨"WarmExtentsModel", "ticks", "(I)V"⟩, 27) := ⟨⟨by decide +kernel, by decide +kernel⟩, List.mem_of_getElem? (i := 1177) (by decide +kernel), List.mem_of_getElem? (i := 1472) (by decide +kernel), List.mem_of_getElem? (i := 1473) (by decide +kernel)⟩
theorem lw_p126 : lw_okq (⟨"WarmExtentsModel", "tick", "()V"⟩, 27) := ⟨⟨by decide +kernel, by decide +kernel⟩, List.mem_of_getElem? (i := 1177) (by decide +kernel), List.mem_of_getElem? (i := 1476) (by decide +kernel), List.mem_of_getElem? (i := 1477) (by decide +kernel)⟩
theorem lw_p127 : lw_okq (⟨"WarmExtentsModel", "goMoves", "()V"⟩, 27) := ⟨⟨by decide +kernel, by decide +kernel⟩, List.mem_of_getElem? (i := 1177) (by decide +kernel), List.mem_of_getElem? (i := 1480) (by decide +kernel), List.mem_of_getElem? (i := 1481) (by decide +kernel)⟩
def lw_privs_8 : List (MethodName × Nat) := [(⟨"WarmExtentsModel", "headed", "(I)I"⟩, 27), (⟨"WarmExtentsModel", "headAt", "(I)I"⟩, 27), (⟨"WarmExtentsModel", "outHead", "(I)V"⟩, 27), (⟨"WarmExtentsModel", "slotOf", "(II)I"⟩, 27), (⟨"WarmExtentsModel", "writeNow", "(III)I"⟩, 27), (⟨"WarmExtentsModel", "moveAt", "(I)I"⟩, 27), (⟨"WarmExtentsModel", "scanNow", "(II)I"⟩, 27), (⟨"WarmExtentsModel", "writeDown", "(III)V"⟩, 27), (⟨"WarmExtentsModel", "addMove", "(I)V"⟩, 27), (⟨"WarmExtentsModel", "dropMove", "(I)V"⟩, 27), (⟨"WarmExtentsModel", "ofMove", "(II)I"⟩, 27), (⟨"WarmExtentsModel", "freeSlots", "(I)V"⟩, 27), (⟨"WarmExtentsModel", "outMove", "(I)V"⟩, 27), (⟨"WarmExtentsModel", "ticks", "(I)V"⟩, 27), (⟨"WarmExtentsModel", "tick", "()V"⟩, 27), (⟨"WarmExtentsModel", "goMoves", "()V"⟩, 27)]
theorem lw_r8 : ∀ q ∈ lw_privs_8, lw_okq q := List.forall_mem_cons.mpr ⟨lw_p112, List.forall_mem_cons.mpr ⟨lw_p113, List.forall_mem_cons.mpr ⟨lw_p114, List.forall_mem_cons.mpr ⟨lw_p115, List.forall_mem_cons.mpr ⟨lw_p116, List.forall_mem_cons.mpr ⟨lw_p117, List.forall_mem_cons.mpr ⟨lw_p118, List.forall_mem_cons.mpr ⟨lw_p119, List.forall_mem_cons.mpr ⟨lw_p120, List.forall_mem_cons.mpr ⟨lw_p121, List.forall_mem_cons.mpr ⟨lw_p122, List.forall_mem_cons.mpr ⟨lw_p123, List.forall_mem_cons.mpr ⟨lw_p124, List.forall_mem_cons.mpr ⟨lw_p125, List.forall_mem_cons.mpr ⟨lw_p126, List.forall_mem_cons.mpr ⟨lw_p127, fun _ h => absurd h List.not_mem_nil⟩⟩⟩⟩⟩⟩⟩⟩⟩⟩⟩⟩⟩⟩⟩⟩
theorem lw_p128 : lw_okq (⟨"WarmExtentsModel", "isBegun", "(I)Z"⟩, 27) := ⟨⟨by decide +kernel, by decide +kernel⟩, List.mem_of_getElem? (i := 1177) (by decide +kernel), List.mem_of_getElem? (i := 1484) (by decide +kernel), List.mem_of_getElem? (i := 1485) (by decide +kernel)⟩
theorem lw_p129 : lw_okq (⟨"WarmExtentsModel", "manyFree", "()I"⟩, 27) := ⟨⟨by decide +kernel, by decide +kernel⟩, List.mem_of_getElem? (i := 1177) (by decide +kernel), List.mem_of_getElem? (i := 1488) (by decide +kernel), List.mem_of_getElem? (i := 1489) (by decide +kernel)⟩
theorem lw_p130 : lw_okq (⟨"WarmExtentsModel", "freeFrom", "(I)I"⟩, 27) := ⟨⟨by decide +kernel, by decide +kernel⟩, List.mem_of_getElem? (i := 1177) (by decide +kernel), List.mem_of_getElem? (i := 1492) (by decide +kernel), List.mem_of_getElem? (i := 1493) (by decide +kernel)⟩
theorem lw_p131 : lw_okq (⟨"WarmExtentsModel", "holderOf", "(I)I"⟩, 27) := ⟨⟨by decide +kernel, by decide +kernel⟩, List.mem_of_getElem? (i := 1177) (by decide +kernel), List.mem_of_getElem? (i := 1496) (by decide +kernel), List.mem_of_getElem? (i := 1497) (by decide +kernel)⟩
theorem lw_p132 : lw_okq (⟨"WarmExtentsModel", "toCopy", "(I)I"⟩, 27) := ⟨⟨by decide +kernel, by decide +kernel⟩, List.mem_of_getElem? (i := 1177) (by decide +kernel), List.mem_of_getElem? (i := 1500) (by decide +kernel), List.mem_of_getElem? (i := 1501) (by decide +kernel)⟩
theorem lw_p133 : lw_okq (⟨"WarmExtentsModel", "copyBlock", "(I)V"⟩, 27) := ⟨⟨by decide +kernel, by decide +kernel⟩, List.mem_of_getElem? (i := 1177) (by decide +kernel), List.mem_of_getElem? (i := 1504) (by decide +kernel), List.mem_of_getElem? (i := 1505) (by decide +kernel)⟩
theorem lw_p134 : lw_okq (⟨"WarmExtentsModel", "switchMove", "(I)V"⟩, 27) := ⟨⟨by decide +kernel, by decide +kernel⟩, List.mem_of_getElem? (i := 1177) (by decide +kernel), List.mem_of_getElem? (i := 1511) (by decide +kernel), List.mem_of_getElem? (i := 1512) (by decide +kernel)⟩
theorem lw_p135 : lw_okq (⟨"WarmExtentsModel", "endEpoch", "()V"⟩, 27) := ⟨⟨by decide +kernel, by decide +kernel⟩, List.mem_of_getElem? (i := 1177) (by decide +kernel), List.mem_of_getElem? (i := 1515) (by decide +kernel), List.mem_of_getElem? (i := 1516) (by decide +kernel)⟩
theorem lw_p136 : lw_okq (⟨"WarmExtentsModel", "makePlan", "()V"⟩, 27) := ⟨⟨by decide +kernel, by decide +kernel⟩, List.mem_of_getElem? (i := 1177) (by decide +kernel), List.mem_of_getElem? (i := 1519) (by decide +kernel), List.mem_of_getElem? (i := 1520) (by decide +kernel)⟩
theorem lw_p137 : lw_okq (⟨"WarmExtentsModel", "bestSet", "(I)I"⟩, 27) := ⟨⟨by decide +kernel, by decide +kernel⟩, List.mem_of_getElem? (i := 1177) (by decide +kernel), List.mem_of_getElem? (i := 1523) (by decide +kernel), List.mem_of_getElem? (i := 1524) (by decide +kernel)⟩
theorem lw_p138 : lw_okq (⟨"WarmExtentsModel", "isAllowed", "(II)Z"⟩, 27) := ⟨⟨by decide +kernel, by decide +kernel⟩, List.mem_of_getElem? (i := 1177) (by decide +kernel), List.mem_of_getElem? (i := 1527) (by decide +kernel), List.mem_of_getElem? (i := 1528) (by decide +kernel)⟩
theorem lw_p139 : lw_okq (⟨"WarmExtentsModel", "mayBe", "(IZ)Z"⟩, 27) := ⟨⟨by decide +kernel, by decide +kernel⟩, List.mem_of_getElem? (i := 1177) (by decide +kernel), List.mem_of_getElem? (i := 1531) (by decide +kernel), List.mem_of_getElem? (i := 1532) (by decide +kernel)⟩
theorem lw_p140 : lw_okq (⟨"WarmExtentsModel", "begunOf", "(I)I"⟩, 27) := ⟨⟨by decide +kernel, by decide +kernel⟩, List.mem_of_getElem? (i := 1177) (by decide +kernel), List.mem_of_getElem? (i := 1535) (by decide +kernel), List.mem_of_getElem? (i := 1536) (by decide +kernel)⟩
theorem lw_p141 : lw_okq (⟨"WarmExtentsModel", "copiedFor", "(IZ)I"⟩, 27) := ⟨⟨by decide +kernel, by decide +kernel⟩, List.mem_of_getElem? (i := 1177) (by decide +kernel), List.mem_of_getElem? (i := 1542) (by decide +kernel), List.mem_of_getElem? (i := 1543) (by decide +kernel)⟩
theorem lw_p142 : lw_okq (⟨"WarmExtentsModel", "worthOf", "(I)I"⟩, 27) := ⟨⟨by decide +kernel, by decide +kernel⟩, List.mem_of_getElem? (i := 1177) (by decide +kernel), List.mem_of_getElem? (i := 1546) (by decide +kernel), List.mem_of_getElem? (i := 1547) (by decide +kernel)⟩
theorem lw_p143 : lw_okq (⟨"WarmExtentsModel", "layNew", "(I)I"⟩, 27) := ⟨⟨by decide +kernel, by decide +kernel⟩, List.mem_of_getElem? (i := 1177) (by decide +kernel), List.mem_of_getElem? (i := 1552) (by decide +kernel), List.mem_of_getElem? (i := 1553) (by decide +kernel)⟩
def lw_privs_9 : List (MethodName × Nat) := [(⟨"WarmExtentsModel", "isBegun", "(I)Z"⟩, 27), (⟨"WarmExtentsModel", "manyFree", "()I"⟩, 27), (⟨"WarmExtentsModel", "freeFrom", "(I)I"⟩, 27), (⟨"WarmExtentsModel", "holderOf", "(I)I"⟩, 27), (⟨"WarmExtentsModel", "toCopy", "(I)I"⟩, 27), (⟨"WarmExtentsModel", "copyBlock", "(I)V"⟩, 27), (⟨"WarmExtentsModel", "switchMove", "(I)V"⟩, 27), (⟨"WarmExtentsModel", "endEpoch", "()V"⟩, 27), (⟨"WarmExtentsModel", "makePlan", "()V"⟩, 27), (⟨"WarmExtentsModel", "bestSet", "(I)I"⟩, 27), (⟨"WarmExtentsModel", "isAllowed", "(II)Z"⟩, 27), (⟨"WarmExtentsModel", "mayBe", "(IZ)Z"⟩, 27), (⟨"WarmExtentsModel", "begunOf", "(I)I"⟩, 27), (⟨"WarmExtentsModel", "copiedFor", "(IZ)I"⟩, 27), (⟨"WarmExtentsModel", "worthOf", "(I)I"⟩, 27), (⟨"WarmExtentsModel", "layNew", "(I)I"⟩, 27)]
theorem lw_r9 : ∀ q ∈ lw_privs_9, lw_okq q := List.forall_mem_cons.mpr ⟨lw_p128, List.forall_mem_cons.mpr ⟨lw_p129, List.forall_mem_cons.mpr ⟨lw_p130, List.forall_mem_cons.mpr ⟨lw_p131, List.forall_mem_cons.mpr ⟨lw_p132, List.forall_mem_cons.mpr ⟨lw_p133, List.forall_mem_cons.mpr ⟨lw_p134, List.forall_mem_cons.mpr ⟨lw_p135, List.forall_mem_cons.mpr ⟨lw_p136, List.forall_mem_cons.mpr ⟨lw_p137, List.forall_mem_cons.mpr ⟨lw_p138, List.forall_mem_cons.mpr ⟨lw_p139, List.forall_mem_cons.mpr ⟨lw_p140, List.forall_mem_cons.mpr ⟨lw_p141, List.forall_mem_cons.mpr ⟨lw_p142, List.forall_mem_cons.mpr ⟨lw_p143, fun _ h => absurd h List.not_mem_nil⟩⟩⟩⟩⟩⟩⟩⟩⟩⟩⟩⟩⟩⟩⟩⟩
theorem lw_p144 : lw_okq (⟨"WarmExtentsModel", "crashNow", "()I"⟩, 27) := ⟨⟨by decide +kernel, by decide +kernel⟩, List.mem_of_getElem? (i := 1177) (by decide +kernel), List.mem_of_getElem? (i := 1560) (by decide +kernel), List.mem_of_getElem? (i := 1561) (by decide +kernel)⟩
theorem lw_p145 : lw_okq (⟨"WarmExtentsModel", "goText", "(I)I"⟩, 27) := ⟨⟨by decide +kernel, by decide +kernel⟩, List.mem_of_getElem? (i := 1177) (by decide +kernel), List.mem_of_getElem? (i := 1568) (by decide +kernel), List.mem_of_getElem? (i := 1569) (by decide +kernel)⟩
theorem lw_p146 : lw_okq (⟨"WarmExtentsModel", "tokenAt", "(I)I"⟩, 27) := ⟨⟨by decide +kernel, by decide +kernel⟩, List.mem_of_getElem? (i := 1177) (by decide +kernel), List.mem_of_getElem? (i := 1572) (by decide +kernel), List.mem_of_getElem? (i := 1573) (by decide +kernel)⟩
theorem lw_p147 : lw_okq (⟨"WarmExtentsModel", "isOver", "()Z"⟩, 27) := ⟨⟨by decide +kernel, by decide +kernel⟩, List.mem_of_getElem? (i := 1177) (by decide +kernel), List.mem_of_getElem? (i := 1576) (by decide +kernel), List.mem_of_getElem? (i := 1577) (by decide +kernel)⟩
theorem lw_p148 : lw_okq (⟨"WarmExtentsModel", "goStatement", "()V"⟩, 27) := ⟨⟨by decide +kernel, by decide +kernel⟩, List.mem_of_getElem? (i := 1177) (by decide +kernel), List.mem_of_getElem? (i := 1580) (by decide +kernel), List.mem_of_getElem? (i := 1581) (by decide +kernel)⟩
theorem lw_p149 : lw_okq (⟨"WarmExtentsModel", "goAround", "()V"⟩, 27) := ⟨⟨by decide +kernel, by decide +kernel⟩, List.mem_of_getElem? (i := 1177) (by decide +kernel), List.mem_of_getElem? (i := 1584) (by decide +kernel), List.mem_of_getElem? (i := 1585) (by decide +kernel)⟩
theorem lw_p150 : lw_okq (⟨"WarmExtentsModel", "numberAt", "(I)I"⟩, 27) := ⟨⟨by decide +kernel, by decide +kernel⟩, List.mem_of_getElem? (i := 1177) (by decide +kernel), List.mem_of_getElem? (i := 1588) (by decide +kernel), List.mem_of_getElem? (i := 1589) (by decide +kernel)⟩
theorem lw_p151 : lw_okq (⟨"WarmExtentsModel", "goInto", "(I)V"⟩, 27) := ⟨⟨by decide +kernel, by decide +kernel⟩, List.mem_of_getElem? (i := 1177) (by decide +kernel), List.mem_of_getElem? (i := 1592) (by decide +kernel), List.mem_of_getElem? (i := 1593) (by decide +kernel)⟩
theorem lw_p152 : lw_okq (⟨"WarmExtentsModel", "goChoice", "()V"⟩, 27) := ⟨⟨by decide +kernel, by decide +kernel⟩, List.mem_of_getElem? (i := 1177) (by decide +kernel), List.mem_of_getElem? (i := 1596) (by decide +kernel), List.mem_of_getElem? (i := 1597) (by decide +kernel)⟩
theorem lw_p153 : lw_okq (⟨"WarmExtentsModel", "goSum", "()I"⟩, 27) := ⟨⟨by decide +kernel, by decide +kernel⟩, List.mem_of_getElem? (i := 1177) (by decide +kernel), List.mem_of_getElem? (i := 1600) (by decide +kernel), List.mem_of_getElem? (i := 1601) (by decide +kernel)⟩
theorem lw_p154 : lw_okq (⟨"WarmExtentsModel", "goProduct", "()I"⟩, 27) := ⟨⟨by decide +kernel, by decide +kernel⟩, List.mem_of_getElem? (i := 1177) (by decide +kernel), List.mem_of_getElem? (i := 1604) (by decide +kernel), List.mem_of_getElem? (i := 1605) (by decide +kernel)⟩
theorem lw_p155 : lw_okq (⟨"WarmExtentsModel", "goOne", "()I"⟩, 27) := ⟨⟨by decide +kernel, by decide +kernel⟩, List.mem_of_getElem? (i := 1177) (by decide +kernel), List.mem_of_getElem? (i := 1608) (by decide +kernel), List.mem_of_getElem? (i := 1609) (by decide +kernel)⟩
theorem lw_p156 : lw_okq (⟨"WarmExtentsModel", "passBlock", "()V"⟩, 27) := ⟨⟨by decide +kernel, by decide +kernel⟩, List.mem_of_getElem? (i := 1177) (by decide +kernel), List.mem_of_getElem? (i := 1612) (by decide +kernel), List.mem_of_getElem? (i := 1613) (by decide +kernel)⟩
theorem lw_p157 : lw_okq (⟨"WarmExtentsModel", "goAct", "(I)V"⟩, 27) := ⟨⟨by decide +kernel, by decide +kernel⟩, List.mem_of_getElem? (i := 1177) (by decide +kernel), List.mem_of_getElem? (i := 1616) (by decide +kernel), List.mem_of_getElem? (i := 1617) (by decide +kernel)⟩
theorem lw_p158 : lw_okq (⟨"WarmExtentsModel", "goScan", "(II)V"⟩, 27) := ⟨⟨by decide +kernel, by decide +kernel⟩, List.mem_of_getElem? (i := 1177) (by decide +kernel), List.mem_of_getElem? (i := 1620) (by decide +kernel), List.mem_of_getElem? (i := 1621) (by decide +kernel)⟩
theorem lw_p159 : lw_okq (⟨"WarmExtentsModel", "drawn", "()I"⟩, 27) := ⟨⟨by decide +kernel, by decide +kernel⟩, List.mem_of_getElem? (i := 1177) (by decide +kernel), List.mem_of_getElem? (i := 1628) (by decide +kernel), List.mem_of_getElem? (i := 1629) (by decide +kernel)⟩
def lw_privs_10 : List (MethodName × Nat) := [(⟨"WarmExtentsModel", "crashNow", "()I"⟩, 27), (⟨"WarmExtentsModel", "goText", "(I)I"⟩, 27), (⟨"WarmExtentsModel", "tokenAt", "(I)I"⟩, 27), (⟨"WarmExtentsModel", "isOver", "()Z"⟩, 27), (⟨"WarmExtentsModel", "goStatement", "()V"⟩, 27), (⟨"WarmExtentsModel", "goAround", "()V"⟩, 27), (⟨"WarmExtentsModel", "numberAt", "(I)I"⟩, 27), (⟨"WarmExtentsModel", "goInto", "(I)V"⟩, 27), (⟨"WarmExtentsModel", "goChoice", "()V"⟩, 27), (⟨"WarmExtentsModel", "goSum", "()I"⟩, 27), (⟨"WarmExtentsModel", "goProduct", "()I"⟩, 27), (⟨"WarmExtentsModel", "goOne", "()I"⟩, 27), (⟨"WarmExtentsModel", "passBlock", "()V"⟩, 27), (⟨"WarmExtentsModel", "goAct", "(I)V"⟩, 27), (⟨"WarmExtentsModel", "goScan", "(II)V"⟩, 27), (⟨"WarmExtentsModel", "drawn", "()I"⟩, 27)]
theorem lw_r10 : ∀ q ∈ lw_privs_10, lw_okq q := List.forall_mem_cons.mpr ⟨lw_p144, List.forall_mem_cons.mpr ⟨lw_p145, List.forall_mem_cons.mpr ⟨lw_p146, List.forall_mem_cons.mpr ⟨lw_p147, List.forall_mem_cons.mpr ⟨lw_p148, List.forall_mem_cons.mpr ⟨lw_p149, List.forall_mem_cons.mpr ⟨lw_p150, List.forall_mem_cons.mpr ⟨lw_p151, List.forall_mem_cons.mpr ⟨lw_p152, List.forall_mem_cons.mpr ⟨lw_p153, List.forall_mem_cons.mpr ⟨lw_p154, List.forall_mem_cons.mpr ⟨lw_p155, List.forall_mem_cons.mpr ⟨lw_p156, List.forall_mem_cons.mpr ⟨lw_p157, List.forall_mem_cons.mpr ⟨lw_p158, List.forall_mem_cons.mpr ⟨lw_p159, fun _ h => absurd h List.not_mem_nil⟩⟩⟩⟩⟩⟩⟩⟩⟩⟩⟩⟩⟩⟩⟩⟩
theorem lw_p160 : lw_okq (⟨"WarmExtentsModel", "happens", "(I)V"⟩, 27) := ⟨⟨by decide +kernel, by decide +kernel⟩, List.mem_of_getElem? (i := 1177) (by decide +kernel), List.mem_of_getElem? (i := 1635) (by decide +kernel), List.mem_of_getElem? (i := 1636) (by decide +kernel)⟩
theorem lw_p161 : lw_okq (⟨"WarmExtentsModel", "layBests", "(I)V"⟩, 27) := ⟨⟨by decide +kernel, by decide +kernel⟩, List.mem_of_getElem? (i := 1177) (by decide +kernel), List.mem_of_getElem? (i := 1720) (by decide +kernel), List.mem_of_getElem? (i := 1721) (by decide +kernel)⟩
theorem lw_p162 : lw_okq (⟨"WarmExtentsModel", "shareOf", "(II)I"⟩, 27) := ⟨⟨by decide +kernel, by decide +kernel⟩, List.mem_of_getElem? (i := 1177) (by decide +kernel), List.mem_of_getElem? (i := 1724) (by decide +kernel), List.mem_of_getElem? (i := 1725) (by decide +kernel)⟩
theorem lw_p163 : lw_okq (⟨"WarmExtentsModel", "isInWith", "(II)Z"⟩, 27) := ⟨⟨by decide +kernel, by decide +kernel⟩, List.mem_of_getElem? (i := 1177) (by decide +kernel), List.mem_of_getElem? (i := 1728) (by decide +kernel), List.mem_of_getElem? (i := 1729) (by decide +kernel)⟩
theorem lw_p164 : lw_okq (⟨"WarmExtentsModel", "putAside", "()V"⟩, 27) := ⟨⟨by decide +kernel, by decide +kernel⟩, List.mem_of_getElem? (i := 1177) (by decide +kernel), List.mem_of_getElem? (i := 1745) (by decide +kernel), List.mem_of_getElem? (i := 1746) (by decide +kernel)⟩
theorem lw_p165 : lw_okq (⟨"WarmExtentsModel", "bringBack", "()V"⟩, 27) := ⟨⟨by decide +kernel, by decide +kernel⟩, List.mem_of_getElem? (i := 1177) (by decide +kernel), List.mem_of_getElem? (i := 1749) (by decide +kernel), List.mem_of_getElem? (i := 1750) (by decide +kernel)⟩
theorem lw_p166 : lw_okq (⟨"WarmExtentsModel", "isHotter", "(II)Z"⟩, 27) := ⟨⟨by decide +kernel, by decide +kernel⟩, List.mem_of_getElem? (i := 1177) (by decide +kernel), List.mem_of_getElem? (i := 1770) (by decide +kernel), List.mem_of_getElem? (i := 1771) (by decide +kernel)⟩
def lw_privs_11 : List (MethodName × Nat) := [(⟨"WarmExtentsModel", "happens", "(I)V"⟩, 27), (⟨"WarmExtentsModel", "layBests", "(I)V"⟩, 27), (⟨"WarmExtentsModel", "shareOf", "(II)I"⟩, 27), (⟨"WarmExtentsModel", "isInWith", "(II)Z"⟩, 27), (⟨"WarmExtentsModel", "putAside", "()V"⟩, 27), (⟨"WarmExtentsModel", "bringBack", "()V"⟩, 27), (⟨"WarmExtentsModel", "isHotter", "(II)Z"⟩, 27)]
theorem lw_r11 : ∀ q ∈ lw_privs_11, lw_okq q := List.forall_mem_cons.mpr ⟨lw_p160, List.forall_mem_cons.mpr ⟨lw_p161, List.forall_mem_cons.mpr ⟨lw_p162, List.forall_mem_cons.mpr ⟨lw_p163, List.forall_mem_cons.mpr ⟨lw_p164, List.forall_mem_cons.mpr ⟨lw_p165, List.forall_mem_cons.mpr ⟨lw_p166, fun _ h => absurd h List.not_mem_nil⟩⟩⟩⟩⟩⟩⟩
def lw_privs : List (MethodName × Nat) := lw_privs_1 ++ (lw_privs_2 ++ (lw_privs_3 ++ (lw_privs_4 ++ (lw_privs_5 ++ (lw_privs_6 ++ (lw_privs_7 ++ (lw_privs_8 ++ (lw_privs_9 ++ (lw_privs_10 ++ (lw_privs_11))))))))))
def lw_tbl : List Cond := k2_sels lw_privs ++ tables_1
theorem lw_privs_ok : ∀ q ∈ lw_privs, lw_okq q := by
  show ∀ q ∈ lw_privs_1 ++ (lw_privs_2 ++ (lw_privs_3 ++ (lw_privs_4 ++ (lw_privs_5 ++ (lw_privs_6 ++ (lw_privs_7 ++ (lw_privs_8 ++ (lw_privs_9 ++ (lw_privs_10 ++ (lw_privs_11)))))))))), lw_okq q
  exact List.forall_mem_append.mpr ⟨lw_r1, List.forall_mem_append.mpr ⟨lw_r2, List.forall_mem_append.mpr ⟨lw_r3, List.forall_mem_append.mpr ⟨lw_r4, List.forall_mem_append.mpr ⟨lw_r5, List.forall_mem_append.mpr ⟨lw_r6, List.forall_mem_append.mpr ⟨lw_r7, List.forall_mem_append.mpr ⟨lw_r8, List.forall_mem_append.mpr ⟨lw_r9, List.forall_mem_append.mpr ⟨lw_r10, lw_r11⟩⟩⟩⟩⟩⟩⟩⟩⟩⟩
/-- the streams that the claim lets the run draw from -/
abbrev lw_cs : List Choice := [Jvm.Choice.named "NaN.bits"]
theorem lw_bits : nanBits ∈ lw_cs := by first | decide | exact List.mem_cons_self | simp [lw_cs, nanBits]

def RX0 : String := "WarmExtents$Book"
def TX0 : u_T := fun k => match k with
  | 0 => ("WarmExtents$Book", "many", "I", false)
  | _ => ("WarmExtents$Book", "cells", "[I", true)
def tyX0 : Nat → FieldType := fun k => match k with
  | 0 => .int
  | _ => .array .int
abbrev wsX00 : List Cond := u_ws RX0 TX0 2
theorem nmX0 : ∀ a, a < 2 → ∀ b, b < 2 → a ≠ b → (TX0 a).2.1 ≠ (TX0 b).2.1 := by decide +kernel
theorem tyX0_ok : ∀ k, k < 2 → parseFieldDescriptor (TX0 k).2.2.1 = some (tyX0 k) := by decide +kernel
abbrev cX0_init : ByteArray := prog_2_method_1_code
def yX0_init : MethodName := ⟨RX0, "<init>", "()V"⟩
abbrev cX0_copyFrom : ByteArray := prog_2_method_2_code
def yX0_copyFrom : MethodName := ⟨RX0, "copyFrom", "(LWarmExtents$Book;)V"⟩
abbrev cX0_add : ByteArray := prog_2_method_3_code
def yX0_add : MethodName := ⟨RX0, "add", "(IIII)V"⟩
abbrev cX0_detail : ByteArray := prog_2_method_4_code
def yX0_detail : MethodName := ⟨RX0, "detail", "(II)I"⟩
abbrev cX0_linesOf : ByteArray := prog_2_method_5_code
def yX0_linesOf : MethodName := ⟨RX0, "linesOf", "(I)I"⟩
def RX1 : String := "WarmExtents$Disks"
def TX1 : u_T := fun k => match k with
  | 0 => ("WarmExtents$Disks", "slowValue", "[I", true)
  | 1 => ("WarmExtents$Disks", "fastValue", "[I", true)
  | 2 => ("WarmExtents$Disks", "slotOf", "[I", true)
  | _ => ("WarmExtents$Disks", "holderOf", "[I", true)
def tyX1 : Nat → FieldType := fun k => match k with
  | 0 => .array .int
  | 1 => .array .int
  | 2 => .array .int
  | _ => .array .int
abbrev wsX10 : List Cond := u_ws RX1 TX1 4
theorem nmX1 : ∀ a, a < 4 → ∀ b, b < 4 → a ≠ b → (TX1 a).2.1 ≠ (TX1 b).2.1 := by decide +kernel
theorem tyX1_ok : ∀ k, k < 4 → parseFieldDescriptor (TX1 k).2.2.1 = some (tyX1 k) := by decide +kernel
abbrev cX1_init : ByteArray := prog_3_method_1_code
def yX1_init : MethodName := ⟨RX1, "<init>", "()V"⟩
abbrev cX1_copyFrom : ByteArray := prog_3_method_2_code
def yX1_copyFrom : MethodName := ⟨RX1, "copyFrom", "(LWarmExtents$Disks;)V"⟩
abbrev cX1_lowestFree : ByteArray := prog_3_method_3_code
def yX1_lowestFree : MethodName := ⟨RX1, "lowestFree", "(I)I"⟩
abbrev cX1_freeSlots : ByteArray := prog_3_method_4_code
def yX1_freeSlots : MethodName := ⟨RX1, "freeSlots", "()I"⟩
abbrev cX1_takeSlots : ByteArray := prog_3_method_5_code
def yX1_takeSlots : MethodName := ⟨RX1, "takeSlots", "(I)V"⟩
abbrev cX1_leaveSlots : ByteArray := prog_3_method_6_code
def yX1_leaveSlots : MethodName := ⟨RX1, "leaveSlots", "(I)V"⟩
abbrev cX1_fastAt : ByteArray := prog_3_method_7_code
def yX1_fastAt : MethodName := ⟨RX1, "fastAt", "(I)I"⟩
abbrev cX1_putFast : ByteArray := prog_3_method_8_code
def yX1_putFast : MethodName := ⟨RX1, "putFast", "(II)V"⟩
def RX2 : String := "WarmExtents$Extents"
def TX2 : u_T := fun k => match k with
  | 0 => ("WarmExtents$Extents", "fast", "[I", true)
  | 1 => ("WarmExtents$Extents", "pinned", "[I", true)
  | 2 => ("WarmExtents$Extents", "rest", "[I", true)
  | 3 => ("WarmExtents$Extents", "dirty", "[I", true)
  | 4 => ("WarmExtents$Extents", "switched", "[I", true)
  | 5 => ("WarmExtents$Extents", "earned", "[I", true)
  | 6 => ("WarmExtents$Extents", "heat", "[I", true)
  | 7 => ("WarmExtents$Extents", "seen", "[I", true)
  | 8 => ("WarmExtents$Extents", "plain", "[I", true)
  | 9 => ("WarmExtents$Extents", "streamed", "[I", true)
  | 10 => ("WarmExtents$Extents", "savedHeat", "[I", true)
  | _ => ("WarmExtents$Extents", "savedSeen", "[I", true)
def tyX2 : Nat → FieldType := fun k => match k with
  | 0 => .array .int
  | 1 => .array .int
  | 2 => .array .int
  | 3 => .array .int
  | 4 => .array .int
  | 5 => .array .int
  | 6 => .array .int
  | 7 => .array .int
  | 8 => .array .int
  | 9 => .array .int
  | 10 => .array .int
  | _ => .array .int
abbrev wsX20 : List Cond := u_ws RX2 TX2 12
theorem nmX2 : ∀ a, a < 12 → ∀ b, b < 12 → a ≠ b → (TX2 a).2.1 ≠ (TX2 b).2.1 := by decide +kernel
theorem tyX2_ok : ∀ k, k < 12 → parseFieldDescriptor (TX2 k).2.2.1 = some (tyX2 k) := by decide +kernel
abbrev cX2_init : ByteArray := prog_4_method_1_code
def yX2_init : MethodName := ⟨RX2, "<init>", "()V"⟩
abbrev cX2_copyFrom : ByteArray := prog_4_method_2_code
def yX2_copyFrom : MethodName := ⟨RX2, "copyFrom", "(LWarmExtents$Extents;)V"⟩
abbrev cX2_warm : ByteArray := prog_4_method_3_code
def yX2_warm : MethodName := ⟨RX2, "warm", "(II)V"⟩
abbrev cX2_age : ByteArray := prog_4_method_4_code
def yX2_age : MethodName := ⟨RX2, "age", "()V"⟩
abbrev cX2_forget : ByteArray := prog_4_method_5_code
def yX2_forget : MethodName := ⟨RX2, "forget", "()V"⟩
abbrev cX2_hotter : ByteArray := prog_4_method_6_code
def yX2_hotter : MethodName := ⟨RX2, "hotter", "(II)Z"⟩
abbrev cX2_hotterThan : ByteArray := prog_4_method_7_code
def yX2_hotterThan : MethodName := ⟨RX2, "hotterThan", "(I)I"⟩
abbrev cX2_detail : ByteArray := prog_4_method_8_code
def yX2_detail : MethodName := ⟨RX2, "detail", "(II)I"⟩
abbrev cX2_allBlocks : ByteArray := prog_4_method_9_code
def yX2_allBlocks : MethodName := ⟨RX2, "allBlocks", "(I)I"⟩
def RX3 : String := "WarmExtents$Heads"
def TX3 : u_T := fun k => match k with
  | 0 => ("WarmExtents$Heads", "many", "I", false)
  | 1 => ("WarmExtents$Heads", "awaited", "[I", true)
  | _ => ("WarmExtents$Heads", "length", "[I", true)
def tyX3 : Nat → FieldType := fun k => match k with
  | 0 => .int
  | 1 => .array .int
  | _ => .array .int
abbrev wsX30 : List Cond := u_ws RX3 TX3 3
theorem nmX3 : ∀ a, a < 3 → ∀ b, b < 3 → a ≠ b → (TX3 a).2.1 ≠ (TX3 b).2.1 := by decide +kernel
theorem tyX3_ok : ∀ k, k < 3 → parseFieldDescriptor (TX3 k).2.2.1 = some (tyX3 k) := by decide +kernel
abbrev cX3_init : ByteArray := prog_5_method_1_code
def yX3_init : MethodName := ⟨RX3, "<init>", "()V"⟩
abbrev cX3_copyFrom : ByteArray := prog_5_method_2_code
def yX3_copyFrom : MethodName := ⟨RX3, "copyFrom", "(LWarmExtents$Heads;)V"⟩
abbrev cX3_advance : ByteArray := prog_5_method_3_code
def yX3_advance : MethodName := ⟨RX3, "advance", "(I)I"⟩
abbrev cX3_detail : ByteArray := prog_5_method_4_code
def yX3_detail : MethodName := ⟨RX3, "detail", "(II)I"⟩
def RX4 : String := "WarmExtents$History"
def TX4 : u_T := fun k => match k with
  | 0 => ("WarmExtents$History", "rows", "[LWarmExtents$World;", true)
  | 1 => ("WarmExtents$History", "first", "I", false)
  | _ => ("WarmExtents$History", "many", "I", false)
def tyX4 : Nat → FieldType := fun k => match k with
  | 0 => .array (.object "WarmExtents$World")
  | 1 => .int
  | _ => .int
abbrev wsX40 : List Cond := u_ws RX4 TX4 3
theorem nmX4 : ∀ a, a < 3 → ∀ b, b < 3 → a ≠ b → (TX4 a).2.1 ≠ (TX4 b).2.1 := by decide +kernel
theorem tyX4_ok : ∀ k, k < 3 → parseFieldDescriptor (TX4 k).2.2.1 = some (tyX4 k) := by decide +kernel
abbrev cX4_init : ByteArray := prog_6_method_1_code
def yX4_init : MethodName := ⟨RX4, "<init>", "()V"⟩
abbrev cX4_copyFrom : ByteArray := prog_6_method_2_code
def yX4_copyFrom : MethodName := ⟨RX4, "copyFrom", "(LWarmExtents$History;)V"⟩
abbrev cX4_push : ByteArray := prog_6_method_3_code
def yX4_push : MethodName := ⟨RX4, "push", "(LWarmExtents$World;)V"⟩
abbrev cX4_pop : ByteArray := prog_6_method_4_code
def yX4_pop : MethodName := ⟨RX4, "pop", "(LWarmExtents$World;)Z"⟩
def RX5 : String := "WarmExtents$Moves"
def TX5 : u_T := fun k => match k with
  | 0 => ("WarmExtents$Moves", "many", "I", false)
  | 1 => ("WarmExtents$Moves", "extent", "[I", true)
  | 2 => ("WarmExtents$Moves", "toFast", "[I", true)
  | 3 => ("WarmExtents$Moves", "begun", "[I", true)
  | _ => ("WarmExtents$Moves", "copied", "[I", true)
def tyX5 : Nat → FieldType := fun k => match k with
  | 0 => .int
  | 1 => .array .int
  | 2 => .array .int
  | 3 => .array .int
  | _ => .array .int
abbrev wsX50 : List Cond := u_ws RX5 TX5 5
theorem nmX5 : ∀ a, a < 5 → ∀ b, b < 5 → a ≠ b → (TX5 a).2.1 ≠ (TX5 b).2.1 := by decide +kernel
theorem tyX5_ok : ∀ k, k < 5 → parseFieldDescriptor (TX5 k).2.2.1 = some (tyX5 k) := by decide +kernel
abbrev cX5_init : ByteArray := prog_7_method_1_code
def yX5_init : MethodName := ⟨RX5, "<init>", "()V"⟩
abbrev cX5_copyFrom : ByteArray := prog_7_method_2_code
def yX5_copyFrom : MethodName := ⟨RX5, "copyFrom", "(LWarmExtents$Moves;)V"⟩
abbrev cX5_find : ByteArray := prog_7_method_3_code
def yX5_find : MethodName := ⟨RX5, "find", "(I)I"⟩
abbrev cX5_add : ByteArray := prog_7_method_4_code
def yX5_add : MethodName := ⟨RX5, "add", "(II)V"⟩
abbrev cX5_remove : ByteArray := prog_7_method_5_code
def yX5_remove : MethodName := ⟨RX5, "remove", "(I)V"⟩
abbrev cX5_holdsSlots : ByteArray := prog_7_method_6_code
def yX5_holdsSlots : MethodName := ⟨RX5, "holdsSlots", "(I)Z"⟩
abbrev cX5_detail : ByteArray := prog_7_method_7_code
def yX5_detail : MethodName := ⟨RX5, "detail", "(II)I"⟩
def RX6 : String := "WarmExtents$Planner"
def TX6 : u_T := fun k => match k with
  | 0 => ("WarmExtents$Planner", "mayBeIn", "[Z", true)
  | 1 => ("WarmExtents$Planner", "mayBeOut", "[Z", true)
  | 2 => ("WarmExtents$Planner", "bound", "[Z", true)
  | 3 => ("WarmExtents$Planner", "worthIn", "[I", true)
  | 4 => ("WarmExtents$Planner", "worthOut", "[I", true)
  | 5 => ("WarmExtents$Planner", "needIn", "[I", true)
  | 6 => ("WarmExtents$Planner", "needOut", "[I", true)
  | 7 => ("WarmExtents$Planner", "room", "I", false)
  | 8 => ("WarmExtents$Planner", "found", "Z", false)
  | 9 => ("WarmExtents$Planner", "bestSet", "I", false)
  | 10 => ("WarmExtents$Planner", "bestWorth", "I", false)
  | 11 => ("WarmExtents$Planner", "newMoves", "[I", true)
  | _ => ("WarmExtents$Planner", "newMany", "I", false)
def tyX6 : Nat → FieldType := fun k => match k with
  | 0 => .array .boolean
  | 1 => .array .boolean
  | 2 => .array .boolean
  | 3 => .array .int
  | 4 => .array .int
  | 5 => .array .int
  | 6 => .array .int
  | 7 => .int
  | 8 => .boolean
  | 9 => .int
  | 10 => .int
  | 11 => .array .int
  | _ => .int
abbrev wsX60 : List Cond := u_ws RX6 TX6 13
theorem nmX6 : ∀ a, a < 13 → ∀ b, b < 13 → a ≠ b → (TX6 a).2.1 ≠ (TX6 b).2.1 := by decide +kernel
theorem tyX6_ok : ∀ k, k < 13 → parseFieldDescriptor (TX6 k).2.2.1 = some (tyX6 k) := by decide +kernel
abbrev cX6_init : ByteArray := prog_8_method_1_code
def yX6_init : MethodName := ⟨RX6, "<init>", "()V"⟩
abbrev cX6_makeFor : ByteArray := prog_8_method_2_code
def yX6_makeFor : MethodName := ⟨RX6, "makeFor", "(LWarmExtents$World;I)V"⟩
abbrev cX6_weigh : ByteArray := prog_8_method_3_code
def yX6_weigh : MethodName := ⟨RX6, "weigh", "(LWarmExtents$World;I)V"⟩
abbrev cX6_bind : ByteArray := prog_8_method_4_code
def yX6_bind : MethodName := ⟨RX6, "bind", "(LWarmExtents$Moves;)V"⟩
abbrev cX6_isWanted : ByteArray := prog_8_method_5_code
def yX6_isWanted : MethodName := ⟨RX6, "isWanted", "(LWarmExtents$Extents;I)Z"⟩
abbrev cX6_heatWorth : ByteArray := prog_8_method_6_code
def yX6_heatWorth : MethodName := ⟨RX6, "heatWorth", "(IZ)I"⟩
abbrev cX6_pinWorth : ByteArray := prog_8_method_7_code
def yX6_pinWorth : MethodName := ⟨RX6, "pinWorth", "(I)I"⟩
abbrev cX6_force : ByteArray := prog_8_method_8_code
def yX6_force : MethodName := ⟨RX6, "force", "(IZ)V"⟩
abbrev cX6_choose : ByteArray := prog_8_method_9_code
def yX6_choose : MethodName := ⟨RX6, "choose", "()Z"⟩
abbrev cX6_search : ByteArray := prog_8_method_10_code
def yX6_search : MethodName := ⟨RX6, "search", "(LWarmExtents$Planner;IIIII)V"⟩
abbrev cX6_isIn : ByteArray := prog_8_method_11_code
def yX6_isIn : MethodName := ⟨RX6, "isIn", "(II)Z"⟩
abbrev cX6_allows : ByteArray := prog_8_method_12_code
def yX6_allows : MethodName := ⟨RX6, "allows", "(I)Z"⟩
abbrev cX6_needOf : ByteArray := prog_8_method_13_code
def yX6_needOf : MethodName := ⟨RX6, "needOf", "(I)I"⟩
abbrev cX6_worthOf : ByteArray := prog_8_method_14_code
def yX6_worthOf : MethodName := ⟨RX6, "worthOf", "(I)I"⟩
abbrev cX6_listMoves : ByteArray := prog_8_method_15_code
def yX6_listMoves : MethodName := ⟨RX6, "listMoves", "(LWarmExtents$Extents;)V"⟩
abbrev cX6_leastHeat : ByteArray := prog_8_method_16_code
def yX6_leastHeat : MethodName := ⟨RX6, "leastHeat", "(LWarmExtents$World;I)I"⟩
abbrev cX6_leastHeatOfWorth : ByteArray := prog_8_method_17_code
def yX6_leastHeatOfWorth : MethodName := ⟨RX6, "leastHeatOfWorth", "(IZ)I"⟩
def RX7 : String := "WarmExtents$Player"
def TX7 : u_T := fun k => match k with
  | 0 => ("WarmExtents$Player", "script", "LWarmExtents$Text;", false)
  | 1 => ("WarmExtents$Player", "world", "LWarmExtents$World;", false)
  | 2 => ("WarmExtents$Player", "planner", "LWarmExtents$Planner;", false)
  | 3 => ("WarmExtents$Player", "at", "I", false)
  | 4 => ("WarmExtents$Player", "acts", "I", false)
  | 5 => ("WarmExtents$Player", "depth", "I", false)
  | 6 => ("WarmExtents$Player", "rounds", "[I", true)
  | _ => ("WarmExtents$Player", "times", "[I", true)
def tyX7 : Nat → FieldType := fun k => match k with
  | 0 => .object "WarmExtents$Text"
  | 1 => .object "WarmExtents$World"
  | 2 => .object "WarmExtents$Planner"
  | 3 => .int
  | 4 => .int
  | 5 => .int
  | 6 => .array .int
  | _ => .array .int
abbrev wsX70 : List Cond := u_ws RX7 TX7 8
theorem nmX7 : ∀ a, a < 8 → ∀ b, b < 8 → a ≠ b → (TX7 a).2.1 ≠ (TX7 b).2.1 := by decide +kernel
theorem tyX7_ok : ∀ k, k < 8 → parseFieldDescriptor (TX7 k).2.2.1 = some (tyX7 k) := by decide +kernel
abbrev cX7_init : ByteArray := prog_9_method_1_code
def yX7_init : MethodName := ⟨RX7, "<init>", "()V"⟩
abbrev cX7_play : ByteArray := prog_9_method_2_code
def yX7_play : MethodName := ⟨RX7, "play", "(LWarmExtents$Text;LWarmExtents$World;LWarmExtents$Planner;)I"⟩
abbrev cX7_statement : ByteArray := prog_9_method_3_code
def yX7_statement : MethodName := ⟨RX7, "statement", "()V"⟩
abbrev cX7_readOne : ByteArray := prog_9_method_4_code
def yX7_readOne : MethodName := ⟨RX7, "readOne", "()V"⟩
abbrev cX7_writeOne : ByteArray := prog_9_method_5_code
def yX7_writeOne : MethodName := ⟨RX7, "writeOne", "()V"⟩
abbrev cX7_scanSome : ByteArray := prog_9_method_6_code
def yX7_scanSome : MethodName := ⟨RX7, "scanSome", "()V"⟩
abbrev cX7_enter : ByteArray := prog_9_method_7_code
def yX7_enter : MethodName := ⟨RX7, "enter", "(I)V"⟩
abbrev cX7_enterIf : ByteArray := prog_9_method_8_code
def yX7_enterIf : MethodName := ⟨RX7, "enterIf", "()V"⟩
abbrev cX7_leave : ByteArray := prog_9_method_9_code
def yX7_leave : MethodName := ⟨RX7, "leave", "()V"⟩
abbrev cX7_sum : ByteArray := prog_9_method_10_code
def yX7_sum : MethodName := ⟨RX7, "sum", "()I"⟩
abbrev cX7_product : ByteArray := prog_9_method_11_code
def yX7_product : MethodName := ⟨RX7, "product", "()I"⟩
abbrev cX7_factor : ByteArray := prog_9_method_12_code
def yX7_factor : MethodName := ⟨RX7, "factor", "()I"⟩
def RX8 : String := "WarmExtents$Reader"
def TX8 : u_T := fun k => match k with
  | 0 => ("WarmExtents$Reader", "tape", "[I", true)
  | 1 => ("WarmExtents$Reader", "length", "I", false)
  | 2 => ("WarmExtents$Reader", "fault", "I", false)
  | 3 => ("WarmExtents$Reader", "faultPlace", "I", false)
  | 4 => ("WarmExtents$Reader", "kinds", "[I", true)
  | 5 => ("WarmExtents$Reader", "values", "[I", true)
  | 6 => ("WarmExtents$Reader", "places", "[I", true)
  | 7 => ("WarmExtents$Reader", "many", "I", false)
  | 8 => ("WarmExtents$Reader", "at", "I", false)
  | 9 => ("WarmExtents$Reader", "statements", "I", false)
  | 10 => ("WarmExtents$Reader", "depth", "I", false)
  | 11 => ("WarmExtents$Reader", "openedAt", "[I", true)
  | 12 => ("WarmExtents$Reader", "loops", "I", false)
  | _ => ("WarmExtents$Reader", "loopDepth", "[I", true)
def tyX8 : Nat → FieldType := fun k => match k with
  | 0 => .array .int
  | 1 => .int
  | 2 => .int
  | 3 => .int
  | 4 => .array .int
  | 5 => .array .int
  | 6 => .array .int
  | 7 => .int
  | 8 => .int
  | 9 => .int
  | 10 => .int
  | 11 => .array .int
  | 12 => .int
  | _ => .array .int
abbrev wsX80 : List Cond := u_ws RX8 TX8 14
theorem nmX8 : ∀ a, a < 14 → ∀ b, b < 14 → a ≠ b → (TX8 a).2.1 ≠ (TX8 b).2.1 := by decide +kernel
theorem tyX8_ok : ∀ k, k < 14 → parseFieldDescriptor (TX8 k).2.2.1 = some (tyX8 k) := by decide +kernel
abbrev cX8_init : ByteArray := prog_10_method_1_code
def yX8_init : MethodName := ⟨RX8, "<init>", "()V"⟩
abbrev cX8_append : ByteArray := prog_10_method_2_code
def yX8_append : MethodName := ⟨RX8, "append", "(I)V"⟩
abbrev cX8_parse : ByteArray := prog_10_method_3_code
def yX8_parse : MethodName := ⟨RX8, "parse", "()LWarmExtents$Text;"⟩
abbrev cX8_listTokens : ByteArray := prog_10_method_4_code
def yX8_listTokens : MethodName := ⟨RX8, "listTokens", "()V"⟩
abbrev cX8_addToken : ByteArray := prog_10_method_5_code
def yX8_addToken : MethodName := ⟨RX8, "addToken", "(III)V"⟩
abbrev cX8_isLetter : ByteArray := prog_10_method_6_code
def yX8_isLetter : MethodName := ⟨RX8, "isLetter", "(I)Z"⟩
abbrev cX8_isDigit : ByteArray := prog_10_method_7_code
def yX8_isDigit : MethodName := ⟨RX8, "isDigit", "(I)Z"⟩
abbrev cX8_isSign : ByteArray := prog_10_method_8_code
def yX8_isSign : MethodName := ⟨RX8, "isSign", "(I)Z"⟩
abbrev cX8_behindLetters : ByteArray := prog_10_method_9_code
def yX8_behindLetters : MethodName := ⟨RX8, "behindLetters", "(I)I"⟩
abbrev cX8_behindDigits : ByteArray := prog_10_method_10_code
def yX8_behindDigits : MethodName := ⟨RX8, "behindDigits", "(I)I"⟩
abbrev cX8_numberFrom : ByteArray := prog_10_method_11_code
def yX8_numberFrom : MethodName := ⟨RX8, "numberFrom", "(II)I"⟩
abbrev cX8_addWord : ByteArray := prog_10_method_12_code
def yX8_addWord : MethodName := ⟨RX8, "addWord", "(II)V"⟩
abbrev cX8_wordKind : ByteArray := prog_10_method_13_code
def yX8_wordKind : MethodName := ⟨RX8, "wordKind", "(II)I"⟩
abbrev cX8_spells : ByteArray := prog_10_method_14_code
def yX8_spells : MethodName := ⟨RX8, "spells", "(Ljava/lang/String;II)Z"⟩
abbrev cX8_blame : ByteArray := prog_10_method_15_code
def yX8_blame : MethodName := ⟨RX8, "blame", "(I)V"⟩
abbrev cX8_take : ByteArray := prog_10_method_16_code
def yX8_take : MethodName := ⟨RX8, "take", "(I)V"⟩
abbrev cX8_statement : ByteArray := prog_10_method_17_code
def yX8_statement : MethodName := ⟨RX8, "statement", "()V"⟩
abbrev cX8_behindWord : ByteArray := prog_10_method_18_code
def yX8_behindWord : MethodName := ⟨RX8, "behindWord", "(I)V"⟩
abbrev cX8_times : ByteArray := prog_10_method_19_code
def yX8_times : MethodName := ⟨RX8, "times", "()V"⟩
abbrev cX8_open : ByteArray := prog_10_method_20_code
def yX8_open : MethodName := ⟨RX8, "open", "(Z)V"⟩
abbrev cX8_close : ByteArray := prog_10_method_21_code
def yX8_close : MethodName := ⟨RX8, "close", "()V"⟩
abbrev cX8_sums : ByteArray := prog_10_method_22_code
def yX8_sums : MethodName := ⟨RX8, "sums", "(I)V"⟩
abbrev cX8_sum : ByteArray := prog_10_method_23_code
def yX8_sum : MethodName := ⟨RX8, "sum", "()V"⟩
abbrev cX8_factor : ByteArray := prog_10_method_24_code
def yX8_factor : MethodName := ⟨RX8, "factor", "()V"⟩
def RX9 : String := "WarmExtents$Text"
def TX9 : u_T := fun k => match k with
  | 0 => ("WarmExtents$Text", "many", "I", true)
  | 1 => ("WarmExtents$Text", "kinds", "[I", true)
  | _ => ("WarmExtents$Text", "values", "[I", true)
def tyX9 : Nat → FieldType := fun k => match k with
  | 0 => .int
  | 1 => .array .int
  | _ => .array .int
abbrev wsX90 : List Cond := u_ws RX9 TX9 3
theorem nmX9 : ∀ a, a < 3 → ∀ b, b < 3 → a ≠ b → (TX9 a).2.1 ≠ (TX9 b).2.1 := by decide +kernel
theorem tyX9_ok : ∀ k, k < 3 → parseFieldDescriptor (TX9 k).2.2.1 = some (tyX9 k) := by decide +kernel
abbrev cX9_init : ByteArray := prog_11_method_1_code
def yX9_init : MethodName := ⟨RX9, "<init>", "([I[II)V"⟩
abbrev cX9_kindAt : ByteArray := prog_11_method_2_code
def yX9_kindAt : MethodName := ⟨RX9, "kindAt", "(I)I"⟩
abbrev cX9_valueAt : ByteArray := prog_11_method_3_code
def yX9_valueAt : MethodName := ⟨RX9, "valueAt", "(I)I"⟩
def RX10 : String := "WarmExtents$World"
def TX10 : u_T := fun k => match k with
  | 0 => ("WarmExtents$World", "count", "[I", true)
  | 1 => ("WarmExtents$World", "extents", "LWarmExtents$Extents;", true)
  | 2 => ("WarmExtents$World", "disks", "LWarmExtents$Disks;", true)
  | 3 => ("WarmExtents$World", "heads", "LWarmExtents$Heads;", true)
  | 4 => ("WarmExtents$World", "moves", "LWarmExtents$Moves;", true)
  | _ => ("WarmExtents$World", "book", "LWarmExtents$Book;", true)
def tyX10 : Nat → FieldType := fun k => match k with
  | 0 => .array .int
  | 1 => .object "WarmExtents$Extents"
  | 2 => .object "WarmExtents$Disks"
  | 3 => .object "WarmExtents$Heads"
  | 4 => .object "WarmExtents$Moves"
  | _ => .object "WarmExtents$Book"
abbrev wsX100 : List Cond := u_ws RX10 TX10 6
theorem nmX10 : ∀ a, a < 6 → ∀ b, b < 6 → a ≠ b → (TX10 a).2.1 ≠ (TX10 b).2.1 := by decide +kernel
theorem tyX10_ok : ∀ k, k < 6 → parseFieldDescriptor (TX10 k).2.2.1 = some (tyX10 k) := by decide +kernel
abbrev cX10_init : ByteArray := prog_12_method_1_code
def yX10_init : MethodName := ⟨RX10, "<init>", "()V"⟩
abbrev cX10_copyFrom : ByteArray := prog_12_method_2_code
def yX10_copyFrom : MethodName := ⟨RX10, "copyFrom", "(LWarmExtents$World;)V"⟩
abbrev cX10_writeDown : ByteArray := prog_12_method_3_code
def yX10_writeDown : MethodName := ⟨RX10, "writeDown", "(III)V"⟩
abbrev cX10_note : ByteArray := prog_12_method_4_code
def yX10_note : MethodName := ⟨RX10, "note", "(III)V"⟩
abbrev cX10_readBlock : ByteArray := prog_12_method_5_code
def yX10_readBlock : MethodName := ⟨RX10, "readBlock", "(II)I"⟩
abbrev cX10_writeBlock : ByteArray := prog_12_method_6_code
def yX10_writeBlock : MethodName := ⟨RX10, "writeBlock", "(III)V"⟩
abbrev cX10_readExtents : ByteArray := prog_12_method_7_code
def yX10_readExtents : MethodName := ⟨RX10, "readExtents", "(III)I"⟩
abbrev cX10_pass : ByteArray := prog_12_method_8_code
def yX10_pass : MethodName := ⟨RX10, "pass", "(ILWarmExtents$Planner;)V"⟩
abbrev cX10_tick : ByteArray := prog_12_method_9_code
def yX10_tick : MethodName := ⟨RX10, "tick", "(LWarmExtents$Planner;)V"⟩
abbrev cX10_moveBlocks : ByteArray := prog_12_method_10_code
def yX10_moveBlocks : MethodName := ⟨RX10, "moveBlocks", "()V"⟩
abbrev cX10_begin : ByteArray := prog_12_method_11_code
def yX10_begin : MethodName := ⟨RX10, "begin", "(I)Z"⟩
abbrev cX10_copyBlocks : ByteArray := prog_12_method_12_code
def yX10_copyBlocks : MethodName := ⟨RX10, "copyBlocks", "(II)I"⟩
abbrev cX10_copyBlock : ByteArray := prog_12_method_13_code
def yX10_copyBlock : MethodName := ⟨RX10, "copyBlock", "(III)V"⟩
abbrev cX10_blocksToCopy : ByteArray := prog_12_method_14_code
def yX10_blocksToCopy : MethodName := ⟨RX10, "blocksToCopy", "(I)I"⟩
abbrev cX10_switchWhole : ByteArray := prog_12_method_15_code
def yX10_switchWhole : MethodName := ⟨RX10, "switchWhole", "()V"⟩
abbrev cX10_switchOver : ByteArray := prog_12_method_16_code
def yX10_switchOver : MethodName := ⟨RX10, "switchOver", "(I)V"⟩
abbrev cX10_makePlan : ByteArray := prog_12_method_17_code
def yX10_makePlan : MethodName := ⟨RX10, "makePlan", "(LWarmExtents$Planner;)V"⟩
abbrev cX10_dropMove : ByteArray := prog_12_method_18_code
def yX10_dropMove : MethodName := ⟨RX10, "dropMove", "(I)V"⟩
abbrev cX10_loseMemory : ByteArray := prog_12_method_19_code
def yX10_loseMemory : MethodName := ⟨RX10, "loseMemory", "()I"⟩
abbrev cX10_live : ByteArray := prog_12_method_20_code
def yX10_live : MethodName := ⟨RX10, "live", "(IILWarmExtents$Planner;)V"⟩
abbrev cX10_happen : ByteArray := prog_12_method_21_code
def yX10_happen : MethodName := ⟨RX10, "happen", "(ILWarmExtents$Planner;)V"⟩
def RX11 : String := "WarmExtents"
def TX11 : u_T := fun k => match k with
  | 0 => ("WarmExtents", "now", "LWarmExtents$World;", true)
  | 1 => ("WarmExtents", "scratch", "LWarmExtents$World;", true)
  | 2 => ("WarmExtents", "steps", "LWarmExtents$History;", true)
  | 3 => ("WarmExtents", "planner", "LWarmExtents$Planner;", true)
  | 4 => ("WarmExtents", "player", "LWarmExtents$Player;", true)
  | 5 => ("WarmExtents", "reader", "LWarmExtents$Reader;", true)
  | 6 => ("WarmExtents", "texts", "[LWarmExtents$Text;", true)
  | 7 => ("WarmExtents", "textCount", "I", false)
  | 8 => ("WarmExtents", "imageWorld", "LWarmExtents$World;", true)
  | 9 => ("WarmExtents", "imageSteps", "LWarmExtents$History;", true)
  | _ => ("WarmExtents", "imageTextCount", "I", false)
def tyX11 : Nat → FieldType := fun k => match k with
  | 0 => .object "WarmExtents$World"
  | 1 => .object "WarmExtents$World"
  | 2 => .object "WarmExtents$History"
  | 3 => .object "WarmExtents$Planner"
  | 4 => .object "WarmExtents$Player"
  | 5 => .object "WarmExtents$Reader"
  | 6 => .array (.object "WarmExtents$Text")
  | 7 => .int
  | 8 => .object "WarmExtents$World"
  | 9 => .object "WarmExtents$History"
  | _ => .int
abbrev wsX110 : List Cond := u_ws RX11 TX11 11
theorem nmX11 : ∀ a, a < 11 → ∀ b, b < 11 → a ≠ b → (TX11 a).2.1 ≠ (TX11 b).2.1 := by decide +kernel
theorem tyX11_ok : ∀ k, k < 11 → parseFieldDescriptor (TX11 k).2.2.1 = some (tyX11 k) := by decide +kernel
abbrev cX11_init : ByteArray := prog_1_method_1_code
def yX11_init : MethodName := ⟨RX11, "<init>", "()V"⟩
abbrev cX11_feed : ByteArray := prog_1_method_2_code
def yX11_feed : MethodName := ⟨RX11, "feed", "(IIIII)I"⟩
abbrev cX11_end : ByteArray := prog_1_method_3_code
def yX11_end : MethodName := ⟨RX11, "end", "(I)I"⟩
abbrev cX11_text : ByteArray := prog_1_method_4_code
def yX11_text : MethodName := ⟨RX11, "text", "()I"⟩
abbrev cX11_fault : ByteArray := prog_1_method_5_code
def yX11_fault : MethodName := ⟨RX11, "fault", "(I)I"⟩
abbrev cX11_read : ByteArray := prog_1_method_6_code
def yX11_read : MethodName := ⟨RX11, "read", "(II)I"⟩
abbrev cX11_write : ByteArray := prog_1_method_7_code
def yX11_write : MethodName := ⟨RX11, "write", "(III)I"⟩
abbrev cX11_scan : ByteArray := prog_1_method_8_code
def yX11_scan : MethodName := ⟨RX11, "scan", "(II)I"⟩
abbrev cX11_pin : ByteArray := prog_1_method_9_code
def yX11_pin : MethodName := ⟨RX11, "pin", "(II)Z"⟩
abbrev cX11_tell : ByteArray := prog_1_method_10_code
def yX11_tell : MethodName := ⟨RX11, "tell", "(II)Z"⟩
abbrev cX11_ask : ByteArray := prog_1_method_11_code
def yX11_ask : MethodName := ⟨RX11, "ask", "(I)I"⟩
abbrev cX11_drop : ByteArray := prog_1_method_12_code
def yX11_drop : MethodName := ⟨RX11, "drop", "(I)I"⟩
abbrev cX11_day : ByteArray := prog_1_method_13_code
def yX11_day : MethodName := ⟨RX11, "day", "(I)I"⟩
abbrev cX11_crash : ByteArray := prog_1_method_14_code
def yX11_crash : MethodName := ⟨RX11, "crash", "()I"⟩
abbrev cX11_played : ByteArray := prog_1_method_15_code
def yX11_played : MethodName := ⟨RX11, "played", "(I)I"⟩
abbrev cX11_years : ByteArray := prog_1_method_16_code
def yX11_years : MethodName := ⟨RX11, "years", "(II)I"⟩
abbrev cX11_undo : ByteArray := prog_1_method_17_code
def yX11_undo : MethodName := ⟨RX11, "undo", "()I"⟩
abbrev cX11_is : ByteArray := prog_1_method_18_code
def yX11_is : MethodName := ⟨RX11, "is", "(I)I"⟩
abbrev cX11_where : ByteArray := prog_1_method_19_code
def yX11_where : MethodName := ⟨RX11, "where", "(I)I"⟩
abbrev cX11_slot : ByteArray := prog_1_method_20_code
def yX11_slot : MethodName := ⟨RX11, "slot", "(II)I"⟩
abbrev cX11_on : ByteArray := prog_1_method_21_code
def yX11_on : MethodName := ⟨RX11, "on", "(II)I"⟩
abbrev cX11_holder : ByteArray := prog_1_method_22_code
def yX11_holder : MethodName := ⟨RX11, "holder", "(I)I"⟩
abbrev cX11_free : ByteArray := prog_1_method_23_code
def yX11_free : MethodName := ⟨RX11, "free", "(I)I"⟩
abbrev cX11_position : ByteArray := prog_1_method_24_code
def yX11_position : MethodName := ⟨RX11, "position", "(II)I"⟩
abbrev cX11_heat : ByteArray := prog_1_method_25_code
def yX11_heat : MethodName := ⟨RX11, "heat", "(I)I"⟩
abbrev cX11_of : ByteArray := prog_1_method_26_code
def yX11_of : MethodName := ⟨RX11, "of", "(II)I"⟩
abbrev cX11_head : ByteArray := prog_1_method_27_code
def yX11_head : MethodName := ⟨RX11, "head", "(II)I"⟩
abbrev cX11_move : ByteArray := prog_1_method_28_code
def yX11_move : MethodName := ⟨RX11, "move", "(II)I"⟩
abbrev cX11_moveOf : ByteArray := prog_1_method_29_code
def yX11_moveOf : MethodName := ⟨RX11, "moveOf", "(I)I"⟩
abbrev cX11_plan : ByteArray := prog_1_method_30_code
def yX11_plan : MethodName := ⟨RX11, "plan", "()I"⟩
abbrev cX11_worth : ByteArray := prog_1_method_31_code
def yX11_worth : MethodName := ⟨RX11, "worth", "(I)I"⟩
abbrev cX11_value : ByteArray := prog_1_method_32_code
def yX11_value : MethodName := ⟨RX11, "value", "(I)I"⟩
abbrev cX11_needs : ByteArray := prog_1_method_33_code
def yX11_needs : MethodName := ⟨RX11, "needs", "(I)I"⟩
abbrev cX11_threshold : ByteArray := prog_1_method_34_code
def yX11_threshold : MethodName := ⟨RX11, "threshold", "(I)I"⟩
abbrev cX11_displaced : ByteArray := prog_1_method_35_code
def yX11_displaced : MethodName := ⟨RX11, "displaced", "(I)I"⟩
abbrev cX11_may : ByteArray := prog_1_method_36_code
def yX11_may : MethodName := ⟨RX11, "may", "(IZ)Z"⟩
abbrev cX11_next : ByteArray := prog_1_method_37_code
def yX11_next : MethodName := ⟨RX11, "next", "(I)I"⟩
abbrev cX11_enough : ByteArray := prog_1_method_38_code
def yX11_enough : MethodName := ⟨RX11, "enough", "()I"⟩
abbrev cX11_gained : ByteArray := prog_1_method_39_code
def yX11_gained : MethodName := ⟨RX11, "gained", "(I)I"⟩
abbrev cX11_foretold : ByteArray := prog_1_method_40_code
def yX11_foretold : MethodName := ⟨RX11, "foretold", "(II)I"⟩
abbrev cX11_copies : ByteArray := prog_1_method_41_code
def yX11_copies : MethodName := ⟨RX11, "copies", "(I)I"⟩
abbrev cX11_would : ByteArray := prog_1_method_42_code
def yX11_would : MethodName := ⟨RX11, "would", "(I)I"⟩
abbrev cX11_cheapest : ByteArray := prog_1_method_43_code
def yX11_cheapest : MethodName := ⟨RX11, "cheapest", "()I"⟩
abbrev cX11_rank : ByteArray := prog_1_method_44_code
def yX11_rank : MethodName := ⟨RX11, "rank", "(I)I"⟩
abbrev cX11_coldest : ByteArray := prog_1_method_45_code
def yX11_coldest : MethodName := ⟨RX11, "coldest", "(I)I"⟩
abbrev cX11_warmth : ByteArray := prog_1_method_46_code
def yX11_warmth : MethodName := ⟨RX11, "warmth", "(I)I"⟩
abbrev cX11_cools : ByteArray := prog_1_method_47_code
def yX11_cools : MethodName := ⟨RX11, "cools", "(I)I"⟩
abbrev cX11_share : ByteArray := prog_1_method_48_code
def yX11_share : MethodName := ⟨RX11, "share", "()I"⟩
abbrev cX11_mean : ByteArray := prog_1_method_49_code
def yX11_mean : MethodName := ⟨RX11, "mean", "()J"⟩
abbrev cX11_book : ByteArray := prog_1_method_50_code
def yX11_book : MethodName := ⟨RX11, "book", "(II)I"⟩
abbrev cX11_ledger : ByteArray := prog_1_method_51_code
def yX11_ledger : MethodName := ⟨RX11, "ledger", "(I)I"⟩
abbrev cX11_image : ByteArray := prog_1_method_52_code
def yX11_image : MethodName := ⟨RX11, "image", "()I"⟩
abbrev cX11_back : ByteArray := prog_1_method_53_code
def yX11_back : MethodName := ⟨RX11, "back", "()I"⟩
abbrev cX11_about : ByteArray := prog_1_method_54_code
def yX11_about : MethodName := ⟨RX11, "about", "(I)I"⟩
abbrev cX11_isExtent : ByteArray := prog_1_method_55_code
def yX11_isExtent : MethodName := ⟨RX11, "isExtent", "(I)Z"⟩
abbrev cX11_isBlock : ByteArray := prog_1_method_56_code
def yX11_isBlock : MethodName := ⟨RX11, "isBlock", "(II)Z"⟩
abbrev cX11_isDays : ByteArray := prog_1_method_57_code
def yX11_isDays : MethodName := ⟨RX11, "isDays", "(I)Z"⟩
abbrev cX11_mostTold : ByteArray := prog_1_method_58_code
def yX11_mostTold : MethodName := ⟨RX11, "mostTold", "(I)I"⟩
abbrev cX11_textAt : ByteArray := prog_1_method_59_code
def yX11_textAt : MethodName := ⟨RX11, "textAt", "(I)LWarmExtents$Text;"⟩
abbrev cX11_bitsOf : ByteArray := prog_1_method_60_code
def yX11_bitsOf : MethodName := ⟨RX11, "bitsOf", "(DII)J"⟩
def RX12 : String := "WarmExtentsModel"
def TX12 : u_T := fun k => match k with
  | 0 => ("WarmExtentsModel", "a", "[I", true)
  | 1 => ("WarmExtentsModel", "image", "[I", true)
  | 2 => ("WarmExtentsModel", "texts", "[I", true)
  | 3 => ("WarmExtentsModel", "tape", "[I", true)
  | 4 => ("WarmExtentsModel", "taped", "I", false)
  | 5 => ("WarmExtentsModel", "fault", "I", false)
  | 6 => ("WarmExtentsModel", "faultPlace", "I", false)
  | 7 => ("WarmExtentsModel", "at", "I", false)
  | 8 => ("WarmExtentsModel", "place", "I", false)
  | 9 => ("WarmExtentsModel", "token", "I", false)
  | 10 => ("WarmExtentsModel", "number", "I", false)
  | 11 => ("WarmExtentsModel", "text0", "I", false)
  | 12 => ("WarmExtentsModel", "stated", "I", false)
  | 13 => ("WarmExtentsModel", "ofLoop", "[Z", true)
  | 14 => ("WarmExtentsModel", "depth", "I", false)
  | 15 => ("WarmExtentsModel", "loops", "I", false)
  | 16 => ("WarmExtentsModel", "fresh", "[I", true)
  | 17 => ("WarmExtentsModel", "going", "I", false)
  | 18 => ("WarmExtentsModel", "acts", "I", false)
  | 19 => ("WarmExtentsModel", "begins", "[I", true)
  | 20 => ("WarmExtentsModel", "times", "[I", true)
  | 21 => ("WarmExtentsModel", "rounds", "[I", true)
  | 22 => ("WarmExtentsModel", "aside", "[I", true)
  | 23 => ("WarmExtentsModel", "bestIn", "I", false)
  | 24 => ("WarmExtentsModel", "bestOut", "I", false)
  | 25 => ("WarmExtentsModel", "worthIn", "I", false)
  | _ => ("WarmExtentsModel", "worthOut", "I", false)
def tyX12 : Nat → FieldType := fun k => match k with
  | 0 => .array .int
  | 1 => .array .int
  | 2 => .array .int
  | 3 => .array .int
  | 4 => .int
  | 5 => .int
  | 6 => .int
  | 7 => .int
  | 8 => .int
  | 9 => .int
  | 10 => .int
  | 11 => .int
  | 12 => .int
  | 13 => .array .boolean
  | 14 => .int
  | 15 => .int
  | 16 => .array .int
  | 17 => .int
  | 18 => .int
  | 19 => .array .int
  | 20 => .array .int
  | 21 => .array .int
  | 22 => .array .int
  | 23 => .int
  | 24 => .int
  | 25 => .int
  | _ => .int
abbrev wsX120 : List Cond := u_ws RX12 TX12 27
theorem nmX12 : ∀ a, a < 27 → ∀ b, b < 27 → a ≠ b → (TX12 a).2.1 ≠ (TX12 b).2.1 := by decide +kernel
theorem tyX12_ok : ∀ k, k < 27 → parseFieldDescriptor (TX12 k).2.2.1 = some (tyX12 k) := by decide +kernel
abbrev cX12_init : ByteArray := prog_14_method_1_code
def yX12_init : MethodName := ⟨RX12, "<init>", "()V"⟩
abbrev cX12_copy : ByteArray := prog_14_method_2_code
def yX12_copy : MethodName := ⟨RX12, "copy", "([I[I)V"⟩
abbrev cX12_isIn : ByteArray := prog_14_method_3_code
def yX12_isIn : MethodName := ⟨RX12, "isIn", "(III)Z"⟩
abbrev cX12_isExtent : ByteArray := prog_14_method_4_code
def yX12_isExtent : MethodName := ⟨RX12, "isExtent", "(I)Z"⟩
abbrev cX12_has : ByteArray := prog_14_method_5_code
def yX12_has : MethodName := ⟨RX12, "has", "(II)Z"⟩
abbrev cX12_bitsOf : ByteArray := prog_14_method_6_code
def yX12_bitsOf : MethodName := ⟨RX12, "bitsOf", "(I)I"⟩
abbrev cX12_sizeOf : ByteArray := prog_14_method_7_code
def yX12_sizeOf : MethodName := ⟨RX12, "sizeOf", "(I)I"⟩
abbrev cX12_firstOf : ByteArray := prog_14_method_8_code
def yX12_firstOf : MethodName := ⟨RX12, "firstOf", "(I)I"⟩
abbrev cX12_isBlock : ByteArray := prog_14_method_9_code
def yX12_isBlock : MethodName := ⟨RX12, "isBlock", "(II)Z"⟩
abbrev cX12_isFast : ByteArray := prog_14_method_11_code
def yX12_isFast : MethodName := ⟨RX12, "isFast", "(I)Z"⟩
abbrev cX12_slotOf : ByteArray := prog_14_method_12_code
def yX12_slotOf : MethodName := ⟨RX12, "slotOf", "(II)I"⟩
abbrev cX12_four : ByteArray := prog_14_method_13_code
def yX12_four : MethodName := ⟨RX12, "four", "(I)V"⟩
abbrev cX12_feed : ByteArray := prog_14_method_14_code
def yX12_feed : MethodName := ⟨RX12, "feed", "(IIIII)I"⟩
abbrev cX12_end : ByteArray := prog_14_method_15_code
def yX12_end : MethodName := ⟨RX12, "end", "(I)I"⟩
abbrev cX12_byteAt : ByteArray := prog_14_method_16_code
def yX12_byteAt : MethodName := ⟨RX12, "byteAt", "(I)I"⟩
abbrev cX12_isLetterByte : ByteArray := prog_14_method_17_code
def yX12_isLetterByte : MethodName := ⟨RX12, "isLetterByte", "(I)Z"⟩
abbrev cX12_isFigure : ByteArray := prog_14_method_18_code
def yX12_isFigure : MethodName := ⟨RX12, "isFigure", "(I)Z"⟩
abbrev cX12_isSign : ByteArray := prog_14_method_19_code
def yX12_isSign : MethodName := ⟨RX12, "isSign", "(I)Z"⟩
abbrev cX12_isWord : ByteArray := prog_14_method_20_code
def yX12_isWord : MethodName := ⟨RX12, "isWord", "(IIIIIIII)Z"⟩
abbrev cX12_wordOf : ByteArray := prog_14_method_21_code
def yX12_wordOf : MethodName := ⟨RX12, "wordOf", "(II)I"⟩
abbrev cX12_nextToken : ByteArray := prog_14_method_22_code
def yX12_nextToken : MethodName := ⟨RX12, "nextToken", "()V"⟩
abbrev cX12_one : ByteArray := prog_14_method_23_code
def yX12_one : MethodName := ⟨RX12, "one", "(I)I"⟩
abbrev cX12_summed : ByteArray := prog_14_method_24_code
def yX12_summed : MethodName := ⟨RX12, "summed", "(I)I"⟩
abbrev cX12_sums : ByteArray := prog_14_method_25_code
def yX12_sums : MethodName := ⟨RX12, "sums", "(II)I"⟩
abbrev cX12_opened : ByteArray := prog_14_method_26_code
def yX12_opened : MethodName := ⟨RX12, "opened", "(Z)I"⟩
abbrev cX12_closed : ByteArray := prog_14_method_27_code
def yX12_closed : MethodName := ⟨RX12, "closed", "()V"⟩
abbrev cX12_loopHead : ByteArray := prog_14_method_28_code
def yX12_loopHead : MethodName := ⟨RX12, "loopHead", "()I"⟩
abbrev cX12_choiceHead : ByteArray := prog_14_method_29_code
def yX12_choiceHead : MethodName := ⟨RX12, "choiceHead", "()I"⟩
abbrev cX12_statement : ByteArray := prog_14_method_30_code
def yX12_statement : MethodName := ⟨RX12, "statement", "()I"⟩
abbrev cX12_readText : ByteArray := prog_14_method_31_code
def yX12_readText : MethodName := ⟨RX12, "readText", "()I"⟩
abbrev cX12_text : ByteArray := prog_14_method_32_code
def yX12_text : MethodName := ⟨RX12, "text", "()I"⟩
abbrev cX12_fault : ByteArray := prog_14_method_33_code
def yX12_fault : MethodName := ⟨RX12, "fault", "(I)I"⟩
abbrev cX12_writeDown : ByteArray := prog_14_method_34_code
def yX12_writeDown : MethodName := ⟨RX12, "writeDown", "(III)V"⟩
abbrev cX12_headAt : ByteArray := prog_14_method_35_code
def yX12_headAt : MethodName := ⟨RX12, "headAt", "(I)I"⟩
abbrev cX12_outHead : ByteArray := prog_14_method_36_code
def yX12_outHead : MethodName := ⟨RX12, "outHead", "(I)V"⟩
abbrev cX12_headed : ByteArray := prog_14_method_37_code
def yX12_headed : MethodName := ⟨RX12, "headed", "(I)I"⟩
abbrev cX12_access : ByteArray := prog_14_method_38_code
def yX12_access : MethodName := ⟨RX12, "access", "(IIIII)V"⟩
abbrev cX12_readNow : ByteArray := prog_14_method_39_code
def yX12_readNow : MethodName := ⟨RX12, "readNow", "(II)I"⟩
abbrev cX12_writeNow : ByteArray := prog_14_method_40_code
def yX12_writeNow : MethodName := ⟨RX12, "writeNow", "(III)I"⟩
abbrev cX12_moveAt : ByteArray := prog_14_method_41_code
def yX12_moveAt : MethodName := ⟨RX12, "moveAt", "(I)I"⟩
abbrev cX12_ofMove : ByteArray := prog_14_method_42_code
def yX12_ofMove : MethodName := ⟨RX12, "ofMove", "(II)I"⟩
abbrev cX12_addMove : ByteArray := prog_14_method_43_code
def yX12_addMove : MethodName := ⟨RX12, "addMove", "(I)V"⟩
abbrev cX12_outMove : ByteArray := prog_14_method_44_code
def yX12_outMove : MethodName := ⟨RX12, "outMove", "(I)V"⟩
abbrev cX12_freeSlots : ByteArray := prog_14_method_45_code
def yX12_freeSlots : MethodName := ⟨RX12, "freeSlots", "(I)V"⟩
abbrev cX12_holderOf : ByteArray := prog_14_method_46_code
def yX12_holderOf : MethodName := ⟨RX12, "holderOf", "(I)I"⟩
abbrev cX12_freeFrom : ByteArray := prog_14_method_47_code
def yX12_freeFrom : MethodName := ⟨RX12, "freeFrom", "(I)I"⟩
abbrev cX12_manyFree : ByteArray := prog_14_method_48_code
def yX12_manyFree : MethodName := ⟨RX12, "manyFree", "()I"⟩
abbrev cX12_dropMove : ByteArray := prog_14_method_49_code
def yX12_dropMove : MethodName := ⟨RX12, "dropMove", "(I)V"⟩
abbrev cX12_toCopy : ByteArray := prog_14_method_50_code
def yX12_toCopy : MethodName := ⟨RX12, "toCopy", "(I)I"⟩
abbrev cX12_isBegun : ByteArray := prog_14_method_51_code
def yX12_isBegun : MethodName := ⟨RX12, "isBegun", "(I)Z"⟩
abbrev cX12_copyBlock : ByteArray := prog_14_method_52_code
def yX12_copyBlock : MethodName := ⟨RX12, "copyBlock", "(I)V"⟩
abbrev cX12_switchMove : ByteArray := prog_14_method_53_code
def yX12_switchMove : MethodName := ⟨RX12, "switchMove", "(I)V"⟩
abbrev cX12_goMoves : ByteArray := prog_14_method_54_code
def yX12_goMoves : MethodName := ⟨RX12, "goMoves", "()V"⟩
abbrev cX12_begunOf : ByteArray := prog_14_method_55_code
def yX12_begunOf : MethodName := ⟨RX12, "begunOf", "(I)I"⟩
abbrev cX12_copiedFor : ByteArray := prog_14_method_56_code
def yX12_copiedFor : MethodName := ⟨RX12, "copiedFor", "(IZ)I"⟩
abbrev cX12_mayBe : ByteArray := prog_14_method_57_code
def yX12_mayBe : MethodName := ⟨RX12, "mayBe", "(IZ)Z"⟩
abbrev cX12_isAllowed : ByteArray := prog_14_method_58_code
def yX12_isAllowed : MethodName := ⟨RX12, "isAllowed", "(II)Z"⟩
abbrev cX12_worthOf : ByteArray := prog_14_method_59_code
def yX12_worthOf : MethodName := ⟨RX12, "worthOf", "(I)I"⟩
abbrev cX12_bestSet : ByteArray := prog_14_method_60_code
def yX12_bestSet : MethodName := ⟨RX12, "bestSet", "(I)I"⟩
abbrev cX12_layNew : ByteArray := prog_14_method_61_code
def yX12_layNew : MethodName := ⟨RX12, "layNew", "(I)I"⟩
abbrev cX12_makePlan : ByteArray := prog_14_method_62_code
def yX12_makePlan : MethodName := ⟨RX12, "makePlan", "()V"⟩
abbrev cX12_endEpoch : ByteArray := prog_14_method_63_code
def yX12_endEpoch : MethodName := ⟨RX12, "endEpoch", "()V"⟩
abbrev cX12_tick : ByteArray := prog_14_method_64_code
def yX12_tick : MethodName := ⟨RX12, "tick", "()V"⟩
abbrev cX12_crashNow : ByteArray := prog_14_method_65_code
def yX12_crashNow : MethodName := ⟨RX12, "crashNow", "()I"⟩
abbrev cX12_scanNow : ByteArray := prog_14_method_66_code
def yX12_scanNow : MethodName := ⟨RX12, "scanNow", "(II)I"⟩
abbrev cX12_ticks : ByteArray := prog_14_method_67_code
def yX12_ticks : MethodName := ⟨RX12, "ticks", "(I)V"⟩
abbrev cX12_drawn : ByteArray := prog_14_method_68_code
def yX12_drawn : MethodName := ⟨RX12, "drawn", "()I"⟩
abbrev cX12_happens : ByteArray := prog_14_method_69_code
def yX12_happens : MethodName := ⟨RX12, "happens", "(I)V"⟩
abbrev cX12_tokenAt : ByteArray := prog_14_method_70_code
def yX12_tokenAt : MethodName := ⟨RX12, "tokenAt", "(I)I"⟩
abbrev cX12_numberAt : ByteArray := prog_14_method_71_code
def yX12_numberAt : MethodName := ⟨RX12, "numberAt", "(I)I"⟩
abbrev cX12_goOne : ByteArray := prog_14_method_72_code
def yX12_goOne : MethodName := ⟨RX12, "goOne", "()I"⟩
abbrev cX12_goProduct : ByteArray := prog_14_method_73_code
def yX12_goProduct : MethodName := ⟨RX12, "goProduct", "()I"⟩
abbrev cX12_goSum : ByteArray := prog_14_method_74_code
def yX12_goSum : MethodName := ⟨RX12, "goSum", "()I"⟩
abbrev cX12_isOver : ByteArray := prog_14_method_75_code
def yX12_isOver : MethodName := ⟨RX12, "isOver", "()Z"⟩
abbrev cX12_goScan : ByteArray := prog_14_method_76_code
def yX12_goScan : MethodName := ⟨RX12, "goScan", "(II)V"⟩
abbrev cX12_passBlock : ByteArray := prog_14_method_77_code
def yX12_passBlock : MethodName := ⟨RX12, "passBlock", "()V"⟩
abbrev cX12_goInto : ByteArray := prog_14_method_78_code
def yX12_goInto : MethodName := ⟨RX12, "goInto", "(I)V"⟩
abbrev cX12_goAround : ByteArray := prog_14_method_79_code
def yX12_goAround : MethodName := ⟨RX12, "goAround", "()V"⟩
abbrev cX12_goChoice : ByteArray := prog_14_method_80_code
def yX12_goChoice : MethodName := ⟨RX12, "goChoice", "()V"⟩
abbrev cX12_goAct : ByteArray := prog_14_method_81_code
def yX12_goAct : MethodName := ⟨RX12, "goAct", "(I)V"⟩
abbrev cX12_goStatement : ByteArray := prog_14_method_82_code
def yX12_goStatement : MethodName := ⟨RX12, "goStatement", "()V"⟩
abbrev cX12_goText : ByteArray := prog_14_method_83_code
def yX12_goText : MethodName := ⟨RX12, "goText", "(I)I"⟩
abbrev cX12_putAside : ByteArray := prog_14_method_84_code
def yX12_putAside : MethodName := ⟨RX12, "putAside", "()V"⟩
abbrev cX12_bringBack : ByteArray := prog_14_method_85_code
def yX12_bringBack : MethodName := ⟨RX12, "bringBack", "()V"⟩
abbrev cX12_stepAt : ByteArray := prog_14_method_86_code
def yX12_stepAt : MethodName := ⟨RX12, "stepAt", "(II)I"⟩
abbrev cX12_keep : ByteArray := prog_14_method_87_code
def yX12_keep : MethodName := ⟨RX12, "keep", "()V"⟩
abbrev cX12_undo : ByteArray := prog_14_method_88_code
def yX12_undo : MethodName := ⟨RX12, "undo", "()I"⟩
abbrev cX12_read : ByteArray := prog_14_method_89_code
def yX12_read : MethodName := ⟨RX12, "read", "(II)I"⟩
abbrev cX12_write : ByteArray := prog_14_method_90_code
def yX12_write : MethodName := ⟨RX12, "write", "(III)I"⟩
abbrev cX12_scan : ByteArray := prog_14_method_91_code
def yX12_scan : MethodName := ⟨RX12, "scan", "(II)I"⟩
abbrev cX12_pin : ByteArray := prog_14_method_92_code
def yX12_pin : MethodName := ⟨RX12, "pin", "(II)Z"⟩
abbrev cX12_tell : ByteArray := prog_14_method_93_code
def yX12_tell : MethodName := ⟨RX12, "tell", "(II)Z"⟩
abbrev cX12_ask : ByteArray := prog_14_method_94_code
def yX12_ask : MethodName := ⟨RX12, "ask", "(I)I"⟩
abbrev cX12_drop : ByteArray := prog_14_method_95_code
def yX12_drop : MethodName := ⟨RX12, "drop", "(I)I"⟩
abbrev cX12_day : ByteArray := prog_14_method_96_code
def yX12_day : MethodName := ⟨RX12, "day", "(I)I"⟩
abbrev cX12_crash : ByteArray := prog_14_method_97_code
def yX12_crash : MethodName := ⟨RX12, "crash", "()I"⟩
abbrev cX12_played : ByteArray := prog_14_method_98_code
def yX12_played : MethodName := ⟨RX12, "played", "(I)I"⟩
abbrev cX12_years : ByteArray := prog_14_method_99_code
def yX12_years : MethodName := ⟨RX12, "years", "(II)I"⟩
abbrev cX12_is : ByteArray := prog_14_method_100_code
def yX12_is : MethodName := ⟨RX12, "is", "(I)I"⟩
abbrev cX12_where : ByteArray := prog_14_method_101_code
def yX12_where : MethodName := ⟨RX12, "where", "(I)I"⟩
abbrev cX12_slot : ByteArray := prog_14_method_102_code
def yX12_slot : MethodName := ⟨RX12, "slot", "(II)I"⟩
abbrev cX12_on : ByteArray := prog_14_method_103_code
def yX12_on : MethodName := ⟨RX12, "on", "(II)I"⟩
abbrev cX12_holder : ByteArray := prog_14_method_104_code
def yX12_holder : MethodName := ⟨RX12, "holder", "(I)I"⟩
abbrev cX12_free : ByteArray := prog_14_method_105_code
def yX12_free : MethodName := ⟨RX12, "free", "(I)I"⟩
abbrev cX12_position : ByteArray := prog_14_method_106_code
def yX12_position : MethodName := ⟨RX12, "position", "(II)I"⟩
abbrev cX12_heat : ByteArray := prog_14_method_107_code
def yX12_heat : MethodName := ⟨RX12, "heat", "(I)I"⟩
abbrev cX12_of : ByteArray := prog_14_method_108_code
def yX12_of : MethodName := ⟨RX12, "of", "(II)I"⟩
abbrev cX12_head : ByteArray := prog_14_method_109_code
def yX12_head : MethodName := ⟨RX12, "head", "(II)I"⟩
abbrev cX12_move : ByteArray := prog_14_method_110_code
def yX12_move : MethodName := ⟨RX12, "move", "(II)I"⟩
abbrev cX12_moveOf : ByteArray := prog_14_method_111_code
def yX12_moveOf : MethodName := ⟨RX12, "moveOf", "(I)I"⟩
abbrev cX12_plan : ByteArray := prog_14_method_112_code
def yX12_plan : MethodName := ⟨RX12, "plan", "()I"⟩
abbrev cX12_worth : ByteArray := prog_14_method_113_code
def yX12_worth : MethodName := ⟨RX12, "worth", "(I)I"⟩
abbrev cX12_value : ByteArray := prog_14_method_114_code
def yX12_value : MethodName := ⟨RX12, "value", "(I)I"⟩
abbrev cX12_may : ByteArray := prog_14_method_115_code
def yX12_may : MethodName := ⟨RX12, "may", "(IZ)Z"⟩
abbrev cX12_next : ByteArray := prog_14_method_116_code
def yX12_next : MethodName := ⟨RX12, "next", "(I)I"⟩
abbrev cX12_enough : ByteArray := prog_14_method_117_code
def yX12_enough : MethodName := ⟨RX12, "enough", "()I"⟩
abbrev cX12_needs : ByteArray := prog_14_method_118_code
def yX12_needs : MethodName := ⟨RX12, "needs", "(I)I"⟩
abbrev cX12_shareOf : ByteArray := prog_14_method_119_code
def yX12_shareOf : MethodName := ⟨RX12, "shareOf", "(II)I"⟩
abbrev cX12_layBests : ByteArray := prog_14_method_120_code
def yX12_layBests : MethodName := ⟨RX12, "layBests", "(I)V"⟩
abbrev cX12_isInWith : ByteArray := prog_14_method_121_code
def yX12_isInWith : MethodName := ⟨RX12, "isInWith", "(II)Z"⟩
abbrev cX12_threshold : ByteArray := prog_14_method_122_code
def yX12_threshold : MethodName := ⟨RX12, "threshold", "(I)I"⟩
abbrev cX12_displaced : ByteArray := prog_14_method_123_code
def yX12_displaced : MethodName := ⟨RX12, "displaced", "(I)I"⟩
abbrev cX12_gained : ByteArray := prog_14_method_124_code
def yX12_gained : MethodName := ⟨RX12, "gained", "(I)I"⟩
abbrev cX12_foretold : ByteArray := prog_14_method_125_code
def yX12_foretold : MethodName := ⟨RX12, "foretold", "(II)I"⟩
abbrev cX12_copies : ByteArray := prog_14_method_126_code
def yX12_copies : MethodName := ⟨RX12, "copies", "(I)I"⟩
abbrev cX12_would : ByteArray := prog_14_method_127_code
def yX12_would : MethodName := ⟨RX12, "would", "(I)I"⟩
abbrev cX12_cheapest : ByteArray := prog_14_method_128_code
def yX12_cheapest : MethodName := ⟨RX12, "cheapest", "()I"⟩
abbrev cX12_isHotter : ByteArray := prog_14_method_129_code
def yX12_isHotter : MethodName := ⟨RX12, "isHotter", "(II)Z"⟩
abbrev cX12_rank : ByteArray := prog_14_method_130_code
def yX12_rank : MethodName := ⟨RX12, "rank", "(I)I"⟩
abbrev cX12_coldest : ByteArray := prog_14_method_131_code
def yX12_coldest : MethodName := ⟨RX12, "coldest", "(I)I"⟩
abbrev cX12_warmth : ByteArray := prog_14_method_132_code
def yX12_warmth : MethodName := ⟨RX12, "warmth", "(I)I"⟩
abbrev cX12_cools : ByteArray := prog_14_method_133_code
def yX12_cools : MethodName := ⟨RX12, "cools", "(I)I"⟩
abbrev cX12_share : ByteArray := prog_14_method_134_code
def yX12_share : MethodName := ⟨RX12, "share", "()I"⟩
abbrev cX12_mean : ByteArray := prog_14_method_135_code
def yX12_mean : MethodName := ⟨RX12, "mean", "()J"⟩
abbrev cX12_book : ByteArray := prog_14_method_136_code
def yX12_book : MethodName := ⟨RX12, "book", "(II)I"⟩
abbrev cX12_ledger : ByteArray := prog_14_method_137_code
def yX12_ledger : MethodName := ⟨RX12, "ledger", "(I)I"⟩
abbrev cX12_image : ByteArray := prog_14_method_138_code
def yX12_image : MethodName := ⟨RX12, "image", "()I"⟩
abbrev cX12_back : ByteArray := prog_14_method_139_code
def yX12_back : MethodName := ⟨RX12, "back", "()I"⟩
abbrev cX12_about : ByteArray := prog_14_method_140_code
def yX12_about : MethodName := ⟨RX12, "about", "(I)I"⟩
def RJxe99ae : String := "java/lang/Double"
def TJxe99ae : u_T := fun k => match k with
  | _ => ("", "", "", false)
def tyJxe99ae : Nat → FieldType := fun k => match k with
  | _ => .int
abbrev wsJxe99ae0 : List Cond := u_ws RJxe99ae TJxe99ae 0
theorem nmJxe99ae : ∀ a, a < 0 → ∀ b, b < 0 → a ≠ b → (TJxe99ae a).2.1 ≠ (TJxe99ae b).2.1 := by decide +kernel
theorem tyJxe99ae_ok : ∀ k, k < 0 → parseFieldDescriptor (TJxe99ae k).2.2.1 = some (tyJxe99ae k) := by decide +kernel
abbrev cJxe99ae_isNaN_b9ae7 : ByteArray := prog_15_method_6_code
def yJxe99ae_isNaN_b9ae7 : MethodName := ⟨RJxe99ae, "isNaN", "(D)Z"⟩
abbrev cJxe99ae_doubleToLongBits_ccdee : ByteArray := prog_15_method_23_code
def yJxe99ae_doubleToLongBits_ccdee : MethodName := ⟨RJxe99ae, "doubleToLongBits", "(D)J"⟩
def RJxf58ca : String := "java/lang/Float"
def TJxf58ca : u_T := fun k => match k with
  | _ => ("", "", "", false)
def tyJxf58ca : Nat → FieldType := fun k => match k with
  | _ => .int
abbrev wsJxf58ca0 : List Cond := u_ws RJxf58ca TJxf58ca 0
theorem nmJxf58ca : ∀ a, a < 0 → ∀ b, b < 0 → a ≠ b → (TJxf58ca a).2.1 ≠ (TJxf58ca b).2.1 := by decide +kernel
theorem tyJxf58ca_ok : ∀ k, k < 0 → parseFieldDescriptor (TJxf58ca k).2.2.1 = some (tyJxf58ca k) := by decide +kernel
abbrev cJxf58ca_isNaN_12338 : ByteArray := prog_16_method_6_code
def yJxf58ca_isNaN_12338 : MethodName := ⟨RJxf58ca, "isNaN", "(F)Z"⟩
abbrev cJxf58ca_floatToIntBits_5c35a : ByteArray := prog_16_method_24_code
def yJxf58ca_floatToIntBits_5c35a : MethodName := ⟨RJxf58ca, "floatToIntBits", "(F)I"⟩
def RJ6 : String := "java/lang/Integer"
def TJ6 : u_T := fun k => match k with
  | _ => ("", "", "", false)
def tyJ6 : Nat → FieldType := fun k => match k with
  | _ => .int
abbrev wsJ60 : List Cond := u_ws RJ6 TJ6 0
theorem nmJ6 : ∀ a, a < 0 → ∀ b, b < 0 → a ≠ b → (TJ6 a).2.1 ≠ (TJ6 b).2.1 := by decide +kernel
theorem tyJ6_ok : ∀ k, k < 0 → parseFieldDescriptor (TJ6 k).2.2.1 = some (tyJ6 k) := by decide +kernel
abbrev cJ6_numberOfLeadingZeros_0f7a4 : ByteArray := prog_17_method_47_code
def yJ6_numberOfLeadingZeros_0f7a4 : MethodName := ⟨RJ6, "numberOfLeadingZeros", "(I)I"⟩
abbrev cJ6_bitCount_0f7a4 : ByteArray := prog_17_method_49_code
def yJ6_bitCount_0f7a4 : MethodName := ⟨RJ6, "bitCount", "(I)I"⟩
def RJ9 : String := "java/lang/Math"
def TJ9 : u_T := fun k => match k with
  | _ => ("", "", "", false)
def tyJ9 : Nat → FieldType := fun k => match k with
  | _ => .int
abbrev wsJ90 : List Cond := u_ws RJ9 TJ9 0
theorem nmJ9 : ∀ a, a < 0 → ∀ b, b < 0 → a ≠ b → (TJ9 a).2.1 ≠ (TJ9 b).2.1 := by decide +kernel
theorem tyJ9_ok : ∀ k, k < 0 → parseFieldDescriptor (TJ9 k).2.2.1 = some (tyJ9 k) := by decide +kernel
abbrev cJ9_min_7cf53 : ByteArray := prog_18_method_69_code
def yJ9_min_7cf53 : MethodName := ⟨RJ9, "min", "(II)I"⟩
def RJ0 : String := "java/lang/String"
def TJ0 : u_T := fun k => match k with
  | _ => ("", "", "", false)
def tyJ0 : Nat → FieldType := fun k => match k with
  | _ => .int
abbrev wsJ00 : List Cond := u_ws RJ0 TJ0 0
theorem nmJ0 : ∀ a, a < 0 → ∀ b, b < 0 → a ≠ b → (TJ0 a).2.1 ≠ (TJ0 b).2.1 := by decide +kernel
theorem tyJ0_ok : ∀ k, k < 0 → parseFieldDescriptor (TJ0 k).2.2.1 = some (tyJ0 k) := by decide +kernel
abbrev cJ0_length_8abf5 : ByteArray := prog_19_method_54_code
def yJ0_length_8abf5 : MethodName := ⟨RJ0, "length", "()I"⟩
abbrev cJ0_charAt_5068e : ByteArray := prog_19_method_56_code
def yJ0_charAt_5068e : MethodName := ⟨RJ0, "charAt", "(I)C"⟩
abbrev cJ0_coder_7d493 : ByteArray := prog_19_method_152_code
def yJ0_coder_7d493 : MethodName := ⟨RJ0, "coder", "()B"⟩
abbrev cJ0_isLatin1_aae02 : ByteArray := prog_19_method_154_code
def yJ0_isLatin1_aae02 : MethodName := ⟨RJ0, "isLatin1", "()Z"⟩
abbrev cJ0_checkIndex_df160 : ByteArray := prog_19_method_155_code
def yJ0_checkIndex_df160 : MethodName := ⟨RJ0, "checkIndex", "(II)V"⟩
def RJ1 : String := "java/lang/StringLatin1"
def TJ1 : u_T := fun k => match k with
  | _ => ("", "", "", false)
def tyJ1 : Nat → FieldType := fun k => match k with
  | _ => .int
abbrev wsJ10 : List Cond := u_ws RJ1 TJ1 0
theorem nmJ1 : ∀ a, a < 0 → ∀ b, b < 0 → a ≠ b → (TJ1 a).2.1 ≠ (TJ1 b).2.1 := by decide +kernel
theorem tyJ1_ok : ∀ k, k < 0 → parseFieldDescriptor (TJ1 k).2.2.1 = some (tyJ1 k) := by decide +kernel
abbrev cJ1_charAt_3b067 : ByteArray := prog_20_method_2_code
def yJ1_charAt_3b067 : MethodName := ⟨RJ1, "charAt", "([BI)C"⟩
def RJ2 : String := "java/lang/StringUTF16"
def TJ2 : u_T := fun k => match k with
  | _ => ("", "", "", false)
def tyJ2 : Nat → FieldType := fun k => match k with
  | _ => .int
abbrev wsJ20 : List Cond := u_ws RJ2 TJ2 0
theorem nmJ2 : ∀ a, a < 0 → ∀ b, b < 0 → a ≠ b → (TJ2 a).2.1 ≠ (TJ2 b).2.1 := by decide +kernel
theorem tyJ2_ok : ∀ k, k < 0 → parseFieldDescriptor (TJ2 k).2.2.1 = some (tyJ2 k) := by decide +kernel
abbrev cJ2_getChar_3b067 : ByteArray := prog_21_method_5_code
def yJ2_getChar_3b067 : MethodName := ⟨RJ2, "getChar", "([BI)C"⟩
abbrev cJ2_length_9d52b : ByteArray := prog_21_method_6_code
def yJ2_length_9d52b : MethodName := ⟨RJ2, "length", "([B)I"⟩
abbrev cJ2_charAt_3b067 : ByteArray := prog_21_method_83_code
def yJ2_charAt_3b067 : MethodName := ⟨RJ2, "charAt", "([BI)C"⟩
abbrev cJ2_checkIndex_2214a : ByteArray := prog_21_method_91_code
def yJ2_checkIndex_2214a : MethodName := ⟨RJ2, "checkIndex", "(I[B)V"⟩
def RJ10 : String := "java/lang/System"
def TJ10 : u_T := fun k => match k with
  | _ => ("", "", "", false)
def tyJ10 : Nat → FieldType := fun k => match k with
  | _ => .int
abbrev wsJ100 : List Cond := u_ws RJ10 TJ10 0
theorem nmJ10 : ∀ a, a < 0 → ∀ b, b < 0 → a ≠ b → (TJ10 a).2.1 ≠ (TJ10 b).2.1 := by decide +kernel
theorem tyJ10_ok : ∀ k, k < 0 → parseFieldDescriptor (TJ10 k).2.2.1 = some (tyJ10 k) := by decide +kernel
def RJ3 : String := "jdk/internal/util/Preconditions"
def TJ3 : u_T := fun k => match k with
  | _ => ("", "", "", false)
def tyJ3 : Nat → FieldType := fun k => match k with
  | _ => .int
abbrev wsJ30 : List Cond := u_ws RJ3 TJ3 0
theorem nmJ3 : ∀ a, a < 0 → ∀ b, b < 0 → a ≠ b → (TJ3 a).2.1 ≠ (TJ3 b).2.1 := by decide +kernel
theorem tyJ3_ok : ∀ k, k < 0 → parseFieldDescriptor (TJ3 k).2.2.1 = some (tyJ3 k) := by decide +kernel
abbrev cJ3_checkIndex_8e157 : ByteArray := prog_23_method_11_code
def yJ3_checkIndex_8e157 : MethodName := ⟨RJ3, "checkIndex", "(IILjava/util/function/BiFunction;)I"⟩
def RL : String := "WarmExtentsLaw"
abbrev cL_law : ByteArray := code
def yL_law : MethodName := ⟨RL, "law", "([I)Z"⟩
